theorem dX10_names_76 : decode cX10_names 76 = .ok (.iastore, 1) := by decide +kernel
theorem dX10_names_77 : decode cX10_names 77 = .ok (.aload_n 0, 1) := by decide +kernel
theorem dX10_names_78 : decode cX10_names 78 = .ok (.getfield 28, 3) := by decide +kernel
theorem dX10_names_81 : decode cX10_names 81 = .ok (.bipush 36, 2) := by decide +kernel
theorem dX10_names_83 : decode cX10_names 83 = .ok (.iaload, 1) := by decide +kernel
theorem dX10_names_84 : decode cX10_names 84 = .ok (.ireturn, 1) := by decide +kernel
theorem dX10_digsFor_0 : decode cX10_digsFor 0 = .ok (.aload_n 0, 1) := by decide +kernel
theorem dX10_digsFor_1 : decode cX10_digsFor 1 = .ok (.getfield 28, 3) := by decide +kernel
theorem dX10_digsFor_4 : decode cX10_digsFor 4 = .ok (.bipush 37, 2) := by decide +kernel
theorem dX10_digsFor_6 : decode cX10_digsFor 6 = .ok (.aload_n 0, 1) := by decide +kernel
theorem dX10_digsFor_7 : decode cX10_digsFor 7 = .ok (.getfield 28, 3) := by decide +kernel
theorem dX10_digsFor_10 : decode cX10_digsFor 10 = .ok (.bipush 37, 2) := by decide +kernel
theorem dX10_digsFor_12 : decode cX10_digsFor 12 = .ok (.iaload, 1) := by decide +kernel
theorem dX10_digsFor_13 : decode cX10_digsFor 13 = .ok (.iload_n 1, 1) := by decide +kernel
theorem dX10_digsFor_14 : decode cX10_digsFor 14 = .ok (.iadd, 1) := by decide +kernel
theorem dX10_digsFor_15 : decode cX10_digsFor 15 = .ok (.ldc 194, 2) := by decide +kernel
theorem dX10_digsFor_17 : decode cX10_digsFor 17 = .ok (.if_icmp .le 8, 3) := by decide +kernel
theorem dX10_digsFor_20 : decode cX10_digsFor 20 = .ok (.ldc 194, 2) := by decide +kernel
theorem dX10_digsFor_22 : decode cX10_digsFor 22 = .ok (.goto 12, 3) := by decide +kernel
theorem dX10_digsFor_25 : decode cX10_digsFor 25 = .ok (.aload_n 0, 1) := by decide +kernel
theorem dX10_digsFor_26 : decode cX10_digsFor 26 = .ok (.getfield 28, 3) := by decide +kernel
theorem dX10_digsFor_29 : decode cX10_digsFor 29 = .ok (.bipush 37, 2) := by decide +kernel
theorem dX10_digsFor_31 : decode cX10_digsFor 31 = .ok (.iaload, 1) := by decide +kernel
theorem dX10_digsFor_32 : decode cX10_digsFor 32 = .ok (.iload_n 1, 1) := by decide +kernel
theorem dX10_digsFor_33 : decode cX10_digsFor 33 = .ok (.iadd, 1) := by decide +kernel
theorem dX10_digsFor_34 : decode cX10_digsFor 34 = .ok (.iastore, 1) := by decide +kernel
theorem dX10_digsFor_35 : decode cX10_digsFor 35 = .ok (.return_, 1) := by decide +kernel
theorem dX10_asks_0 : decode cX10_asks 0 = .ok (.aload_n 0, 1) := by decide +kernel
theorem dX10_asks_1 : decode cX10_asks 1 = .ok (.iconst 0, 1) := by decide +kernel
theorem dX10_asks_2 : decode cX10_asks 2 = .ok (.putfield 89, 3) := by decide +kernel
theorem dX10_asks_5 : decode cX10_asks 5 = .ok (.aload_n 0, 1) := by decide +kernel
theorem dX10_asks_6 : decode cX10_asks 6 = .ok (.getfield 28, 3) := by decide +kernel
theorem dX10_asks_9 : decode cX10_asks 9 = .ok (.bipush 36, 2) := by decide +kernel
theorem dX10_asks_11 : decode cX10_asks 11 = .ok (.iaload, 1) := by decide +kernel
theorem dX10_asks_12 : decode cX10_asks 12 = .ok (.iconst 2, 1) := by decide +kernel
theorem dX10_asks_13 : decode cX10_asks 13 = .ok (.if_icmp .lt 14, 3) := by decide +kernel
theorem dX10_asks_16 : decode cX10_asks 16 = .ok (.aload_n 0, 1) := by decide +kernel
theorem dX10_asks_17 : decode cX10_asks 17 = .ok (.getfield 28, 3) := by decide +kernel
theorem dX10_asks_20 : decode cX10_asks 20 = .ok (.bipush 6, 2) := by decide +kernel
theorem dX10_asks_22 : decode cX10_asks 22 = .ok (.iaload, 1) := by decide +kernel
theorem dX10_asks_23 : decode cX10_asks 23 = .ok (.iconst 4, 1) := by decide +kernel
theorem dX10_asks_24 : decode cX10_asks 24 = .ok (.if_icmp .ne 6, 3) := by decide +kernel
theorem dX10_asks_27 : decode cX10_asks 27 = .ok (.bipush (-2), 2) := by decide +kernel
theorem dX10_asks_29 : decode cX10_asks 29 = .ok (.ireturn, 1) := by decide +kernel
theorem dX10_asks_30 : decode cX10_asks 30 = .ok (.aload_n 0, 1) := by decide +kernel
theorem dX10_asks_31 : decode cX10_asks 31 = .ok (.aload_n 0, 1) := by decide +kernel
theorem dX10_asks_32 : decode cX10_asks 32 = .ok (.invokevirtual 195, 3) := by decide +kernel
theorem dX10_asks_35 : decode cX10_asks 35 = .ok (.invokevirtual 199, 3) := by decide +kernel
theorem dX10_asks_38 : decode cX10_asks 38 = .ok (.aload_n 0, 1) := by decide +kernel
theorem dX10_asks_39 : decode cX10_asks 39 = .ok (.aload_n 0, 1) := by decide +kernel
theorem dX10_asks_40 : decode cX10_asks 40 = .ok (.invokevirtual 202, 3) := by decide +kernel
theorem dX10_asks_43 : decode cX10_asks 43 = .ok (.invokevirtual 205, 3) := by decide +kernel
theorem dX10_asks_46 : decode cX10_asks 46 = .ok (.istore_n 1, 1) := by decide +kernel
theorem dX10_asks_47 : decode cX10_asks 47 = .ok (.iload_n 1, 1) := by decide +kernel
theorem dX10_asks_48 : decode cX10_asks 48 = .ok (.ldc 167, 2) := by decide +kernel
theorem dX10_asks_50 : decode cX10_asks 50 = .ok (.if_icmp .ne 6, 3) := by decide +kernel
theorem dX10_asks_53 : decode cX10_asks 53 = .ok (.bipush (-2), 2) := by decide +kernel
theorem dX10_asks_55 : decode cX10_asks 55 = .ok (.ireturn, 1) := by decide +kernel
theorem dX10_asks_56 : decode cX10_asks 56 = .ok (.aload_n 0, 1) := by decide +kernel
theorem dX10_asks_57 : decode cX10_asks 57 = .ok (.invokevirtual 191, 3) := by decide +kernel
theorem dX10_asks_60 : decode cX10_asks 60 = .ok (.iconst 0, 1) := by decide +kernel
theorem dX10_asks_61 : decode cX10_asks 61 = .ok (.istore_n 2, 1) := by decide +kernel
theorem dX10_asks_62 : decode cX10_asks 62 = .ok (.iload_n 2, 1) := by decide +kernel
theorem dX10_asks_63 : decode cX10_asks 63 = .ok (.bipush 6, 2) := by decide +kernel
theorem dX10_asks_65 : decode cX10_asks 65 = .ok (.if_icmp .ge 44, 3) := by decide +kernel
theorem dX10_asks_68 : decode cX10_asks 68 = .ok (.aload_n 0, 1) := by decide +kernel
theorem dX10_asks_69 : decode cX10_asks 69 = .ok (.getfield 28, 3) := by decide +kernel
theorem dX10_asks_72 : decode cX10_asks 72 = .ok (.iconst 0, 1) := by decide +kernel
theorem dX10_asks_73 : decode cX10_asks 73 = .ok (.iload_n 2, 1) := by decide +kernel
theorem dX10_asks_74 : decode cX10_asks 74 = .ok (.iadd, 1) := by decide +kernel
theorem dX10_asks_75 : decode cX10_asks 75 = .ok (.iload_n 2, 1) := by decide +kernel
theorem dX10_asks_76 : decode cX10_asks 76 = .ok (.aload_n 0, 1) := by decide +kernel
theorem dX10_asks_77 : decode cX10_asks 77 = .ok (.getfield 13, 3) := by decide +kernel
theorem dX10_asks_80 : decode cX10_asks 80 = .ok (.iconst 1, 1) := by decide +kernel
theorem dX10_asks_81 : decode cX10_asks 81 = .ok (.iaload, 1) := by decide +kernel
theorem dX10_asks_82 : decode cX10_asks 82 = .ok (.if_icmp .ge 12, 3) := by decide +kernel
theorem dX10_asks_85 : decode cX10_asks 85 = .ok (.aload_n 0, 1) := by decide +kernel
theorem dX10_asks_86 : decode cX10_asks 86 = .ok (.getfield 71, 3) := by decide +kernel
theorem dX10_asks_89 : decode cX10_asks 89 = .ok (.iload_n 2, 1) := by decide +kernel
theorem dX10_asks_90 : decode cX10_asks 90 = .ok (.iaload, 1) := by decide +kernel
theorem dX10_asks_91 : decode cX10_asks 91 = .ok (.goto 11, 3) := by decide +kernel
theorem dX10_asks_94 : decode cX10_asks 94 = .ok (.aload_n 0, 1) := by decide +kernel
theorem dX10_asks_95 : decode cX10_asks 95 = .ok (.getfield 28, 3) := by decide +kernel
theorem dX10_asks_98 : decode cX10_asks 98 = .ok (.iconst 0, 1) := by decide +kernel
theorem dX10_asks_99 : decode cX10_asks 99 = .ok (.iload_n 2, 1) := by decide +kernel
theorem dX10_asks_100 : decode cX10_asks 100 = .ok (.iadd, 1) := by decide +kernel
theorem dX10_asks_101 : decode cX10_asks 101 = .ok (.iaload, 1) := by decide +kernel
theorem dX10_asks_102 : decode cX10_asks 102 = .ok (.iastore, 1) := by decide +kernel
theorem dX10_asks_103 : decode cX10_asks 103 = .ok (.iinc 2 1, 3) := by decide +kernel
theorem dX10_asks_106 : decode cX10_asks 106 = .ok (.goto (-44), 3) := by decide +kernel
theorem dX10_asks_109 : decode cX10_asks 109 = .ok (.aload_n 0, 1) := by decide +kernel
theorem dX10_asks_110 : decode cX10_asks 110 = .ok (.iload_n 1, 1) := by decide +kernel
theorem dX10_asks_111 : decode cX10_asks 111 = .ok (.invokevirtual 208, 3) := by decide +kernel
theorem dX10_asks_114 : decode cX10_asks 114 = .ok (.aload_n 0, 1) := by decide +kernel
theorem dX10_asks_115 : decode cX10_asks 115 = .ok (.getfield 28, 3) := by decide +kernel
theorem dX10_asks_118 : decode cX10_asks 118 = .ok (.bipush 6, 2) := by decide +kernel
theorem dX10_asks_120 : decode cX10_asks 120 = .ok (.iaload, 1) := by decide +kernel
theorem dX10_asks_121 : decode cX10_asks 121 = .ok (.istore_n 2, 1) := by decide +kernel
theorem dX10_asks_122 : decode cX10_asks 122 = .ok (.iconst 0, 1) := by decide +kernel
theorem dX10_asks_123 : decode cX10_asks 123 = .ok (.istore_n 3, 1) := by decide +kernel
theorem dX10_asks_124 : decode cX10_asks 124 = .ok (.iload_n 3, 1) := by decide +kernel
theorem dX10_asks_125 : decode cX10_asks 125 = .ok (.iconst 5, 1) := by decide +kernel
theorem dX10_asks_126 : decode cX10_asks 126 = .ok (.if_icmp .ge 56, 3) := by decide +kernel
theorem dX10_asks_129 : decode cX10_asks 129 = .ok (.aload_n 0, 1) := by decide +kernel
theorem dX10_asks_130 : decode cX10_asks 130 = .ok (.getfield 28, 3) := by decide +kernel
theorem dX10_asks_133 : decode cX10_asks 133 = .ok (.bipush 11, 2) := by decide +kernel
theorem dX10_asks_135 : decode cX10_asks 135 = .ok (.iconst 5, 1) := by decide +kernel
theorem dX10_asks_136 : decode cX10_asks 136 = .ok (.iload_n 2, 1) := by decide +kernel
theorem dX10_asks_137 : decode cX10_asks 137 = .ok (.imul, 1) := by decide +kernel
theorem dX10_asks_138 : decode cX10_asks 138 = .ok (.iadd, 1) := by decide +kernel
theorem dX10_asks_139 : decode cX10_asks 139 = .ok (.iload_n 3, 1) := by decide +kernel
theorem dX10_asks_140 : decode cX10_asks 140 = .ok (.iadd, 1) := by decide +kernel
theorem dX10_asks_141 : decode cX10_asks 141 = .ok (.iload_n 3, 1) := by decide +kernel
theorem dX10_asks_142 : decode cX10_asks 142 = .ok (.aload_n 0, 1) := by decide +kernel
theorem dX10_asks_143 : decode cX10_asks 143 = .ok (.getfield 28, 3) := by decide +kernel
theorem dX10_asks_146 : decode cX10_asks 146 = .ok (.bipush 36, 2) := by decide +kernel
theorem dX10_asks_148 : decode cX10_asks 148 = .ok (.iaload, 1) := by decide +kernel
theorem dX10_asks_149 : decode cX10_asks 149 = .ok (.if_icmp .ge 15, 3) := by decide +kernel
theorem dX10_asks_152 : decode cX10_asks 152 = .ok (.aload_n 0, 1) := by decide +kernel
theorem dX10_asks_153 : decode cX10_asks 153 = .ok (.getfield 28, 3) := by decide +kernel
theorem dX10_asks_156 : decode cX10_asks 156 = .ok (.bipush 31, 2) := by decide +kernel
theorem dX10_asks_158 : decode cX10_asks 158 = .ok (.iload_n 3, 1) := by decide +kernel
theorem dX10_asks_159 : decode cX10_asks 159 = .ok (.iadd, 1) := by decide +kernel
theorem dX10_asks_160 : decode cX10_asks 160 = .ok (.iaload, 1) := by decide +kernel
theorem dX10_asks_161 : decode cX10_asks 161 = .ok (.goto 4, 3) := by decide +kernel
theorem dX10_asks_164 : decode cX10_asks 164 = .ok (.iconst 0, 1) := by decide +kernel
theorem dX10_asks_165 : decode cX10_asks 165 = .ok (.iastore, 1) := by decide +kernel
theorem dX10_asks_166 : decode cX10_asks 166 = .ok (.aload_n 0, 1) := by decide +kernel
theorem dX10_asks_167 : decode cX10_asks 167 = .ok (.getfield 28, 3) := by decide +kernel
theorem dX10_asks_170 : decode cX10_asks 170 = .ok (.bipush 31, 2) := by decide +kernel
theorem dX10_asks_172 : decode cX10_asks 172 = .ok (.iload_n 3, 1) := by decide +kernel
theorem dX10_asks_173 : decode cX10_asks 173 = .ok (.iadd, 1) := by decide +kernel
theorem dX10_asks_174 : decode cX10_asks 174 = .ok (.iconst 0, 1) := by decide +kernel
theorem dX10_asks_175 : decode cX10_asks 175 = .ok (.iastore, 1) := by decide +kernel
theorem dX10_asks_176 : decode cX10_asks 176 = .ok (.iinc 3 1, 3) := by decide +kernel
theorem dX10_asks_179 : decode cX10_asks 179 = .ok (.goto (-55), 3) := by decide +kernel
theorem dX10_asks_182 : decode cX10_asks 182 = .ok (.aload_n 0, 1) := by decide +kernel
theorem dX10_asks_183 : decode cX10_asks 183 = .ok (.getfield 28, 3) := by decide +kernel
theorem dX10_asks_186 : decode cX10_asks 186 = .ok (.bipush 7, 2) := by decide +kernel
theorem dX10_asks_188 : decode cX10_asks 188 = .ok (.iload_n 2, 1) := by decide +kernel
theorem dX10_asks_189 : decode cX10_asks 189 = .ok (.iadd, 1) := by decide +kernel
theorem dX10_asks_190 : decode cX10_asks 190 = .ok (.aload_n 0, 1) := by decide +kernel
theorem dX10_asks_191 : decode cX10_asks 191 = .ok (.getfield 28, 3) := by decide +kernel
theorem dX10_asks_194 : decode cX10_asks 194 = .ok (.bipush 36, 2) := by decide +kernel
theorem dX10_asks_196 : decode cX10_asks 196 = .ok (.iaload, 1) := by decide +kernel
theorem dX10_asks_197 : decode cX10_asks 197 = .ok (.iastore, 1) := by decide +kernel
theorem dX10_asks_198 : decode cX10_asks 198 = .ok (.aload_n 0, 1) := by decide +kernel
theorem dX10_asks_199 : decode cX10_asks 199 = .ok (.getfield 28, 3) := by decide +kernel
theorem dX10_asks_202 : decode cX10_asks 202 = .ok (.bipush 36, 2) := by decide +kernel
theorem dX10_asks_204 : decode cX10_asks 204 = .ok (.iconst 0, 1) := by decide +kernel
theorem dX10_asks_205 : decode cX10_asks 205 = .ok (.iastore, 1) := by decide +kernel
theorem dX10_asks_206 : decode cX10_asks 206 = .ok (.aload_n 0, 1) := by decide +kernel
theorem dX10_asks_207 : decode cX10_asks 207 = .ok (.getfield 28, 3) := by decide +kernel
theorem dX10_asks_210 : decode cX10_asks 210 = .ok (.bipush 6, 2) := by decide +kernel
theorem dX10_asks_212 : decode cX10_asks 212 = .ok (.dup2, 1) := by decide +kernel
theorem dX10_asks_213 : decode cX10_asks 213 = .ok (.iaload, 1) := by decide +kernel
theorem dX10_asks_214 : decode cX10_asks 214 = .ok (.iconst 1, 1) := by decide +kernel
theorem dX10_asks_215 : decode cX10_asks 215 = .ok (.iadd, 1) := by decide +kernel
theorem dX10_asks_216 : decode cX10_asks 216 = .ok (.iastore, 1) := by decide +kernel
theorem dX10_asks_217 : decode cX10_asks 217 = .ok (.iload_n 1, 1) := by decide +kernel
theorem dX10_asks_218 : decode cX10_asks 218 = .ok (.ireturn, 1) := by decide +kernel
theorem dX10_apart_0 : decode cX10_apart 0 = .ok (.iload_n 0, 1) := by decide +kernel
theorem dX10_apart_1 : decode cX10_apart 1 = .ok (.iload_n 1, 1) := by decide +kernel
theorem dX10_apart_2 : decode cX10_apart 2 = .ok (.if_icmp .ge 9, 3) := by decide +kernel
theorem dX10_apart_5 : decode cX10_apart 5 = .ok (.iload_n 1, 1) := by decide +kernel
theorem dX10_apart_6 : decode cX10_apart 6 = .ok (.iload_n 0, 1) := by decide +kernel
theorem dX10_apart_7 : decode cX10_apart 7 = .ok (.isub, 1) := by decide +kernel
theorem dX10_apart_8 : decode cX10_apart 8 = .ok (.goto 6, 3) := by decide +kernel
theorem dX10_apart_11 : decode cX10_apart 11 = .ok (.iload_n 0, 1) := by decide +kernel
theorem dX10_apart_12 : decode cX10_apart 12 = .ok (.iload_n 1, 1) := by decide +kernel
theorem dX10_apart_13 : decode cX10_apart 13 = .ok (.isub, 1) := by decide +kernel
theorem dX10_apart_14 : decode cX10_apart 14 = .ok (.ireturn, 1) := by decide +kernel
theorem dX10_digs_0 : decode cX10_digs 0 = .ok (.aload_n 0, 1) := by decide +kernel
theorem dX10_digs_1 : decode cX10_digs 1 = .ok (.iconst 0, 1) := by decide +kernel
theorem dX10_digs_2 : decode cX10_digs 2 = .ok (.putfield 89, 3) := by decide +kernel
theorem dX10_digs_5 : decode cX10_digs 5 = .ok (.aload_n 0, 1) := by decide +kernel
theorem dX10_digs_6 : decode cX10_digs 6 = .ok (.iload_n 1, 1) := by decide +kernel
theorem dX10_digs_7 : decode cX10_digs 7 = .ok (.invokevirtual 171, 3) := by decide +kernel
theorem dX10_digs_10 : decode cX10_digs 10 = .ok (.ifCond .eq 12, 3) := by decide +kernel
theorem dX10_digs_13 : decode cX10_digs 13 = .ok (.iload_n 2, 1) := by decide +kernel
theorem dX10_digs_14 : decode cX10_digs 14 = .ok (.iconst 1, 1) := by decide +kernel
theorem dX10_digs_15 : decode cX10_digs 15 = .ok (.iconst 5, 1) := by decide +kernel
theorem dX10_digs_16 : decode cX10_digs 16 = .ok (.invokestatic 93, 3) := by decide +kernel
theorem dX10_digs_19 : decode cX10_digs 19 = .ok (.ifCond .ne 5, 3) := by decide +kernel
theorem dX10_digs_22 : decode cX10_digs 22 = .ok (.iconst (-1), 1) := by decide +kernel
theorem dX10_digs_23 : decode cX10_digs 23 = .ok (.ireturn, 1) := by decide +kernel
theorem dX10_digs_24 : decode cX10_digs 24 = .ok (.aload_n 0, 1) := by decide +kernel
theorem dX10_digs_25 : decode cX10_digs 25 = .ok (.getfield 28, 3) := by decide +kernel
theorem dX10_digs_28 : decode cX10_digs 28 = .ok (.iconst 0, 1) := by decide +kernel
theorem dX10_digs_29 : decode cX10_digs 29 = .ok (.iload_n 1, 1) := by decide +kernel
theorem dX10_digs_30 : decode cX10_digs 30 = .ok (.iadd, 1) := by decide +kernel
theorem dX10_digs_31 : decode cX10_digs 31 = .ok (.iaload, 1) := by decide +kernel
theorem dX10_digs_32 : decode cX10_digs 32 = .ok (.istore_n 3, 1) := by decide +kernel
theorem dX10_digs_33 : decode cX10_digs 33 = .ok (.iload_n 3, 1) := by decide +kernel
theorem dX10_digs_34 : decode cX10_digs 34 = .ok (.iload_n 2, 1) := by decide +kernel
theorem dX10_digs_35 : decode cX10_digs 35 = .ok (.if_icmp .ne 6, 3) := by decide +kernel
theorem dX10_digs_38 : decode cX10_digs 38 = .ok (.bipush (-2), 2) := by decide +kernel
theorem dX10_digs_40 : decode cX10_digs 40 = .ok (.ireturn, 1) := by decide +kernel
theorem dX10_digs_41 : decode cX10_digs 41 = .ok (.aload_n 0, 1) := by decide +kernel
theorem dX10_digs_42 : decode cX10_digs 42 = .ok (.invokevirtual 191, 3) := by decide +kernel
theorem dX10_digs_45 : decode cX10_digs 45 = .ok (.aload_n 0, 1) := by decide +kernel
theorem dX10_digs_46 : decode cX10_digs 46 = .ok (.getfield 28, 3) := by decide +kernel
theorem dX10_digs_49 : decode cX10_digs 49 = .ok (.iconst 0, 1) := by decide +kernel
theorem dX10_digs_50 : decode cX10_digs 50 = .ok (.iload_n 1, 1) := by decide +kernel
theorem dX10_digs_51 : decode cX10_digs 51 = .ok (.iadd, 1) := by decide +kernel
theorem dX10_digs_52 : decode cX10_digs 52 = .ok (.iload_n 2, 1) := by decide +kernel
theorem dX10_digs_53 : decode cX10_digs 53 = .ok (.iastore, 1) := by decide +kernel
theorem dX10_digs_54 : decode cX10_digs 54 = .ok (.aload_n 0, 1) := by decide +kernel
theorem dX10_digs_55 : decode cX10_digs 55 = .ok (.aload_n 0, 1) := by decide +kernel
theorem dX10_digs_56 : decode cX10_digs 56 = .ok (.getfield 22, 3) := by decide +kernel
theorem dX10_digs_59 : decode cX10_digs 59 = .ok (.iload_n 1, 1) := by decide +kernel
theorem dX10_digs_60 : decode cX10_digs 60 = .ok (.iaload, 1) := by decide +kernel
theorem dX10_digs_61 : decode cX10_digs 61 = .ok (.iload_n 3, 1) := by decide +kernel
theorem dX10_digs_62 : decode cX10_digs 62 = .ok (.iload_n 2, 1) := by decide +kernel
theorem dX10_digs_63 : decode cX10_digs 63 = .ok (.invokestatic 211, 3) := by decide +kernel
theorem dX10_digs_66 : decode cX10_digs 66 = .ok (.imul, 1) := by decide +kernel
theorem dX10_digs_67 : decode cX10_digs 67 = .ok (.invokevirtual 208, 3) := by decide +kernel
theorem dX10_digs_70 : decode cX10_digs 70 = .ok (.iload_n 3, 1) := by decide +kernel
theorem dX10_digs_71 : decode cX10_digs 71 = .ok (.ireturn, 1) := by decide +kernel
theorem dX10_burns_0 : decode cX10_burns 0 = .ok (.aload_n 0, 1) := by decide +kernel
theorem dX10_burns_1 : decode cX10_burns 1 = .ok (.iconst 0, 1) := by decide +kernel
theorem dX10_burns_2 : decode cX10_burns 2 = .ok (.putfield 89, 3) := by decide +kernel
theorem dX10_burns_5 : decode cX10_burns 5 = .ok (.aload_n 0, 1) := by decide +kernel
theorem dX10_burns_6 : decode cX10_burns 6 = .ok (.iload_n 1, 1) := by decide +kernel
theorem dX10_burns_7 : decode cX10_burns 7 = .ok (.invokevirtual 178, 3) := by decide +kernel
theorem dX10_burns_10 : decode cX10_burns 10 = .ok (.ifCond .ne 5, 3) := by decide +kernel
theorem dX10_burns_13 : decode cX10_burns 13 = .ok (.iconst (-1), 1) := by decide +kernel
theorem dX10_burns_14 : decode cX10_burns 14 = .ok (.ireturn, 1) := by decide +kernel
theorem dX10_burns_15 : decode cX10_burns 15 = .ok (.aload_n 0, 1) := by decide +kernel
theorem dX10_burns_16 : decode cX10_burns 16 = .ok (.invokevirtual 191, 3) := by decide +kernel
theorem dX10_burns_19 : decode cX10_burns 19 = .ok (.iload_n 1, 1) := by decide +kernel
theorem dX10_burns_20 : decode cX10_burns 20 = .ok (.istore_n 2, 1) := by decide +kernel
theorem dX10_burns_21 : decode cX10_burns 21 = .ok (.iload_n 2, 1) := by decide +kernel
theorem dX10_burns_22 : decode cX10_burns 22 = .ok (.iconst 3, 1) := by decide +kernel
theorem dX10_burns_23 : decode cX10_burns 23 = .ok (.if_icmp .ge 70, 3) := by decide +kernel
theorem dX10_burns_26 : decode cX10_burns 26 = .ok (.aload_n 0, 1) := by decide +kernel
theorem dX10_burns_27 : decode cX10_burns 27 = .ok (.getfield 28, 3) := by decide +kernel
theorem dX10_burns_30 : decode cX10_burns 30 = .ok (.bipush 7, 2) := by decide +kernel
theorem dX10_burns_32 : decode cX10_burns 32 = .ok (.iload_n 2, 1) := by decide +kernel
theorem dX10_burns_33 : decode cX10_burns 33 = .ok (.iadd, 1) := by decide +kernel
theorem dX10_burns_34 : decode cX10_burns 34 = .ok (.aload_n 0, 1) := by decide +kernel
theorem dX10_burns_35 : decode cX10_burns 35 = .ok (.getfield 28, 3) := by decide +kernel
theorem dX10_burns_38 : decode cX10_burns 38 = .ok (.bipush 7, 2) := by decide +kernel
theorem dX10_burns_40 : decode cX10_burns 40 = .ok (.iload_n 2, 1) := by decide +kernel
theorem dX10_burns_41 : decode cX10_burns 41 = .ok (.iadd, 1) := by decide +kernel
theorem dX10_burns_42 : decode cX10_burns 42 = .ok (.iconst 1, 1) := by decide +kernel
theorem dX10_burns_43 : decode cX10_burns 43 = .ok (.iadd, 1) := by decide +kernel
theorem dX10_burns_44 : decode cX10_burns 44 = .ok (.iaload, 1) := by decide +kernel
theorem dX10_burns_45 : decode cX10_burns 45 = .ok (.iastore, 1) := by decide +kernel
theorem dX10_burns_46 : decode cX10_burns 46 = .ok (.iconst 0, 1) := by decide +kernel
theorem dX10_burns_47 : decode cX10_burns 47 = .ok (.istore_n 3, 1) := by decide +kernel
theorem dX10_burns_48 : decode cX10_burns 48 = .ok (.iload_n 3, 1) := by decide +kernel
theorem dX10_burns_49 : decode cX10_burns 49 = .ok (.iconst 5, 1) := by decide +kernel
theorem dX10_burns_50 : decode cX10_burns 50 = .ok (.if_icmp .ge 37, 3) := by decide +kernel
theorem dX10_burns_53 : decode cX10_burns 53 = .ok (.aload_n 0, 1) := by decide +kernel
theorem dX10_burns_54 : decode cX10_burns 54 = .ok (.getfield 28, 3) := by decide +kernel
theorem dX10_burns_57 : decode cX10_burns 57 = .ok (.bipush 11, 2) := by decide +kernel
theorem dX10_burns_59 : decode cX10_burns 59 = .ok (.iconst 5, 1) := by decide +kernel
theorem dX10_burns_60 : decode cX10_burns 60 = .ok (.iload_n 2, 1) := by decide +kernel
theorem dX10_burns_61 : decode cX10_burns 61 = .ok (.imul, 1) := by decide +kernel
theorem dX10_burns_62 : decode cX10_burns 62 = .ok (.iadd, 1) := by decide +kernel
theorem dX10_burns_63 : decode cX10_burns 63 = .ok (.iload_n 3, 1) := by decide +kernel
theorem dX10_burns_64 : decode cX10_burns 64 = .ok (.iadd, 1) := by decide +kernel
theorem dX10_burns_65 : decode cX10_burns 65 = .ok (.aload_n 0, 1) := by decide +kernel
theorem dX10_burns_66 : decode cX10_burns 66 = .ok (.getfield 28, 3) := by decide +kernel
theorem dX10_burns_69 : decode cX10_burns 69 = .ok (.bipush 11, 2) := by decide +kernel
theorem dX10_burns_71 : decode cX10_burns 71 = .ok (.iconst 5, 1) := by decide +kernel
theorem dX10_burns_72 : decode cX10_burns 72 = .ok (.iload_n 2, 1) := by decide +kernel
theorem dX10_burns_73 : decode cX10_burns 73 = .ok (.imul, 1) := by decide +kernel
theorem dX10_burns_74 : decode cX10_burns 74 = .ok (.iadd, 1) := by decide +kernel
theorem dX10_burns_75 : decode cX10_burns 75 = .ok (.iconst 5, 1) := by decide +kernel
theorem dX10_burns_76 : decode cX10_burns 76 = .ok (.iadd, 1) := by decide +kernel
theorem dX10_burns_77 : decode cX10_burns 77 = .ok (.iload_n 3, 1) := by decide +kernel
theorem dX10_burns_78 : decode cX10_burns 78 = .ok (.iadd, 1) := by decide +kernel
theorem dX10_burns_79 : decode cX10_burns 79 = .ok (.iaload, 1) := by decide +kernel
theorem dX10_burns_80 : decode cX10_burns 80 = .ok (.iastore, 1) := by decide +kernel
theorem dX10_burns_81 : decode cX10_burns 81 = .ok (.iinc 3 1, 3) := by decide +kernel
theorem dX10_burns_84 : decode cX10_burns 84 = .ok (.goto (-36), 3) := by decide +kernel
theorem dX10_burns_87 : decode cX10_burns 87 = .ok (.iinc 2 1, 3) := by decide +kernel
theorem dX10_burns_90 : decode cX10_burns 90 = .ok (.goto (-69), 3) := by decide +kernel
theorem dX10_burns_93 : decode cX10_burns 93 = .ok (.aload_n 0, 1) := by decide +kernel
theorem dX10_burns_94 : decode cX10_burns 94 = .ok (.getfield 28, 3) := by decide +kernel
theorem dX10_burns_97 : decode cX10_burns 97 = .ok (.bipush 6, 2) := by decide +kernel
theorem dX10_burns_99 : decode cX10_burns 99 = .ok (.dup2, 1) := by decide +kernel
theorem dX10_burns_100 : decode cX10_burns 100 = .ok (.iaload, 1) := by decide +kernel
theorem dX10_burns_101 : decode cX10_burns 101 = .ok (.iconst 1, 1) := by decide +kernel
theorem dX10_burns_102 : decode cX10_burns 102 = .ok (.isub, 1) := by decide +kernel
theorem dX10_burns_103 : decode cX10_burns 103 = .ok (.iastore, 1) := by decide +kernel
theorem dX10_burns_104 : decode cX10_burns 104 = .ok (.aload_n 0, 1) := by decide +kernel
theorem dX10_burns_105 : decode cX10_burns 105 = .ok (.getfield 28, 3) := by decide +kernel
theorem dX10_burns_108 : decode cX10_burns 108 = .ok (.bipush 6, 2) := by decide +kernel
theorem dX10_burns_110 : decode cX10_burns 110 = .ok (.iaload, 1) := by decide +kernel
theorem dX10_burns_111 : decode cX10_burns 111 = .ok (.ireturn, 1) := by decide +kernel
theorem dX10_wipes_0 : decode cX10_wipes 0 = .ok (.aload_n 0, 1) := by decide +kernel
theorem dX10_wipes_1 : decode cX10_wipes 1 = .ok (.iconst 0, 1) := by decide +kernel
theorem dX10_wipes_2 : decode cX10_wipes 2 = .ok (.putfield 89, 3) := by decide +kernel
theorem dX10_wipes_5 : decode cX10_wipes 5 = .ok (.aload_n 0, 1) := by decide +kernel
theorem dX10_wipes_6 : decode cX10_wipes 6 = .ok (.getfield 28, 3) := by decide +kernel
theorem dX10_wipes_9 : decode cX10_wipes 9 = .ok (.bipush 36, 2) := by decide +kernel
theorem dX10_wipes_11 : decode cX10_wipes 11 = .ok (.iaload, 1) := by decide +kernel
theorem dX10_wipes_12 : decode cX10_wipes 12 = .ok (.ifCond .ne 6, 3) := by decide +kernel
theorem dX10_wipes_15 : decode cX10_wipes 15 = .ok (.bipush (-2), 2) := by decide +kernel
theorem dX10_wipes_17 : decode cX10_wipes 17 = .ok (.ireturn, 1) := by decide +kernel
theorem dX10_wipes_18 : decode cX10_wipes 18 = .ok (.aload_n 0, 1) := by decide +kernel
theorem dX10_wipes_19 : decode cX10_wipes 19 = .ok (.invokevirtual 191, 3) := by decide +kernel
theorem dX10_wipes_22 : decode cX10_wipes 22 = .ok (.aload_n 0, 1) := by decide +kernel
theorem dX10_wipes_23 : decode cX10_wipes 23 = .ok (.getfield 28, 3) := by decide +kernel
theorem dX10_wipes_26 : decode cX10_wipes 26 = .ok (.bipush 36, 2) := by decide +kernel
theorem dX10_wipes_28 : decode cX10_wipes 28 = .ok (.iaload, 1) := by decide +kernel
theorem dX10_wipes_29 : decode cX10_wipes 29 = .ok (.istore_n 1, 1) := by decide +kernel
theorem dX10_wipes_30 : decode cX10_wipes 30 = .ok (.aload_n 0, 1) := by decide +kernel
theorem dX10_wipes_31 : decode cX10_wipes 31 = .ok (.getfield 28, 3) := by decide +kernel
theorem dX10_wipes_34 : decode cX10_wipes 34 = .ok (.bipush 36, 2) := by decide +kernel
theorem dX10_wipes_36 : decode cX10_wipes 36 = .ok (.iconst 0, 1) := by decide +kernel
theorem dX10_wipes_37 : decode cX10_wipes 37 = .ok (.iastore, 1) := by decide +kernel
theorem dX10_wipes_38 : decode cX10_wipes 38 = .ok (.iload_n 1, 1) := by decide +kernel
theorem dX10_wipes_39 : decode cX10_wipes 39 = .ok (.ireturn, 1) := by decide +kernel
theorem dX10_undo_0 : decode cX10_undo 0 = .ok (.aload_n 0, 1) := by decide +kernel
theorem dX10_undo_1 : decode cX10_undo 1 = .ok (.iconst 0, 1) := by decide +kernel
theorem dX10_undo_2 : decode cX10_undo 2 = .ok (.putfield 89, 3) := by decide +kernel
theorem dX10_undo_5 : decode cX10_undo 5 = .ok (.aload_n 0, 1) := by decide +kernel
theorem dX10_undo_6 : decode cX10_undo 6 = .ok (.getfield 161, 3) := by decide +kernel
theorem dX10_undo_9 : decode cX10_undo 9 = .ok (.ifCond .ne 6, 3) := by decide +kernel
theorem dX10_undo_12 : decode cX10_undo 12 = .ok (.bipush (-2), 2) := by decide +kernel
theorem dX10_undo_14 : decode cX10_undo 14 = .ok (.ireturn, 1) := by decide +kernel
theorem dX10_undo_15 : decode cX10_undo 15 = .ok (.aload_n 0, 1) := by decide +kernel
theorem dX10_undo_16 : decode cX10_undo 16 = .ok (.dup, 1) := by decide +kernel
theorem dX10_undo_17 : decode cX10_undo 17 = .ok (.getfield 161, 3) := by decide +kernel
theorem dX10_undo_20 : decode cX10_undo 20 = .ok (.iconst 1, 1) := by decide +kernel
theorem dX10_undo_21 : decode cX10_undo 21 = .ok (.isub, 1) := by decide +kernel
theorem dX10_undo_22 : decode cX10_undo 22 = .ok (.putfield 161, 3) := by decide +kernel
theorem dX10_undo_25 : decode cX10_undo 25 = .ok (.iconst 0, 1) := by decide +kernel
theorem dX10_undo_26 : decode cX10_undo 26 = .ok (.istore_n 1, 1) := by decide +kernel
theorem dX10_undo_27 : decode cX10_undo 27 = .ok (.iload_n 1, 1) := by decide +kernel
theorem dX10_undo_28 : decode cX10_undo 28 = .ok (.bipush 38, 2) := by decide +kernel
theorem dX10_undo_30 : decode cX10_undo 30 = .ok (.if_icmp .ge 29, 3) := by decide +kernel
theorem dX10_undo_33 : decode cX10_undo 33 = .ok (.aload_n 0, 1) := by decide +kernel
theorem dX10_undo_34 : decode cX10_undo 34 = .ok (.getfield 28, 3) := by decide +kernel
theorem dX10_undo_37 : decode cX10_undo 37 = .ok (.iload_n 1, 1) := by decide +kernel
theorem dX10_undo_38 : decode cX10_undo 38 = .ok (.aload_n 0, 1) := by decide +kernel
theorem dX10_undo_39 : decode cX10_undo 39 = .ok (.getfield 38, 3) := by decide +kernel
theorem dX10_undo_42 : decode cX10_undo 42 = .ok (.bipush 38, 2) := by decide +kernel
theorem dX10_undo_44 : decode cX10_undo 44 = .ok (.aload_n 0, 1) := by decide +kernel
theorem dX10_undo_45 : decode cX10_undo 45 = .ok (.getfield 161, 3) := by decide +kernel
theorem dX10_undo_48 : decode cX10_undo 48 = .ok (.imul, 1) := by decide +kernel
theorem dX10_undo_49 : decode cX10_undo 49 = .ok (.iload_n 1, 1) := by decide +kernel
theorem dX10_undo_50 : decode cX10_undo 50 = .ok (.iadd, 1) := by decide +kernel
theorem dX10_undo_51 : decode cX10_undo 51 = .ok (.iaload, 1) := by decide +kernel
theorem dX10_undo_52 : decode cX10_undo 52 = .ok (.iastore, 1) := by decide +kernel
theorem dX10_undo_53 : decode cX10_undo 53 = .ok (.iinc 1 1, 3) := by decide +kernel
theorem dX10_undo_56 : decode cX10_undo 56 = .ok (.goto (-29), 3) := by decide +kernel
theorem dX10_undo_59 : decode cX10_undo 59 = .ok (.aload_n 0, 1) := by decide +kernel
theorem dX10_undo_60 : decode cX10_undo 60 = .ok (.getfield 161, 3) := by decide +kernel
theorem dX10_undo_63 : decode cX10_undo 63 = .ok (.ireturn, 1) := by decide +kernel
theorem dX10_endsBetween_0 : decode cX10_endsBetween 0 = .ok (.iload_n 0, 1) := by decide +kernel
theorem dX10_endsBetween_1 : decode cX10_endsBetween 1 = .ok (.iload_n 1, 1) := by decide +kernel
theorem dX10_endsBetween_2 : decode cX10_endsBetween 2 = .ok (.if_icmp .ge 13, 3) := by decide +kernel
theorem dX10_endsBetween_5 : decode cX10_endsBetween 5 = .ok (.iconst 5, 1) := by decide +kernel
theorem dX10_endsBetween_6 : decode cX10_endsBetween 6 = .ok (.iload_n 0, 1) := by decide +kernel
theorem dX10_endsBetween_7 : decode cX10_endsBetween 7 = .ok (.imul, 1) := by decide +kernel
theorem dX10_endsBetween_8 : decode cX10_endsBetween 8 = .ok (.iload_n 1, 1) := by decide +kernel
theorem dX10_endsBetween_9 : decode cX10_endsBetween 9 = .ok (.iadd, 1) := by decide +kernel
theorem dX10_endsBetween_10 : decode cX10_endsBetween 10 = .ok (.iconst 1, 1) := by decide +kernel
theorem dX10_endsBetween_11 : decode cX10_endsBetween 11 = .ok (.iadd, 1) := by decide +kernel
theorem dX10_endsBetween_12 : decode cX10_endsBetween 12 = .ok (.goto 10, 3) := by decide +kernel
theorem dX10_endsBetween_15 : decode cX10_endsBetween 15 = .ok (.iconst 5, 1) := by decide +kernel
theorem dX10_endsBetween_16 : decode cX10_endsBetween 16 = .ok (.iload_n 1, 1) := by decide +kernel
theorem dX10_endsBetween_17 : decode cX10_endsBetween 17 = .ok (.imul, 1) := by decide +kernel
theorem dX10_endsBetween_18 : decode cX10_endsBetween 18 = .ok (.iload_n 0, 1) := by decide +kernel
theorem dX10_endsBetween_19 : decode cX10_endsBetween 19 = .ok (.iadd, 1) := by decide +kernel
theorem dX10_endsBetween_20 : decode cX10_endsBetween 20 = .ok (.iconst 1, 1) := by decide +kernel
theorem dX10_endsBetween_21 : decode cX10_endsBetween 21 = .ok (.iadd, 1) := by decide +kernel
theorem dX10_endsBetween_22 : decode cX10_endsBetween 22 = .ok (.ireturn, 1) := by decide +kernel
theorem dX10_far_0 : decode cX10_far 0 = .ok (.aload_n 0, 1) := by decide +kernel
theorem dX10_far_1 : decode cX10_far 1 = .ok (.iconst 0, 1) := by decide +kernel
theorem dX10_far_2 : decode cX10_far 2 = .ok (.putfield 89, 3) := by decide +kernel
theorem dX10_far_5 : decode cX10_far 5 = .ok (.aload_n 0, 1) := by decide +kernel
theorem dX10_far_6 : decode cX10_far 6 = .ok (.iload_n 1, 1) := by decide +kernel
theorem dX10_far_7 : decode cX10_far 7 = .ok (.invokevirtual 188, 3) := by decide +kernel
theorem dX10_far_10 : decode cX10_far 10 = .ok (.ifCond .eq 11, 3) := by decide +kernel
theorem dX10_far_13 : decode cX10_far 13 = .ok (.aload_n 0, 1) := by decide +kernel
theorem dX10_far_14 : decode cX10_far 14 = .ok (.iload_n 2, 1) := by decide +kernel
theorem dX10_far_15 : decode cX10_far 15 = .ok (.invokevirtual 188, 3) := by decide +kernel
theorem dX10_far_18 : decode cX10_far 18 = .ok (.ifCond .ne 5, 3) := by decide +kernel
theorem dX10_far_21 : decode cX10_far 21 = .ok (.iconst (-1), 1) := by decide +kernel
theorem dX10_far_22 : decode cX10_far 22 = .ok (.ireturn, 1) := by decide +kernel
theorem dX10_far_23 : decode cX10_far 23 = .ok (.aload_n 0, 1) := by decide +kernel
theorem dX10_far_24 : decode cX10_far 24 = .ok (.aload_n 0, 1) := by decide +kernel
theorem dX10_far_25 : decode cX10_far 25 = .ok (.getfield 28, 3) := by decide +kernel
theorem dX10_far_28 : decode cX10_far 28 = .ok (.invokevirtual 181, 3) := by decide +kernel
theorem dX10_far_31 : decode cX10_far 31 = .ok (.iload_n 1, 1) := by decide +kernel
theorem dX10_far_32 : decode cX10_far 32 = .ok (.iload_n 2, 1) := by decide +kernel
theorem dX10_far_33 : decode cX10_far 33 = .ok (.if_icmp .ne 7, 3) := by decide +kernel
theorem dX10_far_36 : decode cX10_far 36 = .ok (.iconst 0, 1) := by decide +kernel
theorem dX10_far_37 : decode cX10_far 37 = .ok (.goto 33, 3) := by decide +kernel
theorem dX10_far_40 : decode cX10_far 40 = .ok (.aload_n 0, 1) := by decide +kernel
theorem dX10_far_41 : decode cX10_far 41 = .ok (.getfield 62, 3) := by decide +kernel
theorem dX10_far_44 : decode cX10_far 44 = .ok (.iload_n 1, 1) := by decide +kernel
theorem dX10_far_45 : decode cX10_far 45 = .ok (.iload_n 2, 1) := by decide +kernel
theorem dX10_far_46 : decode cX10_far 46 = .ok (.invokestatic 214, 3) := by decide +kernel
theorem dX10_far_49 : decode cX10_far 49 = .ok (.iaload, 1) := by decide +kernel
theorem dX10_far_50 : decode cX10_far 50 = .ok (.ldc 167, 2) := by decide +kernel
theorem dX10_far_52 : decode cX10_far 52 = .ok (.if_icmp .ne 8, 3) := by decide +kernel
theorem dX10_far_55 : decode cX10_far 55 = .ok (.bipush (-9), 2) := by decide +kernel
theorem dX10_far_57 : decode cX10_far 57 = .ok (.goto 13, 3) := by decide +kernel
theorem dX10_far_60 : decode cX10_far 60 = .ok (.aload_n 0, 1) := by decide +kernel
theorem dX10_far_61 : decode cX10_far 61 = .ok (.getfield 62, 3) := by decide +kernel
theorem dX10_far_64 : decode cX10_far 64 = .ok (.iload_n 1, 1) := by decide +kernel
theorem dX10_far_65 : decode cX10_far 65 = .ok (.iload_n 2, 1) := by decide +kernel
theorem dX10_far_66 : decode cX10_far 66 = .ok (.invokestatic 214, 3) := by decide +kernel
theorem dX10_far_69 : decode cX10_far 69 = .ok (.iaload, 1) := by decide +kernel
theorem dX10_far_70 : decode cX10_far 70 = .ok (.ireturn, 1) := by decide +kernel
theorem dX10_by_0 : decode cX10_by 0 = .ok (.aload_n 0, 1) := by decide +kernel
theorem dX10_by_1 : decode cX10_by 1 = .ok (.iconst 0, 1) := by decide +kernel
theorem dX10_by_2 : decode cX10_by 2 = .ok (.putfield 89, 3) := by decide +kernel
theorem dX10_by_5 : decode cX10_by 5 = .ok (.aload_n 0, 1) := by decide +kernel
theorem dX10_by_6 : decode cX10_by 6 = .ok (.iload_n 1, 1) := by decide +kernel
theorem dX10_by_7 : decode cX10_by 7 = .ok (.invokevirtual 188, 3) := by decide +kernel
theorem dX10_by_10 : decode cX10_by 10 = .ok (.ifCond .eq 16, 3) := by decide +kernel
theorem dX10_by_13 : decode cX10_by 13 = .ok (.aload_n 0, 1) := by decide +kernel
theorem dX10_by_14 : decode cX10_by 14 = .ok (.iload_n 2, 1) := by decide +kernel
theorem dX10_by_15 : decode cX10_by 15 = .ok (.invokevirtual 188, 3) := by decide +kernel
theorem dX10_by_18 : decode cX10_by 18 = .ok (.ifCond .eq 8, 3) := by decide +kernel
theorem dX10_by_21 : decode cX10_by 21 = .ok (.iload_n 1, 1) := by decide +kernel
theorem dX10_by_22 : decode cX10_by 22 = .ok (.iload_n 2, 1) := by decide +kernel
theorem dX10_by_23 : decode cX10_by 23 = .ok (.if_icmp .ne 5, 3) := by decide +kernel
theorem dX10_by_26 : decode cX10_by 26 = .ok (.iconst (-1), 1) := by decide +kernel
theorem dX10_by_27 : decode cX10_by 27 = .ok (.ireturn, 1) := by decide +kernel
theorem dX10_by_28 : decode cX10_by 28 = .ok (.aload_n 0, 1) := by decide +kernel
theorem dX10_by_29 : decode cX10_by 29 = .ok (.aload_n 0, 1) := by decide +kernel
theorem dX10_by_30 : decode cX10_by 30 = .ok (.getfield 28, 3) := by decide +kernel
theorem dX10_by_33 : decode cX10_by 33 = .ok (.invokevirtual 181, 3) := by decide +kernel
theorem dX10_by_36 : decode cX10_by 36 = .ok (.iconst 0, 1) := by decide +kernel
theorem dX10_by_37 : decode cX10_by 37 = .ok (.istore_n 3, 1) := by decide +kernel
theorem dX10_by_38 : decode cX10_by 38 = .ok (.iconst 1, 1) := by decide +kernel
theorem dX10_by_39 : decode cX10_by 39 = .ok (.istore 4, 2) := by decide +kernel
theorem dX10_by_41 : decode cX10_by 41 = .ok (.iload 4, 2) := by decide +kernel
theorem dX10_by_43 : decode cX10_by 43 = .ok (.bipush 64, 2) := by decide +kernel
theorem dX10_by_45 : decode cX10_by 45 = .ok (.if_icmp .ge 41, 3) := by decide +kernel
theorem dX10_by_48 : decode cX10_by 48 = .ok (.iload_n 3, 1) := by decide +kernel
theorem dX10_by_49 : decode cX10_by 49 = .ok (.aload_n 0, 1) := by decide +kernel
theorem dX10_by_50 : decode cX10_by 50 = .ok (.getfield 47, 3) := by decide +kernel
theorem dX10_by_53 : decode cX10_by 53 = .ok (.iload 4, 2) := by decide +kernel
theorem dX10_by_55 : decode cX10_by 55 = .ok (.iaload, 1) := by decide +kernel
theorem dX10_by_56 : decode cX10_by 56 = .ok (.iload_n 1, 1) := by decide +kernel
theorem dX10_by_57 : decode cX10_by 57 = .ok (.iload_n 2, 1) := by decide +kernel
theorem dX10_by_58 : decode cX10_by 58 = .ok (.invokestatic 214, 3) := by decide +kernel
theorem dX10_by_61 : decode cX10_by 61 = .ok (.if_icmp .ne 16, 3) := by decide +kernel
theorem dX10_by_64 : decode cX10_by 64 = .ok (.aload_n 0, 1) := by decide +kernel
theorem dX10_by_65 : decode cX10_by 65 = .ok (.iload 4, 2) := by decide +kernel
theorem dX10_by_67 : decode cX10_by 67 = .ok (.invokevirtual 185, 3) := by decide +kernel
theorem dX10_by_70 : decode cX10_by 70 = .ok (.ifCond .eq 7, 3) := by decide +kernel
theorem dX10_by_73 : decode cX10_by 73 = .ok (.iconst 1, 1) := by decide +kernel
theorem dX10_by_74 : decode cX10_by 74 = .ok (.goto 4, 3) := by decide +kernel
theorem dX10_by_77 : decode cX10_by 77 = .ok (.iconst 0, 1) := by decide +kernel
theorem dX10_by_78 : decode cX10_by 78 = .ok (.iadd, 1) := by decide +kernel
theorem dX10_by_79 : decode cX10_by 79 = .ok (.istore_n 3, 1) := by decide +kernel
theorem dX10_by_80 : decode cX10_by 80 = .ok (.iinc 4 1, 3) := by decide +kernel
theorem dX10_by_83 : decode cX10_by 83 = .ok (.goto (-42), 3) := by decide +kernel
theorem dX10_by_86 : decode cX10_by 86 = .ok (.iload_n 3, 1) := by decide +kernel
theorem dX10_by_87 : decode cX10_by 87 = .ok (.ireturn, 1) := by decide +kernel
theorem dX10_knot_0 : decode cX10_knot 0 = .ok (.aload_n 0, 1) := by decide +kernel
theorem dX10_knot_1 : decode cX10_knot 1 = .ok (.iconst 0, 1) := by decide +kernel
theorem dX10_knot_2 : decode cX10_knot 2 = .ok (.putfield 89, 3) := by decide +kernel
theorem dX10_knot_5 : decode cX10_knot 5 = .ok (.aload_n 0, 1) := by decide +kernel
theorem dX10_knot_6 : decode cX10_knot 6 = .ok (.iload_n 1, 1) := by decide +kernel
theorem dX10_knot_7 : decode cX10_knot 7 = .ok (.invokevirtual 188, 3) := by decide +kernel
theorem dX10_knot_10 : decode cX10_knot 10 = .ok (.ifCond .ne 5, 3) := by decide +kernel
theorem dX10_knot_13 : decode cX10_knot 13 = .ok (.iconst (-1), 1) := by decide +kernel
theorem dX10_knot_14 : decode cX10_knot 14 = .ok (.ireturn, 1) := by decide +kernel
theorem dX10_knot_15 : decode cX10_knot 15 = .ok (.iconst 0, 1) := by decide +kernel
theorem dX10_knot_16 : decode cX10_knot 16 = .ok (.istore_n 2, 1) := by decide +kernel
theorem dX10_knot_17 : decode cX10_knot 17 = .ok (.iconst 0, 1) := by decide +kernel
theorem dX10_knot_18 : decode cX10_knot 18 = .ok (.istore_n 3, 1) := by decide +kernel
theorem dX10_knot_19 : decode cX10_knot 19 = .ok (.iload_n 3, 1) := by decide +kernel
theorem dX10_knot_20 : decode cX10_knot 20 = .ok (.aload_n 0, 1) := by decide +kernel
theorem dX10_knot_21 : decode cX10_knot 21 = .ok (.getfield 13, 3) := by decide +kernel
theorem dX10_knot_24 : decode cX10_knot 24 = .ok (.iconst 1, 1) := by decide +kernel
theorem dX10_knot_25 : decode cX10_knot 25 = .ok (.iaload, 1) := by decide +kernel
theorem dX10_knot_26 : decode cX10_knot 26 = .ok (.if_icmp .ge 51, 3) := by decide +kernel
theorem dX10_knot_29 : decode cX10_knot 29 = .ok (.iload_n 2, 1) := by decide +kernel
theorem dX10_knot_30 : decode cX10_knot 30 = .ok (.aload_n 0, 1) := by decide +kernel
theorem dX10_knot_31 : decode cX10_knot 31 = .ok (.getfield 16, 3) := by decide +kernel
theorem dX10_knot_34 : decode cX10_knot 34 = .ok (.iload_n 3, 1) := by decide +kernel
theorem dX10_knot_35 : decode cX10_knot 35 = .ok (.iaload, 1) := by decide +kernel
theorem dX10_knot_36 : decode cX10_knot 36 = .ok (.iload_n 1, 1) := by decide +kernel
theorem dX10_knot_37 : decode cX10_knot 37 = .ok (.if_icmp .eq 13, 3) := by decide +kernel
theorem dX10_knot_40 : decode cX10_knot 40 = .ok (.aload_n 0, 1) := by decide +kernel
theorem dX10_knot_41 : decode cX10_knot 41 = .ok (.getfield 19, 3) := by decide +kernel
theorem dX10_knot_44 : decode cX10_knot 44 = .ok (.iload_n 3, 1) := by decide +kernel
theorem dX10_knot_45 : decode cX10_knot 45 = .ok (.iaload, 1) := by decide +kernel
theorem dX10_knot_46 : decode cX10_knot 46 = .ok (.iload_n 1, 1) := by decide +kernel
theorem dX10_knot_47 : decode cX10_knot 47 = .ok (.if_icmp .ne 21, 3) := by decide +kernel
theorem dX10_knot_50 : decode cX10_knot 50 = .ok (.aload_n 0, 1) := by decide +kernel
theorem dX10_knot_51 : decode cX10_knot 51 = .ok (.getfield 22, 3) := by decide +kernel
theorem dX10_knot_54 : decode cX10_knot 54 = .ok (.iload_n 3, 1) := by decide +kernel
theorem dX10_knot_55 : decode cX10_knot 55 = .ok (.iaload, 1) := by decide +kernel
theorem dX10_knot_56 : decode cX10_knot 56 = .ok (.aload_n 0, 1) := by decide +kernel
theorem dX10_knot_57 : decode cX10_knot 57 = .ok (.getfield 28, 3) := by decide +kernel
theorem dX10_knot_60 : decode cX10_knot 60 = .ok (.iconst 0, 1) := by decide +kernel
theorem dX10_knot_61 : decode cX10_knot 61 = .ok (.iload_n 3, 1) := by decide +kernel
theorem dX10_knot_62 : decode cX10_knot 62 = .ok (.iadd, 1) := by decide +kernel
theorem dX10_knot_63 : decode cX10_knot 63 = .ok (.iaload, 1) := by decide +kernel
theorem dX10_knot_64 : decode cX10_knot 64 = .ok (.imul, 1) := by decide +kernel
theorem dX10_knot_65 : decode cX10_knot 65 = .ok (.goto 4, 3) := by decide +kernel
theorem dX10_knot_68 : decode cX10_knot 68 = .ok (.iconst 0, 1) := by decide +kernel
theorem dX10_knot_69 : decode cX10_knot 69 = .ok (.iadd, 1) := by decide +kernel
theorem dX10_knot_70 : decode cX10_knot 70 = .ok (.istore_n 2, 1) := by decide +kernel
theorem dX10_knot_71 : decode cX10_knot 71 = .ok (.iinc 3 1, 3) := by decide +kernel
theorem dX10_knot_74 : decode cX10_knot 74 = .ok (.goto (-55), 3) := by decide +kernel
theorem dX10_knot_77 : decode cX10_knot 77 = .ok (.iload_n 2, 1) := by decide +kernel
theorem dX10_knot_78 : decode cX10_knot 78 = .ok (.ireturn, 1) := by decide +kernel
theorem dX10_draftLanes_0 : decode cX10_draftLanes 0 = .ok (.aload_n 0, 1) := by decide +kernel
theorem dX10_draftLanes_1 : decode cX10_draftLanes 1 = .ok (.getfield 28, 3) := by decide +kernel
theorem dX10_draftLanes_4 : decode cX10_draftLanes 4 = .ok (.bipush 36, 2) := by decide +kernel
theorem dX10_draftLanes_6 : decode cX10_draftLanes 6 = .ok (.iaload, 1) := by decide +kernel
theorem dX10_draftLanes_7 : decode cX10_draftLanes 7 = .ok (.iconst 2, 1) := by decide +kernel
theorem dX10_draftLanes_8 : decode cX10_draftLanes 8 = .ok (.if_icmp .ge 7, 3) := by decide +kernel
theorem dX10_draftLanes_11 : decode cX10_draftLanes 11 = .ok (.iconst 0, 1) := by decide +kernel
theorem dX10_draftLanes_12 : decode cX10_draftLanes 12 = .ok (.goto 16, 3) := by decide +kernel
theorem dX10_draftLanes_15 : decode cX10_draftLanes 15 = .ok (.aload_n 0, 1) := by decide +kernel
theorem dX10_draftLanes_16 : decode cX10_draftLanes 16 = .ok (.bipush 31, 2) := by decide +kernel
theorem dX10_draftLanes_18 : decode cX10_draftLanes 18 = .ok (.aload_n 0, 1) := by decide +kernel
theorem dX10_draftLanes_19 : decode cX10_draftLanes 19 = .ok (.getfield 28, 3) := by decide +kernel
theorem dX10_draftLanes_22 : decode cX10_draftLanes 22 = .ok (.bipush 36, 2) := by decide +kernel
theorem dX10_draftLanes_24 : decode cX10_draftLanes 24 = .ok (.iaload, 1) := by decide +kernel
theorem dX10_draftLanes_25 : decode cX10_draftLanes 25 = .ok (.invokevirtual 164, 3) := by decide +kernel
theorem dX10_draftLanes_28 : decode cX10_draftLanes 28 = .ok (.ireturn, 1) := by decide +kernel
theorem dX10_allMaps_0 : decode cX10_allMaps 0 = .ok (.iconst 1, 1) := by decide +kernel
theorem dX10_allMaps_1 : decode cX10_allMaps 1 = .ok (.aload_n 0, 1) := by decide +kernel
theorem dX10_allMaps_2 : decode cX10_allMaps 2 = .ok (.getfield 28, 3) := by decide +kernel
theorem dX10_allMaps_5 : decode cX10_allMaps 5 = .ok (.bipush 6, 2) := by decide +kernel
theorem dX10_allMaps_7 : decode cX10_allMaps 7 = .ok (.iaload, 1) := by decide +kernel
theorem dX10_allMaps_8 : decode cX10_allMaps 8 = .ok (.ishl, 1) := by decide +kernel
theorem dX10_allMaps_9 : decode cX10_allMaps 9 = .ok (.iconst 1, 1) := by decide +kernel
theorem dX10_allMaps_10 : decode cX10_allMaps 10 = .ok (.isub, 1) := by decide +kernel
theorem dX10_allMaps_11 : decode cX10_allMaps 11 = .ok (.ireturn, 1) := by decide +kernel
theorem dX10_steps_0 : decode cX10_steps 0 = .ok (.aload_n 0, 1) := by decide +kernel
theorem dX10_steps_1 : decode cX10_steps 1 = .ok (.getfield 13, 3) := by decide +kernel
theorem dX10_steps_4 : decode cX10_steps 4 = .ok (.iconst 1, 1) := by decide +kernel
theorem dX10_steps_5 : decode cX10_steps 5 = .ok (.iaload, 1) := by decide +kernel
theorem dX10_steps_6 : decode cX10_steps 6 = .ok (.iconst 1, 1) := by decide +kernel
theorem dX10_steps_7 : decode cX10_steps 7 = .ok (.isub, 1) := by decide +kernel
theorem dX10_steps_8 : decode cX10_steps 8 = .ok (.istore_n 1, 1) := by decide +kernel
theorem dX10_steps_9 : decode cX10_steps 9 = .ok (.iload_n 1, 1) := by decide +kernel
theorem dX10_steps_10 : decode cX10_steps 10 = .ok (.ifCond .lt 26, 3) := by decide +kernel
theorem dX10_steps_13 : decode cX10_steps 13 = .ok (.aload_n 0, 1) := by decide +kernel
theorem dX10_steps_14 : decode cX10_steps 14 = .ok (.getfield 65, 3) := by decide +kernel
theorem dX10_steps_17 : decode cX10_steps 17 = .ok (.iload_n 1, 1) := by decide +kernel
theorem dX10_steps_18 : decode cX10_steps 18 = .ok (.iaload, 1) := by decide +kernel
theorem dX10_steps_19 : decode cX10_steps 19 = .ok (.iconst 5, 1) := by decide +kernel
theorem dX10_steps_20 : decode cX10_steps 20 = .ok (.if_icmp .ne 16, 3) := by decide +kernel
theorem dX10_steps_23 : decode cX10_steps 23 = .ok (.aload_n 0, 1) := by decide +kernel
theorem dX10_steps_24 : decode cX10_steps 24 = .ok (.getfield 65, 3) := by decide +kernel
theorem dX10_steps_27 : decode cX10_steps 27 = .ok (.iload_n 1, 1) := by decide +kernel
theorem dX10_steps_28 : decode cX10_steps 28 = .ok (.iconst 1, 1) := by decide +kernel
theorem dX10_steps_29 : decode cX10_steps 29 = .ok (.iastore, 1) := by decide +kernel
theorem dX10_steps_30 : decode cX10_steps 30 = .ok (.iinc 1 (-1), 3) := by decide +kernel
theorem dX10_steps_33 : decode cX10_steps 33 = .ok (.goto (-24), 3) := by decide +kernel
theorem dX10_steps_36 : decode cX10_steps 36 = .ok (.iload_n 1, 1) := by decide +kernel
theorem dX10_steps_37 : decode cX10_steps 37 = .ok (.ifCond .lt 13, 3) := by decide +kernel
theorem dX10_steps_40 : decode cX10_steps 40 = .ok (.aload_n 0, 1) := by decide +kernel
theorem dX10_steps_41 : decode cX10_steps 41 = .ok (.getfield 65, 3) := by decide +kernel
theorem dX10_steps_44 : decode cX10_steps 44 = .ok (.iload_n 1, 1) := by decide +kernel
theorem dX10_steps_45 : decode cX10_steps 45 = .ok (.dup2, 1) := by decide +kernel
theorem dX10_steps_46 : decode cX10_steps 46 = .ok (.iaload, 1) := by decide +kernel
theorem dX10_steps_47 : decode cX10_steps 47 = .ok (.iconst 1, 1) := by decide +kernel
theorem dX10_steps_48 : decode cX10_steps 48 = .ok (.iadd, 1) := by decide +kernel
theorem dX10_steps_49 : decode cX10_steps 49 = .ok (.iastore, 1) := by decide +kernel
theorem dX10_steps_50 : decode cX10_steps 50 = .ok (.iload_n 1, 1) := by decide +kernel
theorem dX10_steps_51 : decode cX10_steps 51 = .ok (.ifCond .lt 7, 3) := by decide +kernel
theorem dX10_steps_54 : decode cX10_steps 54 = .ok (.iconst 1, 1) := by decide +kernel
theorem dX10_steps_55 : decode cX10_steps 55 = .ok (.goto 4, 3) := by decide +kernel
theorem dX10_steps_58 : decode cX10_steps 58 = .ok (.iconst 0, 1) := by decide +kernel
theorem dX10_steps_59 : decode cX10_steps 59 = .ok (.ireturn, 1) := by decide +kernel
theorem dX10_scans_0 : decode cX10_scans 0 = .ok (.iconst 0, 1) := by decide +kernel
theorem dX10_scans_1 : decode cX10_scans 1 = .ok (.istore_n 2, 1) := by decide +kernel
theorem dX10_scans_2 : decode cX10_scans 2 = .ok (.iload_n 2, 1) := by decide +kernel
theorem dX10_scans_3 : decode cX10_scans 3 = .ok (.bipush 16, 2) := by decide +kernel
theorem dX10_scans_5 : decode cX10_scans 5 = .ok (.if_icmp .ge 17, 3) := by decide +kernel
theorem dX10_scans_8 : decode cX10_scans 8 = .ok (.aload_n 0, 1) := by decide +kernel
theorem dX10_scans_9 : decode cX10_scans 9 = .ok (.getfield 68, 3) := by decide +kernel
theorem dX10_scans_12 : decode cX10_scans 12 = .ok (.iload_n 2, 1) := by decide +kernel
theorem dX10_scans_13 : decode cX10_scans 13 = .ok (.ldc 167, 2) := by decide +kernel
theorem dX10_scans_15 : decode cX10_scans 15 = .ok (.iastore, 1) := by decide +kernel
theorem dX10_scans_16 : decode cX10_scans 16 = .ok (.iinc 2 1, 3) := by decide +kernel
theorem dX10_scans_19 : decode cX10_scans 19 = .ok (.goto (-17), 3) := by decide +kernel
theorem dX10_scans_22 : decode cX10_scans 22 = .ok (.iconst 0, 1) := by decide +kernel
theorem dX10_scans_23 : decode cX10_scans 23 = .ok (.istore_n 2, 1) := by decide +kernel
theorem dX10_scans_24 : decode cX10_scans 24 = .ok (.iload_n 2, 1) := by decide +kernel
theorem dX10_scans_25 : decode cX10_scans 25 = .ok (.bipush 64, 2) := by decide +kernel
theorem dX10_scans_27 : decode cX10_scans 27 = .ok (.if_icmp .ge 17, 3) := by decide +kernel
theorem dX10_scans_30 : decode cX10_scans 30 = .ok (.aload_n 0, 1) := by decide +kernel
theorem dX10_scans_31 : decode cX10_scans 31 = .ok (.getfield 74, 3) := by decide +kernel
theorem dX10_scans_34 : decode cX10_scans 34 = .ok (.iload_n 2, 1) := by decide +kernel
theorem dX10_scans_35 : decode cX10_scans 35 = .ok (.ldc 167, 2) := by decide +kernel
theorem dX10_scans_37 : decode cX10_scans 37 = .ok (.iastore, 1) := by decide +kernel
theorem dX10_scans_38 : decode cX10_scans 38 = .ok (.iinc 2 1, 3) := by decide +kernel
theorem dX10_scans_41 : decode cX10_scans 41 = .ok (.goto (-17), 3) := by decide +kernel
theorem dX10_scans_44 : decode cX10_scans 44 = .ok (.iconst 0, 1) := by decide +kernel
theorem dX10_scans_45 : decode cX10_scans 45 = .ok (.istore_n 2, 1) := by decide +kernel
theorem dX10_scans_46 : decode cX10_scans 46 = .ok (.iload_n 2, 1) := by decide +kernel
theorem dX10_scans_47 : decode cX10_scans 47 = .ok (.bipush 6, 2) := by decide +kernel
theorem dX10_scans_49 : decode cX10_scans 49 = .ok (.if_icmp .ge 16, 3) := by decide +kernel
theorem dX10_scans_52 : decode cX10_scans 52 = .ok (.aload_n 0, 1) := by decide +kernel
theorem dX10_scans_53 : decode cX10_scans 53 = .ok (.getfield 65, 3) := by decide +kernel
theorem dX10_scans_56 : decode cX10_scans 56 = .ok (.iload_n 2, 1) := by decide +kernel
theorem dX10_scans_57 : decode cX10_scans 57 = .ok (.iconst 1, 1) := by decide +kernel
theorem dX10_scans_58 : decode cX10_scans 58 = .ok (.iastore, 1) := by decide +kernel
theorem dX10_scans_59 : decode cX10_scans 59 = .ok (.iinc 2 1, 3) := by decide +kernel
theorem dX10_scans_62 : decode cX10_scans 62 = .ok (.goto (-16), 3) := by decide +kernel
theorem dX10_scans_65 : decode cX10_scans 65 = .ok (.iconst 0, 1) := by decide +kernel
theorem dX10_scans_66 : decode cX10_scans 66 = .ok (.istore_n 2, 1) := by decide +kernel
theorem dX10_scans_67 : decode cX10_scans 67 = .ok (.iload_n 2, 1) := by decide +kernel
theorem dX10_scans_68 : decode cX10_scans 68 = .ok (.aload_n 0, 1) := by decide +kernel
theorem dX10_scans_69 : decode cX10_scans 69 = .ok (.getfield 28, 3) := by decide +kernel
theorem dX10_scans_72 : decode cX10_scans 72 = .ok (.bipush 6, 2) := by decide +kernel
theorem dX10_scans_74 : decode cX10_scans 74 = .ok (.iaload, 1) := by decide +kernel
theorem dX10_scans_75 : decode cX10_scans 75 = .ok (.if_icmp .ge 20, 3) := by decide +kernel
theorem dX10_scans_78 : decode cX10_scans 78 = .ok (.aload_n 0, 1) := by decide +kernel
theorem dX10_scans_79 : decode cX10_scans 79 = .ok (.getfield 59, 3) := by decide +kernel
theorem dX10_scans_82 : decode cX10_scans 82 = .ok (.iload_n 2, 1) := by decide +kernel
theorem dX10_scans_83 : decode cX10_scans 83 = .ok (.aload_n 0, 1) := by decide +kernel
theorem dX10_scans_84 : decode cX10_scans 84 = .ok (.iload_n 2, 1) := by decide +kernel
theorem dX10_scans_85 : decode cX10_scans 85 = .ok (.invokevirtual 168, 3) := by decide +kernel
theorem dX10_scans_88 : decode cX10_scans 88 = .ok (.iastore, 1) := by decide +kernel
theorem dX10_scans_89 : decode cX10_scans 89 = .ok (.iinc 2 1, 3) := by decide +kernel
theorem dX10_scans_92 : decode cX10_scans 92 = .ok (.goto (-25), 3) := by decide +kernel
theorem dX10_scans_95 : decode cX10_scans 95 = .ok (.iconst 1, 1) := by decide +kernel
theorem dX10_scans_96 : decode cX10_scans 96 = .ok (.istore_n 2, 1) := by decide +kernel
theorem dX10_scans_97 : decode cX10_scans 97 = .ok (.iload_n 2, 1) := by decide +kernel
theorem dX10_scans_98 : decode cX10_scans 98 = .ok (.ifCond .eq 35, 3) := by decide +kernel
theorem dX10_scans_101 : decode cX10_scans 101 = .ok (.aload_n 0, 1) := by decide +kernel
theorem dX10_scans_102 : decode cX10_scans 102 = .ok (.aload_n 0, 1) := by decide +kernel
theorem dX10_scans_103 : decode cX10_scans 103 = .ok (.getfield 65, 3) := by decide +kernel
theorem dX10_scans_106 : decode cX10_scans 106 = .ok (.invokevirtual 181, 3) := by decide +kernel
theorem dX10_scans_109 : decode cX10_scans 109 = .ok (.iload_n 1, 1) := by decide +kernel
theorem dX10_scans_110 : decode cX10_scans 110 = .ok (.ifCond .eq 11, 3) := by decide +kernel
theorem dX10_scans_113 : decode cX10_scans 113 = .ok (.aload_n 0, 1) := by decide +kernel
theorem dX10_scans_114 : decode cX10_scans 114 = .ok (.iload_n 1, 1) := by decide +kernel
theorem dX10_scans_115 : decode cX10_scans 115 = .ok (.invokevirtual 185, 3) := by decide +kernel
theorem dX10_scans_118 : decode cX10_scans 118 = .ok (.ifCond .eq 7, 3) := by decide +kernel
theorem dX10_scans_121 : decode cX10_scans 121 = .ok (.aload_n 0, 1) := by decide +kernel
theorem dX10_scans_122 : decode cX10_scans 122 = .ok (.invokevirtual 217, 3) := by decide +kernel
theorem dX10_scans_125 : decode cX10_scans 125 = .ok (.aload_n 0, 1) := by decide +kernel
theorem dX10_scans_126 : decode cX10_scans 126 = .ok (.invokevirtual 220, 3) := by decide +kernel
theorem dX10_scans_129 : decode cX10_scans 129 = .ok (.istore_n 2, 1) := by decide +kernel
theorem dX10_scans_130 : decode cX10_scans 130 = .ok (.goto (-33), 3) := by decide +kernel
theorem dX10_scans_133 : decode cX10_scans 133 = .ok (.return_, 1) := by decide +kernel
theorem dX10_scansOne_0 : decode cX10_scansOne 0 = .ok (.iconst 0, 1) := by decide +kernel
