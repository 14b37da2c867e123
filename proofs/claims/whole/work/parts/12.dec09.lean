theorem dX10_scansOne_1 : decode cX10_scansOne 1 = .ok (.istore_n 1, 1) := by decide +kernel
theorem dX10_scansOne_2 : decode cX10_scansOne 2 = .ok (.iconst 0, 1) := by decide +kernel
theorem dX10_scansOne_3 : decode cX10_scansOne 3 = .ok (.istore_n 2, 1) := by decide +kernel
theorem dX10_scansOne_4 : decode cX10_scansOne 4 = .ok (.iconst 0, 1) := by decide +kernel
theorem dX10_scansOne_5 : decode cX10_scansOne 5 = .ok (.istore_n 3, 1) := by decide +kernel
theorem dX10_scansOne_6 : decode cX10_scansOne 6 = .ok (.iload_n 3, 1) := by decide +kernel
theorem dX10_scansOne_7 : decode cX10_scansOne 7 = .ok (.aload_n 0, 1) := by decide +kernel
theorem dX10_scansOne_8 : decode cX10_scansOne 8 = .ok (.getfield 13, 3) := by decide +kernel
theorem dX10_scansOne_11 : decode cX10_scansOne 11 = .ok (.iconst 1, 1) := by decide +kernel
theorem dX10_scansOne_12 : decode cX10_scansOne 12 = .ok (.iaload, 1) := by decide +kernel
theorem dX10_scansOne_13 : decode cX10_scansOne 13 = .ok (.if_icmp .ge 36, 3) := by decide +kernel
theorem dX10_scansOne_16 : decode cX10_scansOne 16 = .ok (.iload_n 1, 1) := by decide +kernel
theorem dX10_scansOne_17 : decode cX10_scansOne 17 = .ok (.aload_n 0, 1) := by decide +kernel
theorem dX10_scansOne_18 : decode cX10_scansOne 18 = .ok (.getfield 22, 3) := by decide +kernel
theorem dX10_scansOne_21 : decode cX10_scansOne 21 = .ok (.iload_n 3, 1) := by decide +kernel
theorem dX10_scansOne_22 : decode cX10_scansOne 22 = .ok (.iaload, 1) := by decide +kernel
theorem dX10_scansOne_23 : decode cX10_scansOne 23 = .ok (.aload_n 0, 1) := by decide +kernel
theorem dX10_scansOne_24 : decode cX10_scansOne 24 = .ok (.getfield 65, 3) := by decide +kernel
theorem dX10_scansOne_27 : decode cX10_scansOne 27 = .ok (.iload_n 3, 1) := by decide +kernel
theorem dX10_scansOne_28 : decode cX10_scansOne 28 = .ok (.iaload, 1) := by decide +kernel
theorem dX10_scansOne_29 : decode cX10_scansOne 29 = .ok (.aload_n 0, 1) := by decide +kernel
theorem dX10_scansOne_30 : decode cX10_scansOne 30 = .ok (.getfield 28, 3) := by decide +kernel
theorem dX10_scansOne_33 : decode cX10_scansOne 33 = .ok (.iconst 0, 1) := by decide +kernel
theorem dX10_scansOne_34 : decode cX10_scansOne 34 = .ok (.iload_n 3, 1) := by decide +kernel
theorem dX10_scansOne_35 : decode cX10_scansOne 35 = .ok (.iadd, 1) := by decide +kernel
theorem dX10_scansOne_36 : decode cX10_scansOne 36 = .ok (.iaload, 1) := by decide +kernel
theorem dX10_scansOne_37 : decode cX10_scansOne 37 = .ok (.invokestatic 211, 3) := by decide +kernel
theorem dX10_scansOne_40 : decode cX10_scansOne 40 = .ok (.imul, 1) := by decide +kernel
theorem dX10_scansOne_41 : decode cX10_scansOne 41 = .ok (.iadd, 1) := by decide +kernel
theorem dX10_scansOne_42 : decode cX10_scansOne 42 = .ok (.istore_n 1, 1) := by decide +kernel
theorem dX10_scansOne_43 : decode cX10_scansOne 43 = .ok (.iinc 3 1, 3) := by decide +kernel
theorem dX10_scansOne_46 : decode cX10_scansOne 46 = .ok (.goto (-40), 3) := by decide +kernel
theorem dX10_scansOne_49 : decode cX10_scansOne 49 = .ok (.iconst 0, 1) := by decide +kernel
theorem dX10_scansOne_50 : decode cX10_scansOne 50 = .ok (.istore_n 3, 1) := by decide +kernel
theorem dX10_scansOne_51 : decode cX10_scansOne 51 = .ok (.iload_n 3, 1) := by decide +kernel
theorem dX10_scansOne_52 : decode cX10_scansOne 52 = .ok (.aload_n 0, 1) := by decide +kernel
theorem dX10_scansOne_53 : decode cX10_scansOne 53 = .ok (.getfield 28, 3) := by decide +kernel
theorem dX10_scansOne_56 : decode cX10_scansOne 56 = .ok (.bipush 6, 2) := by decide +kernel
theorem dX10_scansOne_58 : decode cX10_scansOne 58 = .ok (.iaload, 1) := by decide +kernel
theorem dX10_scansOne_59 : decode cX10_scansOne 59 = .ok (.if_icmp .ge 32, 3) := by decide +kernel
theorem dX10_scansOne_62 : decode cX10_scansOne 62 = .ok (.iload_n 2, 1) := by decide +kernel
theorem dX10_scansOne_63 : decode cX10_scansOne 63 = .ok (.aload_n 0, 1) := by decide +kernel
theorem dX10_scansOne_64 : decode cX10_scansOne 64 = .ok (.aload_n 0, 1) := by decide +kernel
theorem dX10_scansOne_65 : decode cX10_scansOne 65 = .ok (.getfield 59, 3) := by decide +kernel
theorem dX10_scansOne_68 : decode cX10_scansOne 68 = .ok (.iload_n 3, 1) := by decide +kernel
theorem dX10_scansOne_69 : decode cX10_scansOne 69 = .ok (.iaload, 1) := by decide +kernel
theorem dX10_scansOne_70 : decode cX10_scansOne 70 = .ok (.invokevirtual 185, 3) := by decide +kernel
theorem dX10_scansOne_73 : decode cX10_scansOne 73 = .ok (.ifCond .eq 9, 3) := by decide +kernel
theorem dX10_scansOne_76 : decode cX10_scansOne 76 = .ok (.iconst 1, 1) := by decide +kernel
theorem dX10_scansOne_77 : decode cX10_scansOne 77 = .ok (.iload_n 3, 1) := by decide +kernel
theorem dX10_scansOne_78 : decode cX10_scansOne 78 = .ok (.ishl, 1) := by decide +kernel
theorem dX10_scansOne_79 : decode cX10_scansOne 79 = .ok (.goto 4, 3) := by decide +kernel
theorem dX10_scansOne_82 : decode cX10_scansOne 82 = .ok (.iconst 0, 1) := by decide +kernel
theorem dX10_scansOne_83 : decode cX10_scansOne 83 = .ok (.ior, 1) := by decide +kernel
theorem dX10_scansOne_84 : decode cX10_scansOne 84 = .ok (.istore_n 2, 1) := by decide +kernel
theorem dX10_scansOne_85 : decode cX10_scansOne 85 = .ok (.iinc 3 1, 3) := by decide +kernel
theorem dX10_scansOne_88 : decode cX10_scansOne 88 = .ok (.goto (-37), 3) := by decide +kernel
theorem dX10_scansOne_91 : decode cX10_scansOne 91 = .ok (.iload_n 2, 1) := by decide +kernel
theorem dX10_scansOne_92 : decode cX10_scansOne 92 = .ok (.aload_n 0, 1) := by decide +kernel
theorem dX10_scansOne_93 : decode cX10_scansOne 93 = .ok (.invokevirtual 202, 3) := by decide +kernel
theorem dX10_scansOne_96 : decode cX10_scansOne 96 = .ok (.if_icmp .ne 109, 3) := by decide +kernel
theorem dX10_scansOne_99 : decode cX10_scansOne 99 = .ok (.iconst 0, 1) := by decide +kernel
theorem dX10_scansOne_100 : decode cX10_scansOne 100 = .ok (.istore_n 3, 1) := by decide +kernel
theorem dX10_scansOne_101 : decode cX10_scansOne 101 = .ok (.iload_n 3, 1) := by decide +kernel
theorem dX10_scansOne_102 : decode cX10_scansOne 102 = .ok (.bipush 6, 2) := by decide +kernel
theorem dX10_scansOne_104 : decode cX10_scansOne 104 = .ok (.if_icmp .ge 31, 3) := by decide +kernel
theorem dX10_scansOne_107 : decode cX10_scansOne 107 = .ok (.iload_n 1, 1) := by decide +kernel
theorem dX10_scansOne_108 : decode cX10_scansOne 108 = .ok (.aload_n 0, 1) := by decide +kernel
theorem dX10_scansOne_109 : decode cX10_scansOne 109 = .ok (.getfield 68, 3) := by decide +kernel
theorem dX10_scansOne_112 : decode cX10_scansOne 112 = .ok (.iload_n 2, 1) := by decide +kernel
theorem dX10_scansOne_113 : decode cX10_scansOne 113 = .ok (.iaload, 1) := by decide +kernel
theorem dX10_scansOne_114 : decode cX10_scansOne 114 = .ok (.if_icmp .ge 21, 3) := by decide +kernel
theorem dX10_scansOne_117 : decode cX10_scansOne 117 = .ok (.aload_n 0, 1) := by decide +kernel
theorem dX10_scansOne_118 : decode cX10_scansOne 118 = .ok (.getfield 71, 3) := by decide +kernel
theorem dX10_scansOne_121 : decode cX10_scansOne 121 = .ok (.iload_n 3, 1) := by decide +kernel
theorem dX10_scansOne_122 : decode cX10_scansOne 122 = .ok (.aload_n 0, 1) := by decide +kernel
theorem dX10_scansOne_123 : decode cX10_scansOne 123 = .ok (.getfield 65, 3) := by decide +kernel
theorem dX10_scansOne_126 : decode cX10_scansOne 126 = .ok (.iload_n 3, 1) := by decide +kernel
theorem dX10_scansOne_127 : decode cX10_scansOne 127 = .ok (.iaload, 1) := by decide +kernel
theorem dX10_scansOne_128 : decode cX10_scansOne 128 = .ok (.iastore, 1) := by decide +kernel
theorem dX10_scansOne_129 : decode cX10_scansOne 129 = .ok (.iinc 3 1, 3) := by decide +kernel
theorem dX10_scansOne_132 : decode cX10_scansOne 132 = .ok (.goto (-31), 3) := by decide +kernel
theorem dX10_scansOne_135 : decode cX10_scansOne 135 = .ok (.iconst 0, 1) := by decide +kernel
theorem dX10_scansOne_136 : decode cX10_scansOne 136 = .ok (.istore_n 3, 1) := by decide +kernel
theorem dX10_scansOne_137 : decode cX10_scansOne 137 = .ok (.iload_n 3, 1) := by decide +kernel
theorem dX10_scansOne_138 : decode cX10_scansOne 138 = .ok (.aload_n 0, 1) := by decide +kernel
theorem dX10_scansOne_139 : decode cX10_scansOne 139 = .ok (.getfield 152, 3) := by decide +kernel
theorem dX10_scansOne_142 : decode cX10_scansOne 142 = .ok (.if_icmp .ge 63, 3) := by decide +kernel
theorem dX10_scansOne_145 : decode cX10_scansOne 145 = .ok (.aload_n 0, 1) := by decide +kernel
theorem dX10_scansOne_146 : decode cX10_scansOne 146 = .ok (.getfield 74, 3) := by decide +kernel
theorem dX10_scansOne_149 : decode cX10_scansOne 149 = .ok (.aload_n 0, 1) := by decide +kernel
theorem dX10_scansOne_150 : decode cX10_scansOne 150 = .ok (.getfield 56, 3) := by decide +kernel
theorem dX10_scansOne_153 : decode cX10_scansOne 153 = .ok (.iload_n 3, 1) := by decide +kernel
theorem dX10_scansOne_154 : decode cX10_scansOne 154 = .ok (.iaload, 1) := by decide +kernel
theorem dX10_scansOne_155 : decode cX10_scansOne 155 = .ok (.aload_n 0, 1) := by decide +kernel
theorem dX10_scansOne_156 : decode cX10_scansOne 156 = .ok (.aload_n 0, 1) := by decide +kernel
theorem dX10_scansOne_157 : decode cX10_scansOne 157 = .ok (.getfield 56, 3) := by decide +kernel
theorem dX10_scansOne_160 : decode cX10_scansOne 160 = .ok (.iload_n 3, 1) := by decide +kernel
theorem dX10_scansOne_161 : decode cX10_scansOne 161 = .ok (.iaload, 1) := by decide +kernel
theorem dX10_scansOne_162 : decode cX10_scansOne 162 = .ok (.invokevirtual 185, 3) := by decide +kernel
theorem dX10_scansOne_165 : decode cX10_scansOne 165 = .ok (.ifCond .eq 22, 3) := by decide +kernel
theorem dX10_scansOne_168 : decode cX10_scansOne 168 = .ok (.iload_n 1, 1) := by decide +kernel
theorem dX10_scansOne_169 : decode cX10_scansOne 169 = .ok (.aload_n 0, 1) := by decide +kernel
theorem dX10_scansOne_170 : decode cX10_scansOne 170 = .ok (.getfield 74, 3) := by decide +kernel
theorem dX10_scansOne_173 : decode cX10_scansOne 173 = .ok (.aload_n 0, 1) := by decide +kernel
theorem dX10_scansOne_174 : decode cX10_scansOne 174 = .ok (.getfield 56, 3) := by decide +kernel
theorem dX10_scansOne_177 : decode cX10_scansOne 177 = .ok (.iload_n 3, 1) := by decide +kernel
theorem dX10_scansOne_178 : decode cX10_scansOne 178 = .ok (.iaload, 1) := by decide +kernel
theorem dX10_scansOne_179 : decode cX10_scansOne 179 = .ok (.iaload, 1) := by decide +kernel
theorem dX10_scansOne_180 : decode cX10_scansOne 180 = .ok (.if_icmp .ge 7, 3) := by decide +kernel
theorem dX10_scansOne_183 : decode cX10_scansOne 183 = .ok (.iload_n 1, 1) := by decide +kernel
theorem dX10_scansOne_184 : decode cX10_scansOne 184 = .ok (.goto 14, 3) := by decide +kernel
theorem dX10_scansOne_187 : decode cX10_scansOne 187 = .ok (.aload_n 0, 1) := by decide +kernel
theorem dX10_scansOne_188 : decode cX10_scansOne 188 = .ok (.getfield 74, 3) := by decide +kernel
theorem dX10_scansOne_191 : decode cX10_scansOne 191 = .ok (.aload_n 0, 1) := by decide +kernel
theorem dX10_scansOne_192 : decode cX10_scansOne 192 = .ok (.getfield 56, 3) := by decide +kernel
theorem dX10_scansOne_195 : decode cX10_scansOne 195 = .ok (.iload_n 3, 1) := by decide +kernel
theorem dX10_scansOne_196 : decode cX10_scansOne 196 = .ok (.iaload, 1) := by decide +kernel
theorem dX10_scansOne_197 : decode cX10_scansOne 197 = .ok (.iaload, 1) := by decide +kernel
theorem dX10_scansOne_198 : decode cX10_scansOne 198 = .ok (.iastore, 1) := by decide +kernel
theorem dX10_scansOne_199 : decode cX10_scansOne 199 = .ok (.iinc 3 1, 3) := by decide +kernel
theorem dX10_scansOne_202 : decode cX10_scansOne 202 = .ok (.goto (-65), 3) := by decide +kernel
theorem dX10_scansOne_205 : decode cX10_scansOne 205 = .ok (.aload_n 0, 1) := by decide +kernel
theorem dX10_scansOne_206 : decode cX10_scansOne 206 = .ok (.getfield 68, 3) := by decide +kernel
theorem dX10_scansOne_209 : decode cX10_scansOne 209 = .ok (.iload_n 2, 1) := by decide +kernel
theorem dX10_scansOne_210 : decode cX10_scansOne 210 = .ok (.iload_n 1, 1) := by decide +kernel
theorem dX10_scansOne_211 : decode cX10_scansOne 211 = .ok (.aload_n 0, 1) := by decide +kernel
theorem dX10_scansOne_212 : decode cX10_scansOne 212 = .ok (.getfield 68, 3) := by decide +kernel
theorem dX10_scansOne_215 : decode cX10_scansOne 215 = .ok (.iload_n 2, 1) := by decide +kernel
theorem dX10_scansOne_216 : decode cX10_scansOne 216 = .ok (.iaload, 1) := by decide +kernel
theorem dX10_scansOne_217 : decode cX10_scansOne 217 = .ok (.if_icmp .ge 7, 3) := by decide +kernel
theorem dX10_scansOne_220 : decode cX10_scansOne 220 = .ok (.iload_n 1, 1) := by decide +kernel
theorem dX10_scansOne_221 : decode cX10_scansOne 221 = .ok (.goto 9, 3) := by decide +kernel
theorem dX10_scansOne_224 : decode cX10_scansOne 224 = .ok (.aload_n 0, 1) := by decide +kernel
theorem dX10_scansOne_225 : decode cX10_scansOne 225 = .ok (.getfield 68, 3) := by decide +kernel
theorem dX10_scansOne_228 : decode cX10_scansOne 228 = .ok (.iload_n 2, 1) := by decide +kernel
theorem dX10_scansOne_229 : decode cX10_scansOne 229 = .ok (.iaload, 1) := by decide +kernel
theorem dX10_scansOne_230 : decode cX10_scansOne 230 = .ok (.iastore, 1) := by decide +kernel
theorem dX10_scansOne_231 : decode cX10_scansOne 231 = .ok (.return_, 1) := by decide +kernel
theorem dX10_costOf_0 : decode cX10_costOf 0 = .ok (.ldc 167, 2) := by decide +kernel
theorem dX10_costOf_2 : decode cX10_costOf 2 = .ok (.istore_n 2, 1) := by decide +kernel
theorem dX10_costOf_3 : decode cX10_costOf 3 = .ok (.iconst 0, 1) := by decide +kernel
theorem dX10_costOf_4 : decode cX10_costOf 4 = .ok (.istore_n 3, 1) := by decide +kernel
theorem dX10_costOf_5 : decode cX10_costOf 5 = .ok (.iload_n 3, 1) := by decide +kernel
theorem dX10_costOf_6 : decode cX10_costOf 6 = .ok (.bipush 16, 2) := by decide +kernel
theorem dX10_costOf_8 : decode cX10_costOf 8 = .ok (.if_icmp .ge 38, 3) := by decide +kernel
theorem dX10_costOf_11 : decode cX10_costOf 11 = .ok (.iload_n 1, 1) := by decide +kernel
theorem dX10_costOf_12 : decode cX10_costOf 12 = .ok (.iload_n 3, 1) := by decide +kernel
theorem dX10_costOf_13 : decode cX10_costOf 13 = .ok (.iconst (-1), 1) := by decide +kernel
theorem dX10_costOf_14 : decode cX10_costOf 14 = .ok (.ixor, 1) := by decide +kernel
theorem dX10_costOf_15 : decode cX10_costOf 15 = .ok (.iand, 1) := by decide +kernel
theorem dX10_costOf_16 : decode cX10_costOf 16 = .ok (.ifCond .ne 22, 3) := by decide +kernel
theorem dX10_costOf_19 : decode cX10_costOf 19 = .ok (.aload_n 0, 1) := by decide +kernel
theorem dX10_costOf_20 : decode cX10_costOf 20 = .ok (.getfield 68, 3) := by decide +kernel
theorem dX10_costOf_23 : decode cX10_costOf 23 = .ok (.iload_n 3, 1) := by decide +kernel
theorem dX10_costOf_24 : decode cX10_costOf 24 = .ok (.iaload, 1) := by decide +kernel
theorem dX10_costOf_25 : decode cX10_costOf 25 = .ok (.iload_n 2, 1) := by decide +kernel
theorem dX10_costOf_26 : decode cX10_costOf 26 = .ok (.if_icmp .ge 12, 3) := by decide +kernel
theorem dX10_costOf_29 : decode cX10_costOf 29 = .ok (.aload_n 0, 1) := by decide +kernel
theorem dX10_costOf_30 : decode cX10_costOf 30 = .ok (.getfield 68, 3) := by decide +kernel
theorem dX10_costOf_33 : decode cX10_costOf 33 = .ok (.iload_n 3, 1) := by decide +kernel
theorem dX10_costOf_34 : decode cX10_costOf 34 = .ok (.iaload, 1) := by decide +kernel
theorem dX10_costOf_35 : decode cX10_costOf 35 = .ok (.goto 4, 3) := by decide +kernel
theorem dX10_costOf_38 : decode cX10_costOf 38 = .ok (.iload_n 2, 1) := by decide +kernel
theorem dX10_costOf_39 : decode cX10_costOf 39 = .ok (.istore_n 2, 1) := by decide +kernel
theorem dX10_costOf_40 : decode cX10_costOf 40 = .ok (.iinc 3 1, 3) := by decide +kernel
theorem dX10_costOf_43 : decode cX10_costOf 43 = .ok (.goto (-38), 3) := by decide +kernel
theorem dX10_costOf_46 : decode cX10_costOf 46 = .ok (.iload_n 2, 1) := by decide +kernel
theorem dX10_costOf_47 : decode cX10_costOf 47 = .ok (.ireturn, 1) := by decide +kernel
theorem dX10_asking_0 : decode cX10_asking 0 = .ok (.aload_n 0, 1) := by decide +kernel
theorem dX10_asking_1 : decode cX10_asking 1 = .ok (.iconst 0, 1) := by decide +kernel
theorem dX10_asking_2 : decode cX10_asking 2 = .ok (.putfield 89, 3) := by decide +kernel
theorem dX10_asking_5 : decode cX10_asking 5 = .ok (.iload_n 1, 1) := by decide +kernel
theorem dX10_asking_6 : decode cX10_asking 6 = .ok (.iconst (-1), 1) := by decide +kernel
theorem dX10_asking_7 : decode cX10_asking 7 = .ok (.if_icmp .eq 13, 3) := by decide +kernel
theorem dX10_asking_10 : decode cX10_asking 10 = .ok (.aload_n 0, 1) := by decide +kernel
theorem dX10_asking_11 : decode cX10_asking 11 = .ok (.iload_n 1, 1) := by decide +kernel
theorem dX10_asking_12 : decode cX10_asking 12 = .ok (.invokevirtual 171, 3) := by decide +kernel
theorem dX10_asking_15 : decode cX10_asking 15 = .ok (.ifCond .ne 5, 3) := by decide +kernel
theorem dX10_asking_18 : decode cX10_asking 18 = .ok (.iconst (-1), 1) := by decide +kernel
theorem dX10_asking_19 : decode cX10_asking 19 = .ok (.ireturn, 1) := by decide +kernel
theorem dX10_asking_20 : decode cX10_asking 20 = .ok (.aload_n 0, 1) := by decide +kernel
theorem dX10_asking_21 : decode cX10_asking 21 = .ok (.aload_n 0, 1) := by decide +kernel
theorem dX10_asking_22 : decode cX10_asking 22 = .ok (.invokevirtual 195, 3) := by decide +kernel
theorem dX10_asking_25 : decode cX10_asking 25 = .ok (.invokevirtual 199, 3) := by decide +kernel
theorem dX10_asking_28 : decode cX10_asking 28 = .ok (.aload_n 0, 1) := by decide +kernel
theorem dX10_asking_29 : decode cX10_asking 29 = .ok (.aload_n 0, 1) := by decide +kernel
theorem dX10_asking_30 : decode cX10_asking 30 = .ok (.invokevirtual 202, 3) := by decide +kernel
theorem dX10_asking_33 : decode cX10_asking 33 = .ok (.invokevirtual 205, 3) := by decide +kernel
theorem dX10_asking_36 : decode cX10_asking 36 = .ok (.istore_n 2, 1) := by decide +kernel
theorem dX10_asking_37 : decode cX10_asking 37 = .ok (.iload_n 2, 1) := by decide +kernel
theorem dX10_asking_38 : decode cX10_asking 38 = .ok (.ldc 167, 2) := by decide +kernel
theorem dX10_asking_40 : decode cX10_asking 40 = .ok (.if_icmp .ne 8, 3) := by decide +kernel
theorem dX10_asking_43 : decode cX10_asking 43 = .ok (.bipush (-9), 2) := by decide +kernel
theorem dX10_asking_45 : decode cX10_asking 45 = .ok (.goto 18, 3) := by decide +kernel
theorem dX10_asking_48 : decode cX10_asking 48 = .ok (.iload_n 1, 1) := by decide +kernel
theorem dX10_asking_49 : decode cX10_asking 49 = .ok (.iconst (-1), 1) := by decide +kernel
theorem dX10_asking_50 : decode cX10_asking 50 = .ok (.if_icmp .ne 7, 3) := by decide +kernel
theorem dX10_asking_53 : decode cX10_asking 53 = .ok (.iload_n 2, 1) := by decide +kernel
theorem dX10_asking_54 : decode cX10_asking 54 = .ok (.goto 9, 3) := by decide +kernel
theorem dX10_asking_57 : decode cX10_asking 57 = .ok (.aload_n 0, 1) := by decide +kernel
theorem dX10_asking_58 : decode cX10_asking 58 = .ok (.getfield 71, 3) := by decide +kernel
theorem dX10_asking_61 : decode cX10_asking 61 = .ok (.iload_n 1, 1) := by decide +kernel
theorem dX10_asking_62 : decode cX10_asking 62 = .ok (.iaload, 1) := by decide +kernel
theorem dX10_asking_63 : decode cX10_asking 63 = .ok (.ireturn, 1) := by decide +kernel
theorem dX10_clash_0 : decode cX10_clash 0 = .ok (.aload_n 0, 1) := by decide +kernel
theorem dX10_clash_1 : decode cX10_clash 1 = .ok (.iconst 0, 1) := by decide +kernel
theorem dX10_clash_2 : decode cX10_clash 2 = .ok (.putfield 89, 3) := by decide +kernel
theorem dX10_clash_5 : decode cX10_clash 5 = .ok (.aload_n 0, 1) := by decide +kernel
theorem dX10_clash_6 : decode cX10_clash 6 = .ok (.aload_n 0, 1) := by decide +kernel
theorem dX10_clash_7 : decode cX10_clash 7 = .ok (.invokevirtual 195, 3) := by decide +kernel
theorem dX10_clash_10 : decode cX10_clash 10 = .ok (.invokevirtual 199, 3) := by decide +kernel
theorem dX10_clash_13 : decode cX10_clash 13 = .ok (.iconst 0, 1) := by decide +kernel
theorem dX10_clash_14 : decode cX10_clash 14 = .ok (.istore_n 1, 1) := by decide +kernel
theorem dX10_clash_15 : decode cX10_clash 15 = .ok (.iconst 0, 1) := by decide +kernel
theorem dX10_clash_16 : decode cX10_clash 16 = .ok (.istore_n 2, 1) := by decide +kernel
theorem dX10_clash_17 : decode cX10_clash 17 = .ok (.iload_n 2, 1) := by decide +kernel
theorem dX10_clash_18 : decode cX10_clash 18 = .ok (.aload_n 0, 1) := by decide +kernel
theorem dX10_clash_19 : decode cX10_clash 19 = .ok (.invokevirtual 202, 3) := by decide +kernel
theorem dX10_clash_22 : decode cX10_clash 22 = .ok (.if_icmp .gt 50, 3) := by decide +kernel
theorem dX10_clash_25 : decode cX10_clash 25 = .ok (.iload_n 1, 1) := by decide +kernel
theorem dX10_clash_26 : decode cX10_clash 26 = .ok (.ifCond .eq 14, 3) := by decide +kernel
theorem dX10_clash_29 : decode cX10_clash 29 = .ok (.iload_n 2, 1) := by decide +kernel
theorem dX10_clash_30 : decode cX10_clash 30 = .ok (.invokestatic 223, 3) := by decide +kernel
theorem dX10_clash_33 : decode cX10_clash 33 = .ok (.iload_n 1, 1) := by decide +kernel
theorem dX10_clash_34 : decode cX10_clash 34 = .ok (.invokestatic 223, 3) := by decide +kernel
theorem dX10_clash_37 : decode cX10_clash 37 = .ok (.if_icmp .ge 7, 3) := by decide +kernel
theorem dX10_clash_40 : decode cX10_clash 40 = .ok (.iconst 1, 1) := by decide +kernel
theorem dX10_clash_41 : decode cX10_clash 41 = .ok (.goto 4, 3) := by decide +kernel
theorem dX10_clash_44 : decode cX10_clash 44 = .ok (.iconst 0, 1) := by decide +kernel
theorem dX10_clash_45 : decode cX10_clash 45 = .ok (.istore_n 3, 1) := by decide +kernel
theorem dX10_clash_46 : decode cX10_clash 46 = .ok (.iload_n 3, 1) := by decide +kernel
theorem dX10_clash_47 : decode cX10_clash 47 = .ok (.ifCond .eq 17, 3) := by decide +kernel
theorem dX10_clash_50 : decode cX10_clash 50 = .ok (.aload_n 0, 1) := by decide +kernel
theorem dX10_clash_51 : decode cX10_clash 51 = .ok (.iload_n 2, 1) := by decide +kernel
theorem dX10_clash_52 : decode cX10_clash 52 = .ok (.invokevirtual 205, 3) := by decide +kernel
theorem dX10_clash_55 : decode cX10_clash 55 = .ok (.ldc 167, 2) := by decide +kernel
theorem dX10_clash_57 : decode cX10_clash 57 = .ok (.if_icmp .ne 7, 3) := by decide +kernel
theorem dX10_clash_60 : decode cX10_clash 60 = .ok (.iload_n 2, 1) := by decide +kernel
theorem dX10_clash_61 : decode cX10_clash 61 = .ok (.goto 4, 3) := by decide +kernel
theorem dX10_clash_64 : decode cX10_clash 64 = .ok (.iload_n 1, 1) := by decide +kernel
theorem dX10_clash_65 : decode cX10_clash 65 = .ok (.istore_n 1, 1) := by decide +kernel
theorem dX10_clash_66 : decode cX10_clash 66 = .ok (.iinc 2 1, 3) := by decide +kernel
theorem dX10_clash_69 : decode cX10_clash 69 = .ok (.goto (-52), 3) := by decide +kernel
theorem dX10_clash_72 : decode cX10_clash 72 = .ok (.iload_n 1, 1) := by decide +kernel
theorem dX10_clash_73 : decode cX10_clash 73 = .ok (.ireturn, 1) := by decide +kernel
theorem dX10_fire_0 : decode cX10_fire 0 = .ok (.aload_n 0, 1) := by decide +kernel
theorem dX10_fire_1 : decode cX10_fire 1 = .ok (.iconst 0, 1) := by decide +kernel
theorem dX10_fire_2 : decode cX10_fire 2 = .ok (.putfield 89, 3) := by decide +kernel
theorem dX10_fire_5 : decode cX10_fire 5 = .ok (.iload_n 1, 1) := by decide +kernel
theorem dX10_fire_6 : decode cX10_fire 6 = .ok (.iconst 0, 1) := by decide +kernel
theorem dX10_fire_7 : decode cX10_fire 7 = .ok (.iconst 1, 1) := by decide +kernel
theorem dX10_fire_8 : decode cX10_fire 8 = .ok (.invokestatic 93, 3) := by decide +kernel
theorem dX10_fire_11 : decode cX10_fire 11 = .ok (.ifCond .ne 5, 3) := by decide +kernel
theorem dX10_fire_14 : decode cX10_fire 14 = .ok (.iconst (-1), 1) := by decide +kernel
theorem dX10_fire_15 : decode cX10_fire 15 = .ok (.ireturn, 1) := by decide +kernel
theorem dX10_fire_16 : decode cX10_fire 16 = .ok (.aload_n 0, 1) := by decide +kernel
theorem dX10_fire_17 : decode cX10_fire 17 = .ok (.getfield 28, 3) := by decide +kernel
theorem dX10_fire_20 : decode cX10_fire 20 = .ok (.bipush 6, 2) := by decide +kernel
theorem dX10_fire_22 : decode cX10_fire 22 = .ok (.iaload, 1) := by decide +kernel
theorem dX10_fire_23 : decode cX10_fire 23 = .ok (.ifCond .ne 6, 3) := by decide +kernel
theorem dX10_fire_26 : decode cX10_fire 26 = .ok (.bipush (-9), 2) := by decide +kernel
theorem dX10_fire_28 : decode cX10_fire 28 = .ok (.ireturn, 1) := by decide +kernel
theorem dX10_fire_29 : decode cX10_fire 29 = .ok (.aload_n 0, 1) := by decide +kernel
theorem dX10_fire_30 : decode cX10_fire 30 = .ok (.aload_n 0, 1) := by decide +kernel
theorem dX10_fire_31 : decode cX10_fire 31 = .ok (.invokevirtual 195, 3) := by decide +kernel
theorem dX10_fire_34 : decode cX10_fire 34 = .ok (.invokevirtual 199, 3) := by decide +kernel
theorem dX10_fire_37 : decode cX10_fire 37 = .ok (.iconst 0, 1) := by decide +kernel
theorem dX10_fire_38 : decode cX10_fire 38 = .ok (.istore_n 2, 1) := by decide +kernel
theorem dX10_fire_39 : decode cX10_fire 39 = .ok (.iconst 1, 1) := by decide +kernel
theorem dX10_fire_40 : decode cX10_fire 40 = .ok (.istore_n 3, 1) := by decide +kernel
theorem dX10_fire_41 : decode cX10_fire 41 = .ok (.iload_n 3, 1) := by decide +kernel
theorem dX10_fire_42 : decode cX10_fire 42 = .ok (.aload_n 0, 1) := by decide +kernel
theorem dX10_fire_43 : decode cX10_fire 43 = .ok (.getfield 28, 3) := by decide +kernel
theorem dX10_fire_46 : decode cX10_fire 46 = .ok (.bipush 6, 2) := by decide +kernel
theorem dX10_fire_48 : decode cX10_fire 48 = .ok (.iaload, 1) := by decide +kernel
theorem dX10_fire_49 : decode cX10_fire 49 = .ok (.if_icmp .ge 46, 3) := by decide +kernel
theorem dX10_fire_52 : decode cX10_fire 52 = .ok (.aload_n 0, 1) := by decide +kernel
theorem dX10_fire_53 : decode cX10_fire 53 = .ok (.aload_n 0, 1) := by decide +kernel
theorem dX10_fire_54 : decode cX10_fire 54 = .ok (.invokevirtual 202, 3) := by decide +kernel
theorem dX10_fire_57 : decode cX10_fire 57 = .ok (.iconst 1, 1) := by decide +kernel
theorem dX10_fire_58 : decode cX10_fire 58 = .ok (.iload_n 3, 1) := by decide +kernel
theorem dX10_fire_59 : decode cX10_fire 59 = .ok (.ishl, 1) := by decide +kernel
theorem dX10_fire_60 : decode cX10_fire 60 = .ok (.iconst (-1), 1) := by decide +kernel
theorem dX10_fire_61 : decode cX10_fire 61 = .ok (.ixor, 1) := by decide +kernel
theorem dX10_fire_62 : decode cX10_fire 62 = .ok (.iand, 1) := by decide +kernel
theorem dX10_fire_63 : decode cX10_fire 63 = .ok (.invokevirtual 205, 3) := by decide +kernel
theorem dX10_fire_66 : decode cX10_fire 66 = .ok (.aload_n 0, 1) := by decide +kernel
theorem dX10_fire_67 : decode cX10_fire 67 = .ok (.aload_n 0, 1) := by decide +kernel
theorem dX10_fire_68 : decode cX10_fire 68 = .ok (.invokevirtual 202, 3) := by decide +kernel
theorem dX10_fire_71 : decode cX10_fire 71 = .ok (.iconst 1, 1) := by decide +kernel
theorem dX10_fire_72 : decode cX10_fire 72 = .ok (.iload_n 2, 1) := by decide +kernel
theorem dX10_fire_73 : decode cX10_fire 73 = .ok (.ishl, 1) := by decide +kernel
theorem dX10_fire_74 : decode cX10_fire 74 = .ok (.iconst (-1), 1) := by decide +kernel
theorem dX10_fire_75 : decode cX10_fire 75 = .ok (.ixor, 1) := by decide +kernel
theorem dX10_fire_76 : decode cX10_fire 76 = .ok (.iand, 1) := by decide +kernel
theorem dX10_fire_77 : decode cX10_fire 77 = .ok (.invokevirtual 205, 3) := by decide +kernel
theorem dX10_fire_80 : decode cX10_fire 80 = .ok (.if_icmp .ge 7, 3) := by decide +kernel
theorem dX10_fire_83 : decode cX10_fire 83 = .ok (.iload_n 3, 1) := by decide +kernel
theorem dX10_fire_84 : decode cX10_fire 84 = .ok (.goto 4, 3) := by decide +kernel
theorem dX10_fire_87 : decode cX10_fire 87 = .ok (.iload_n 2, 1) := by decide +kernel
theorem dX10_fire_88 : decode cX10_fire 88 = .ok (.istore_n 2, 1) := by decide +kernel
theorem dX10_fire_89 : decode cX10_fire 89 = .ok (.iinc 3 1, 3) := by decide +kernel
theorem dX10_fire_92 : decode cX10_fire 92 = .ok (.goto (-51), 3) := by decide +kernel
theorem dX10_fire_95 : decode cX10_fire 95 = .ok (.aload_n 0, 1) := by decide +kernel
theorem dX10_fire_96 : decode cX10_fire 96 = .ok (.aload_n 0, 1) := by decide +kernel
theorem dX10_fire_97 : decode cX10_fire 97 = .ok (.invokevirtual 202, 3) := by decide +kernel
theorem dX10_fire_100 : decode cX10_fire 100 = .ok (.iconst 1, 1) := by decide +kernel
theorem dX10_fire_101 : decode cX10_fire 101 = .ok (.iload_n 2, 1) := by decide +kernel
theorem dX10_fire_102 : decode cX10_fire 102 = .ok (.ishl, 1) := by decide +kernel
theorem dX10_fire_103 : decode cX10_fire 103 = .ok (.iconst (-1), 1) := by decide +kernel
theorem dX10_fire_104 : decode cX10_fire 104 = .ok (.ixor, 1) := by decide +kernel
theorem dX10_fire_105 : decode cX10_fire 105 = .ok (.iand, 1) := by decide +kernel
theorem dX10_fire_106 : decode cX10_fire 106 = .ok (.invokevirtual 205, 3) := by decide +kernel
theorem dX10_fire_109 : decode cX10_fire 109 = .ok (.istore_n 3, 1) := by decide +kernel
theorem dX10_fire_110 : decode cX10_fire 110 = .ok (.iload_n 1, 1) := by decide +kernel
theorem dX10_fire_111 : decode cX10_fire 111 = .ok (.ifCond .ne 7, 3) := by decide +kernel
theorem dX10_fire_114 : decode cX10_fire 114 = .ok (.iload_n 2, 1) := by decide +kernel
theorem dX10_fire_115 : decode cX10_fire 115 = .ok (.goto 15, 3) := by decide +kernel
theorem dX10_fire_118 : decode cX10_fire 118 = .ok (.iload_n 3, 1) := by decide +kernel
theorem dX10_fire_119 : decode cX10_fire 119 = .ok (.ldc 167, 2) := by decide +kernel
theorem dX10_fire_121 : decode cX10_fire 121 = .ok (.if_icmp .ne 8, 3) := by decide +kernel
theorem dX10_fire_124 : decode cX10_fire 124 = .ok (.bipush (-9), 2) := by decide +kernel
theorem dX10_fire_126 : decode cX10_fire 126 = .ok (.goto 4, 3) := by decide +kernel
theorem dX10_fire_129 : decode cX10_fire 129 = .ok (.iload_n 3, 1) := by decide +kernel
theorem dX10_fire_130 : decode cX10_fire 130 = .ok (.ireturn, 1) := by decide +kernel
theorem dX10_reads_0 : decode cX10_reads 0 = .ok (.iload_n 1, 1) := by decide +kernel
theorem dX10_reads_1 : decode cX10_reads 1 = .ok (.istore_n 2, 1) := by decide +kernel
theorem dX10_reads_2 : decode cX10_reads 2 = .ok (.iconst 0, 1) := by decide +kernel
theorem dX10_reads_3 : decode cX10_reads 3 = .ok (.istore_n 3, 1) := by decide +kernel
theorem dX10_reads_4 : decode cX10_reads 4 = .ok (.aload_n 0, 1) := by decide +kernel
theorem dX10_reads_5 : decode cX10_reads 5 = .ok (.getfield 77, 3) := by decide +kernel
theorem dX10_reads_8 : decode cX10_reads 8 = .ok (.iconst 0, 1) := by decide +kernel
theorem dX10_reads_9 : decode cX10_reads 9 = .ok (.aload_n 0, 1) := by decide +kernel
theorem dX10_reads_10 : decode cX10_reads 10 = .ok (.getfield 47, 3) := by decide +kernel
theorem dX10_reads_13 : decode cX10_reads 13 = .ok (.iload_n 1, 1) := by decide +kernel
theorem dX10_reads_14 : decode cX10_reads 14 = .ok (.iaload, 1) := by decide +kernel
theorem dX10_reads_15 : decode cX10_reads 15 = .ok (.iconst 1, 1) := by decide +kernel
theorem dX10_reads_16 : decode cX10_reads 16 = .ok (.isub, 1) := by decide +kernel
theorem dX10_reads_17 : decode cX10_reads 17 = .ok (.iconst 5, 1) := by decide +kernel
theorem dX10_reads_18 : decode cX10_reads 18 = .ok (.idiv, 1) := by decide +kernel
theorem dX10_reads_19 : decode cX10_reads 19 = .ok (.iastore, 1) := by decide +kernel
theorem dX10_reads_20 : decode cX10_reads 20 = .ok (.iload_n 2, 1) := by decide +kernel
theorem dX10_reads_21 : decode cX10_reads 21 = .ok (.ifCond .eq 130, 3) := by decide +kernel
theorem dX10_reads_24 : decode cX10_reads 24 = .ok (.bipush (-9), 2) := by decide +kernel
theorem dX10_reads_26 : decode cX10_reads 26 = .ok (.istore 4, 2) := by decide +kernel
theorem dX10_reads_28 : decode cX10_reads 28 = .ok (.iconst 0, 1) := by decide +kernel
theorem dX10_reads_29 : decode cX10_reads 29 = .ok (.istore 5, 2) := by decide +kernel
theorem dX10_reads_31 : decode cX10_reads 31 = .ok (.iload 5, 2) := by decide +kernel
theorem dX10_reads_33 : decode cX10_reads 33 = .ok (.bipush 6, 2) := by decide +kernel
theorem dX10_reads_35 : decode cX10_reads 35 = .ok (.if_icmp .ge 60, 3) := by decide +kernel
theorem dX10_reads_38 : decode cX10_reads 38 = .ok (.iload_n 2, 1) := by decide +kernel
theorem dX10_reads_39 : decode cX10_reads 39 = .ok (.iload 5, 2) := by decide +kernel
theorem dX10_reads_41 : decode cX10_reads 41 = .ok (.ishr, 1) := by decide +kernel
theorem dX10_reads_42 : decode cX10_reads 42 = .ok (.iconst 1, 1) := by decide +kernel
theorem dX10_reads_43 : decode cX10_reads 43 = .ok (.iand, 1) := by decide +kernel
theorem dX10_reads_44 : decode cX10_reads 44 = .ok (.iconst 1, 1) := by decide +kernel
theorem dX10_reads_45 : decode cX10_reads 45 = .ok (.if_icmp .ne 40, 3) := by decide +kernel
theorem dX10_reads_48 : decode cX10_reads 48 = .ok (.aload_n 0, 1) := by decide +kernel
theorem dX10_reads_49 : decode cX10_reads 49 = .ok (.getfield 16, 3) := by decide +kernel
theorem dX10_reads_52 : decode cX10_reads 52 = .ok (.iload 5, 2) := by decide +kernel
theorem dX10_reads_54 : decode cX10_reads 54 = .ok (.iaload, 1) := by decide +kernel
theorem dX10_reads_55 : decode cX10_reads 55 = .ok (.aload_n 0, 1) := by decide +kernel
theorem dX10_reads_56 : decode cX10_reads 56 = .ok (.getfield 77, 3) := by decide +kernel
theorem dX10_reads_59 : decode cX10_reads 59 = .ok (.iload_n 3, 1) := by decide +kernel
theorem dX10_reads_60 : decode cX10_reads 60 = .ok (.iaload, 1) := by decide +kernel
theorem dX10_reads_61 : decode cX10_reads 61 = .ok (.if_icmp .eq 19, 3) := by decide +kernel
theorem dX10_reads_64 : decode cX10_reads 64 = .ok (.aload_n 0, 1) := by decide +kernel
theorem dX10_reads_65 : decode cX10_reads 65 = .ok (.getfield 19, 3) := by decide +kernel
theorem dX10_reads_68 : decode cX10_reads 68 = .ok (.iload 5, 2) := by decide +kernel
theorem dX10_reads_70 : decode cX10_reads 70 = .ok (.iaload, 1) := by decide +kernel
theorem dX10_reads_71 : decode cX10_reads 71 = .ok (.aload_n 0, 1) := by decide +kernel
theorem dX10_reads_72 : decode cX10_reads 72 = .ok (.getfield 77, 3) := by decide +kernel
theorem dX10_reads_75 : decode cX10_reads 75 = .ok (.iload_n 3, 1) := by decide +kernel
theorem dX10_reads_76 : decode cX10_reads 76 = .ok (.iaload, 1) := by decide +kernel
theorem dX10_reads_77 : decode cX10_reads 77 = .ok (.if_icmp .ne 8, 3) := by decide +kernel
theorem dX10_reads_80 : decode cX10_reads 80 = .ok (.iload 5, 2) := by decide +kernel
theorem dX10_reads_82 : decode cX10_reads 82 = .ok (.goto 5, 3) := by decide +kernel
theorem dX10_reads_85 : decode cX10_reads 85 = .ok (.iload 4, 2) := by decide +kernel
theorem dX10_reads_87 : decode cX10_reads 87 = .ok (.istore 4, 2) := by decide +kernel
theorem dX10_reads_89 : decode cX10_reads 89 = .ok (.iinc 5 1, 3) := by decide +kernel
theorem dX10_reads_92 : decode cX10_reads 92 = .ok (.goto (-61), 3) := by decide +kernel
theorem dX10_reads_95 : decode cX10_reads 95 = .ok (.iload_n 2, 1) := by decide +kernel
theorem dX10_reads_96 : decode cX10_reads 96 = .ok (.iconst 1, 1) := by decide +kernel
theorem dX10_reads_97 : decode cX10_reads 97 = .ok (.iload 4, 2) := by decide +kernel
theorem dX10_reads_99 : decode cX10_reads 99 = .ok (.ishl, 1) := by decide +kernel
theorem dX10_reads_100 : decode cX10_reads 100 = .ok (.iconst (-1), 1) := by decide +kernel
theorem dX10_reads_101 : decode cX10_reads 101 = .ok (.ixor, 1) := by decide +kernel
theorem dX10_reads_102 : decode cX10_reads 102 = .ok (.iand, 1) := by decide +kernel
theorem dX10_reads_103 : decode cX10_reads 103 = .ok (.istore_n 2, 1) := by decide +kernel
theorem dX10_reads_104 : decode cX10_reads 104 = .ok (.aload_n 0, 1) := by decide +kernel
theorem dX10_reads_105 : decode cX10_reads 105 = .ok (.getfield 77, 3) := by decide +kernel
theorem dX10_reads_108 : decode cX10_reads 108 = .ok (.iload_n 3, 1) := by decide +kernel
theorem dX10_reads_109 : decode cX10_reads 109 = .ok (.iconst 1, 1) := by decide +kernel
theorem dX10_reads_110 : decode cX10_reads 110 = .ok (.iadd, 1) := by decide +kernel
theorem dX10_reads_111 : decode cX10_reads 111 = .ok (.aload_n 0, 1) := by decide +kernel
theorem dX10_reads_112 : decode cX10_reads 112 = .ok (.getfield 16, 3) := by decide +kernel
theorem dX10_reads_115 : decode cX10_reads 115 = .ok (.iload 4, 2) := by decide +kernel
theorem dX10_reads_117 : decode cX10_reads 117 = .ok (.iaload, 1) := by decide +kernel
theorem dX10_reads_118 : decode cX10_reads 118 = .ok (.aload_n 0, 1) := by decide +kernel
theorem dX10_reads_119 : decode cX10_reads 119 = .ok (.getfield 77, 3) := by decide +kernel
theorem dX10_reads_122 : decode cX10_reads 122 = .ok (.iload_n 3, 1) := by decide +kernel
theorem dX10_reads_123 : decode cX10_reads 123 = .ok (.iaload, 1) := by decide +kernel
theorem dX10_reads_124 : decode cX10_reads 124 = .ok (.if_icmp .ne 13, 3) := by decide +kernel
theorem dX10_reads_127 : decode cX10_reads 127 = .ok (.aload_n 0, 1) := by decide +kernel
theorem dX10_reads_128 : decode cX10_reads 128 = .ok (.getfield 19, 3) := by decide +kernel
theorem dX10_reads_131 : decode cX10_reads 131 = .ok (.iload 4, 2) := by decide +kernel
theorem dX10_reads_133 : decode cX10_reads 133 = .ok (.iaload, 1) := by decide +kernel
theorem dX10_reads_134 : decode cX10_reads 134 = .ok (.goto 10, 3) := by decide +kernel
theorem dX10_reads_137 : decode cX10_reads 137 = .ok (.aload_n 0, 1) := by decide +kernel
theorem dX10_reads_138 : decode cX10_reads 138 = .ok (.getfield 16, 3) := by decide +kernel
theorem dX10_reads_141 : decode cX10_reads 141 = .ok (.iload 4, 2) := by decide +kernel
theorem dX10_reads_143 : decode cX10_reads 143 = .ok (.iaload, 1) := by decide +kernel
theorem dX10_reads_144 : decode cX10_reads 144 = .ok (.iastore, 1) := by decide +kernel
theorem dX10_reads_145 : decode cX10_reads 145 = .ok (.iinc 3 1, 3) := by decide +kernel
theorem dX10_reads_148 : decode cX10_reads 148 = .ok (.goto (-128), 3) := by decide +kernel
theorem dX10_reads_151 : decode cX10_reads 151 = .ok (.iload_n 3, 1) := by decide +kernel
theorem dX10_reads_152 : decode cX10_reads 152 = .ok (.iconst 1, 1) := by decide +kernel
theorem dX10_reads_153 : decode cX10_reads 153 = .ok (.iadd, 1) := by decide +kernel
theorem dX10_reads_154 : decode cX10_reads 154 = .ok (.ireturn, 1) := by decide +kernel
theorem dX10_isAhead_0 : decode cX10_isAhead 0 = .ok (.iconst 0, 1) := by decide +kernel
theorem dX10_isAhead_1 : decode cX10_isAhead 1 = .ok (.istore_n 3, 1) := by decide +kernel
theorem dX10_isAhead_2 : decode cX10_isAhead 2 = .ok (.iload_n 3, 1) := by decide +kernel
theorem dX10_isAhead_3 : decode cX10_isAhead 3 = .ok (.iload_n 1, 1) := by decide +kernel
theorem dX10_isAhead_4 : decode cX10_isAhead 4 = .ok (.if_icmp .ge 50, 3) := by decide +kernel
theorem dX10_isAhead_7 : decode cX10_isAhead 7 = .ok (.iload_n 3, 1) := by decide +kernel
theorem dX10_isAhead_8 : decode cX10_isAhead 8 = .ok (.iload_n 2, 1) := by decide +kernel
theorem dX10_isAhead_9 : decode cX10_isAhead 9 = .ok (.if_icmp .ge 45, 3) := by decide +kernel
theorem dX10_isAhead_12 : decode cX10_isAhead 12 = .ok (.aload_n 0, 1) := by decide +kernel
theorem dX10_isAhead_13 : decode cX10_isAhead 13 = .ok (.getfield 77, 3) := by decide +kernel
theorem dX10_isAhead_16 : decode cX10_isAhead 16 = .ok (.iload_n 3, 1) := by decide +kernel
theorem dX10_isAhead_17 : decode cX10_isAhead 17 = .ok (.iaload, 1) := by decide +kernel
theorem dX10_isAhead_18 : decode cX10_isAhead 18 = .ok (.aload_n 0, 1) := by decide +kernel
theorem dX10_isAhead_19 : decode cX10_isAhead 19 = .ok (.getfield 80, 3) := by decide +kernel
theorem dX10_isAhead_22 : decode cX10_isAhead 22 = .ok (.iload_n 3, 1) := by decide +kernel
theorem dX10_isAhead_23 : decode cX10_isAhead 23 = .ok (.iaload, 1) := by decide +kernel
theorem dX10_isAhead_24 : decode cX10_isAhead 24 = .ok (.if_icmp .eq 24, 3) := by decide +kernel
theorem dX10_isAhead_27 : decode cX10_isAhead 27 = .ok (.aload_n 0, 1) := by decide +kernel
theorem dX10_isAhead_28 : decode cX10_isAhead 28 = .ok (.getfield 77, 3) := by decide +kernel
theorem dX10_isAhead_31 : decode cX10_isAhead 31 = .ok (.iload_n 3, 1) := by decide +kernel
theorem dX10_isAhead_32 : decode cX10_isAhead 32 = .ok (.iaload, 1) := by decide +kernel
theorem dX10_isAhead_33 : decode cX10_isAhead 33 = .ok (.aload_n 0, 1) := by decide +kernel
theorem dX10_isAhead_34 : decode cX10_isAhead 34 = .ok (.getfield 80, 3) := by decide +kernel
theorem dX10_isAhead_37 : decode cX10_isAhead 37 = .ok (.iload_n 3, 1) := by decide +kernel
theorem dX10_isAhead_38 : decode cX10_isAhead 38 = .ok (.iaload, 1) := by decide +kernel
theorem dX10_isAhead_39 : decode cX10_isAhead 39 = .ok (.if_icmp .ge 7, 3) := by decide +kernel
theorem dX10_isAhead_42 : decode cX10_isAhead 42 = .ok (.iconst 1, 1) := by decide +kernel
theorem dX10_isAhead_43 : decode cX10_isAhead 43 = .ok (.goto 4, 3) := by decide +kernel
theorem dX10_isAhead_46 : decode cX10_isAhead 46 = .ok (.iconst 0, 1) := by decide +kernel
theorem dX10_isAhead_47 : decode cX10_isAhead 47 = .ok (.ireturn, 1) := by decide +kernel
theorem dX10_isAhead_48 : decode cX10_isAhead 48 = .ok (.iinc 3 1, 3) := by decide +kernel
theorem dX10_isAhead_51 : decode cX10_isAhead 51 = .ok (.goto (-49), 3) := by decide +kernel
theorem dX10_isAhead_54 : decode cX10_isAhead 54 = .ok (.iload_n 1, 1) := by decide +kernel
theorem dX10_isAhead_55 : decode cX10_isAhead 55 = .ok (.iload_n 2, 1) := by decide +kernel
theorem dX10_isAhead_56 : decode cX10_isAhead 56 = .ok (.if_icmp .ge 7, 3) := by decide +kernel
theorem dX10_isAhead_59 : decode cX10_isAhead 59 = .ok (.iconst 1, 1) := by decide +kernel
theorem dX10_isAhead_60 : decode cX10_isAhead 60 = .ok (.goto 4, 3) := by decide +kernel
theorem dX10_isAhead_63 : decode cX10_isAhead 63 = .ok (.iconst 0, 1) := by decide +kernel
theorem dX10_isAhead_64 : decode cX10_isAhead 64 = .ok (.ireturn, 1) := by decide +kernel
theorem dX10_spiteSet_0 : decode cX10_spiteSet 0 = .ok (.aload_n 0, 1) := by decide +kernel
theorem dX10_spiteSet_1 : decode cX10_spiteSet 1 = .ok (.iconst 0, 1) := by decide +kernel
theorem dX10_spiteSet_2 : decode cX10_spiteSet 2 = .ok (.invokevirtual 199, 3) := by decide +kernel
theorem dX10_spiteSet_5 : decode cX10_spiteSet 5 = .ok (.iconst 0, 1) := by decide +kernel
theorem dX10_spiteSet_6 : decode cX10_spiteSet 6 = .ok (.istore_n 1, 1) := by decide +kernel
theorem dX10_spiteSet_7 : decode cX10_spiteSet 7 = .ok (.iconst 0, 1) := by decide +kernel
theorem dX10_spiteSet_8 : decode cX10_spiteSet 8 = .ok (.istore_n 2, 1) := by decide +kernel
theorem dX10_spiteSet_9 : decode cX10_spiteSet 9 = .ok (.iconst 1, 1) := by decide +kernel
theorem dX10_spiteSet_10 : decode cX10_spiteSet 10 = .ok (.istore_n 3, 1) := by decide +kernel
theorem dX10_spiteSet_11 : decode cX10_spiteSet 11 = .ok (.iload_n 3, 1) := by decide +kernel
theorem dX10_spiteSet_12 : decode cX10_spiteSet 12 = .ok (.bipush 64, 2) := by decide +kernel
theorem dX10_spiteSet_14 : decode cX10_spiteSet 14 = .ok (.if_icmp .ge 156, 3) := by decide +kernel
theorem dX10_spiteSet_17 : decode cX10_spiteSet 17 = .ok (.aload_n 0, 1) := by decide +kernel
theorem dX10_spiteSet_18 : decode cX10_spiteSet 18 = .ok (.getfield 47, 3) := by decide +kernel
theorem dX10_spiteSet_21 : decode cX10_spiteSet 21 = .ok (.iload_n 3, 1) := by decide +kernel
theorem dX10_spiteSet_22 : decode cX10_spiteSet 22 = .ok (.iaload, 1) := by decide +kernel
theorem dX10_spiteSet_23 : decode cX10_spiteSet 23 = .ok (.ifCond .eq 141, 3) := by decide +kernel
theorem dX10_spiteSet_26 : decode cX10_spiteSet 26 = .ok (.aload_n 0, 1) := by decide +kernel
theorem dX10_spiteSet_27 : decode cX10_spiteSet 27 = .ok (.getfield 74, 3) := by decide +kernel
theorem dX10_spiteSet_30 : decode cX10_spiteSet 30 = .ok (.iload_n 3, 1) := by decide +kernel
theorem dX10_spiteSet_31 : decode cX10_spiteSet 31 = .ok (.iaload, 1) := by decide +kernel
theorem dX10_spiteSet_32 : decode cX10_spiteSet 32 = .ok (.ldc 167, 2) := by decide +kernel
theorem dX10_spiteSet_34 : decode cX10_spiteSet 34 = .ok (.if_icmp .eq 130, 3) := by decide +kernel
theorem dX10_spiteSet_37 : decode cX10_spiteSet 37 = .ok (.aload_n 0, 1) := by decide +kernel
theorem dX10_spiteSet_38 : decode cX10_spiteSet 38 = .ok (.iload_n 3, 1) := by decide +kernel
theorem dX10_spiteSet_39 : decode cX10_spiteSet 39 = .ok (.invokevirtual 226, 3) := by decide +kernel
theorem dX10_spiteSet_42 : decode cX10_spiteSet 42 = .ok (.istore 4, 2) := by decide +kernel
theorem dX10_spiteSet_44 : decode cX10_spiteSet 44 = .ok (.iload_n 1, 1) := by decide +kernel
theorem dX10_spiteSet_45 : decode cX10_spiteSet 45 = .ok (.ifCond .eq 43, 3) := by decide +kernel
theorem dX10_spiteSet_48 : decode cX10_spiteSet 48 = .ok (.aload_n 0, 1) := by decide +kernel
theorem dX10_spiteSet_49 : decode cX10_spiteSet 49 = .ok (.getfield 74, 3) := by decide +kernel
theorem dX10_spiteSet_52 : decode cX10_spiteSet 52 = .ok (.iload_n 3, 1) := by decide +kernel
theorem dX10_spiteSet_53 : decode cX10_spiteSet 53 = .ok (.iaload, 1) := by decide +kernel
theorem dX10_spiteSet_54 : decode cX10_spiteSet 54 = .ok (.aload_n 0, 1) := by decide +kernel
theorem dX10_spiteSet_55 : decode cX10_spiteSet 55 = .ok (.getfield 74, 3) := by decide +kernel
theorem dX10_spiteSet_58 : decode cX10_spiteSet 58 = .ok (.iload_n 1, 1) := by decide +kernel
theorem dX10_spiteSet_59 : decode cX10_spiteSet 59 = .ok (.iaload, 1) := by decide +kernel
theorem dX10_spiteSet_60 : decode cX10_spiteSet 60 = .ok (.if_icmp .gt 28, 3) := by decide +kernel
theorem dX10_spiteSet_63 : decode cX10_spiteSet 63 = .ok (.aload_n 0, 1) := by decide +kernel
theorem dX10_spiteSet_64 : decode cX10_spiteSet 64 = .ok (.getfield 74, 3) := by decide +kernel
theorem dX10_spiteSet_67 : decode cX10_spiteSet 67 = .ok (.iload_n 3, 1) := by decide +kernel
theorem dX10_spiteSet_68 : decode cX10_spiteSet 68 = .ok (.iaload, 1) := by decide +kernel
theorem dX10_spiteSet_69 : decode cX10_spiteSet 69 = .ok (.aload_n 0, 1) := by decide +kernel
theorem dX10_spiteSet_70 : decode cX10_spiteSet 70 = .ok (.getfield 74, 3) := by decide +kernel
theorem dX10_spiteSet_73 : decode cX10_spiteSet 73 = .ok (.iload_n 1, 1) := by decide +kernel
theorem dX10_spiteSet_74 : decode cX10_spiteSet 74 = .ok (.iaload, 1) := by decide +kernel
theorem dX10_spiteSet_75 : decode cX10_spiteSet 75 = .ok (.if_icmp .ne 17, 3) := by decide +kernel
theorem dX10_spiteSet_78 : decode cX10_spiteSet 78 = .ok (.aload_n 0, 1) := by decide +kernel
theorem dX10_spiteSet_79 : decode cX10_spiteSet 79 = .ok (.iload 4, 2) := by decide +kernel
theorem dX10_spiteSet_81 : decode cX10_spiteSet 81 = .ok (.iload_n 2, 1) := by decide +kernel
theorem dX10_spiteSet_82 : decode cX10_spiteSet 82 = .ok (.invokevirtual 229, 3) := by decide +kernel
theorem dX10_spiteSet_85 : decode cX10_spiteSet 85 = .ok (.ifCond .eq 7, 3) := by decide +kernel
theorem dX10_spiteSet_88 : decode cX10_spiteSet 88 = .ok (.iconst 1, 1) := by decide +kernel
theorem dX10_spiteSet_89 : decode cX10_spiteSet 89 = .ok (.goto 4, 3) := by decide +kernel
theorem dX10_spiteSet_92 : decode cX10_spiteSet 92 = .ok (.iconst 0, 1) := by decide +kernel
theorem dX10_spiteSet_93 : decode cX10_spiteSet 93 = .ok (.istore 5, 2) := by decide +kernel
theorem dX10_spiteSet_95 : decode cX10_spiteSet 95 = .ok (.iconst 0, 1) := by decide +kernel
theorem dX10_spiteSet_96 : decode cX10_spiteSet 96 = .ok (.istore 6, 2) := by decide +kernel
theorem dX10_spiteSet_98 : decode cX10_spiteSet 98 = .ok (.iload 6, 2) := by decide +kernel
theorem dX10_spiteSet_100 : decode cX10_spiteSet 100 = .ok (.iconst 5, 1) := by decide +kernel
theorem dX10_spiteSet_101 : decode cX10_spiteSet 101 = .ok (.if_icmp .ge 40, 3) := by decide +kernel
theorem dX10_spiteSet_104 : decode cX10_spiteSet 104 = .ok (.iload 5, 2) := by decide +kernel
theorem dX10_spiteSet_106 : decode cX10_spiteSet 106 = .ok (.ifCond .eq 35, 3) := by decide +kernel
theorem dX10_spiteSet_109 : decode cX10_spiteSet 109 = .ok (.aload_n 0, 1) := by decide +kernel
theorem dX10_spiteSet_110 : decode cX10_spiteSet 110 = .ok (.getfield 80, 3) := by decide +kernel
theorem dX10_spiteSet_113 : decode cX10_spiteSet 113 = .ok (.iload 6, 2) := by decide +kernel
theorem dX10_spiteSet_115 : decode cX10_spiteSet 115 = .ok (.iload 6, 2) := by decide +kernel
theorem dX10_spiteSet_117 : decode cX10_spiteSet 117 = .ok (.iload 4, 2) := by decide +kernel
theorem dX10_spiteSet_119 : decode cX10_spiteSet 119 = .ok (.if_icmp .ge 13, 3) := by decide +kernel
theorem dX10_spiteSet_122 : decode cX10_spiteSet 122 = .ok (.aload_n 0, 1) := by decide +kernel
theorem dX10_spiteSet_123 : decode cX10_spiteSet 123 = .ok (.getfield 77, 3) := by decide +kernel
theorem dX10_spiteSet_126 : decode cX10_spiteSet 126 = .ok (.iload 6, 2) := by decide +kernel
theorem dX10_spiteSet_128 : decode cX10_spiteSet 128 = .ok (.iaload, 1) := by decide +kernel
theorem dX10_spiteSet_129 : decode cX10_spiteSet 129 = .ok (.goto 5, 3) := by decide +kernel
theorem dX10_spiteSet_132 : decode cX10_spiteSet 132 = .ok (.bipush (-9), 2) := by decide +kernel
theorem dX10_spiteSet_134 : decode cX10_spiteSet 134 = .ok (.iastore, 1) := by decide +kernel
theorem dX10_spiteSet_135 : decode cX10_spiteSet 135 = .ok (.iinc 6 1, 3) := by decide +kernel
theorem dX10_spiteSet_138 : decode cX10_spiteSet 138 = .ok (.goto (-40), 3) := by decide +kernel
theorem dX10_spiteSet_141 : decode cX10_spiteSet 141 = .ok (.iload 5, 2) := by decide +kernel
theorem dX10_spiteSet_143 : decode cX10_spiteSet 143 = .ok (.ifCond .eq 8, 3) := by decide +kernel
theorem dX10_spiteSet_146 : decode cX10_spiteSet 146 = .ok (.iload 4, 2) := by decide +kernel
theorem dX10_spiteSet_148 : decode cX10_spiteSet 148 = .ok (.goto 4, 3) := by decide +kernel
theorem dX10_spiteSet_151 : decode cX10_spiteSet 151 = .ok (.iload_n 2, 1) := by decide +kernel
theorem dX10_spiteSet_152 : decode cX10_spiteSet 152 = .ok (.istore_n 2, 1) := by decide +kernel
theorem dX10_spiteSet_153 : decode cX10_spiteSet 153 = .ok (.iload 5, 2) := by decide +kernel
theorem dX10_spiteSet_155 : decode cX10_spiteSet 155 = .ok (.ifCond .eq 7, 3) := by decide +kernel
theorem dX10_spiteSet_158 : decode cX10_spiteSet 158 = .ok (.iload_n 3, 1) := by decide +kernel
theorem dX10_spiteSet_159 : decode cX10_spiteSet 159 = .ok (.goto 4, 3) := by decide +kernel
theorem dX10_spiteSet_162 : decode cX10_spiteSet 162 = .ok (.iload_n 1, 1) := by decide +kernel
theorem dX10_spiteSet_163 : decode cX10_spiteSet 163 = .ok (.istore_n 1, 1) := by decide +kernel
theorem dX10_spiteSet_164 : decode cX10_spiteSet 164 = .ok (.iinc 3 1, 3) := by decide +kernel
theorem dX10_spiteSet_167 : decode cX10_spiteSet 167 = .ok (.goto (-156), 3) := by decide +kernel
theorem dX10_spiteSet_170 : decode cX10_spiteSet 170 = .ok (.iload_n 1, 1) := by decide +kernel
theorem dX10_spiteSet_171 : decode cX10_spiteSet 171 = .ok (.ireturn, 1) := by decide +kernel
theorem dX10_spite_0 : decode cX10_spite 0 = .ok (.aload_n 0, 1) := by decide +kernel
theorem dX10_spite_1 : decode cX10_spite 1 = .ok (.iconst 0, 1) := by decide +kernel
theorem dX10_spite_2 : decode cX10_spite 2 = .ok (.putfield 89, 3) := by decide +kernel
theorem dX10_spite_5 : decode cX10_spite 5 = .ok (.iload_n 1, 1) := by decide +kernel
theorem dX10_spite_6 : decode cX10_spite 6 = .ok (.iconst 0, 1) := by decide +kernel
theorem dX10_spite_7 : decode cX10_spite 7 = .ok (.iconst 2, 1) := by decide +kernel
theorem dX10_spite_8 : decode cX10_spite 8 = .ok (.invokestatic 93, 3) := by decide +kernel
theorem dX10_spite_11 : decode cX10_spite 11 = .ok (.ifCond .ne 5, 3) := by decide +kernel
theorem dX10_spite_14 : decode cX10_spite 14 = .ok (.iconst (-1), 1) := by decide +kernel
theorem dX10_spite_15 : decode cX10_spite 15 = .ok (.ireturn, 1) := by decide +kernel
theorem dX10_spite_16 : decode cX10_spite 16 = .ok (.aload_n 0, 1) := by decide +kernel
theorem dX10_spite_17 : decode cX10_spite 17 = .ok (.getfield 28, 3) := by decide +kernel
theorem dX10_spite_20 : decode cX10_spite 20 = .ok (.bipush 36, 2) := by decide +kernel
theorem dX10_spite_22 : decode cX10_spite 22 = .ok (.iaload, 1) := by decide +kernel
theorem dX10_spite_23 : decode cX10_spite 23 = .ok (.ifCond .le 6, 3) := by decide +kernel
theorem dX10_spite_26 : decode cX10_spite 26 = .ok (.bipush (-2), 2) := by decide +kernel
theorem dX10_spite_28 : decode cX10_spite 28 = .ok (.ireturn, 1) := by decide +kernel
theorem dX10_spite_29 : decode cX10_spite 29 = .ok (.aload_n 0, 1) := by decide +kernel
theorem dX10_spite_30 : decode cX10_spite 30 = .ok (.invokevirtual 233, 3) := by decide +kernel
theorem dX10_spite_33 : decode cX10_spite 33 = .ok (.istore_n 2, 1) := by decide +kernel
theorem dX10_spite_34 : decode cX10_spite 34 = .ok (.iconst 0, 1) := by decide +kernel
theorem dX10_spite_35 : decode cX10_spite 35 = .ok (.istore_n 3, 1) := by decide +kernel
theorem dX10_spite_36 : decode cX10_spite 36 = .ok (.iconst 0, 1) := by decide +kernel
theorem dX10_spite_37 : decode cX10_spite 37 = .ok (.istore 4, 2) := by decide +kernel
theorem dX10_spite_39 : decode cX10_spite 39 = .ok (.iconst 1, 1) := by decide +kernel
theorem dX10_spite_40 : decode cX10_spite 40 = .ok (.istore 5, 2) := by decide +kernel
theorem dX10_spite_42 : decode cX10_spite 42 = .ok (.iload 5, 2) := by decide +kernel
theorem dX10_spite_44 : decode cX10_spite 44 = .ok (.bipush 64, 2) := by decide +kernel
theorem dX10_spite_46 : decode cX10_spite 46 = .ok (.if_icmp .ge 59, 3) := by decide +kernel
theorem dX10_spite_49 : decode cX10_spite 49 = .ok (.iload 4, 2) := by decide +kernel
theorem dX10_spite_51 : decode cX10_spite 51 = .ok (.aload_n 0, 1) := by decide +kernel
theorem dX10_spite_52 : decode cX10_spite 52 = .ok (.getfield 47, 3) := by decide +kernel
theorem dX10_spite_55 : decode cX10_spite 55 = .ok (.iload 5, 2) := by decide +kernel
theorem dX10_spite_57 : decode cX10_spite 57 = .ok (.iaload, 1) := by decide +kernel
theorem dX10_spite_58 : decode cX10_spite 58 = .ok (.ifCond .eq 7, 3) := by decide +kernel
theorem dX10_spite_61 : decode cX10_spite 61 = .ok (.iconst 1, 1) := by decide +kernel
theorem dX10_spite_62 : decode cX10_spite 62 = .ok (.goto 4, 3) := by decide +kernel
theorem dX10_spite_65 : decode cX10_spite 65 = .ok (.iconst 0, 1) := by decide +kernel
theorem dX10_spite_66 : decode cX10_spite 66 = .ok (.iadd, 1) := by decide +kernel
theorem dX10_spite_67 : decode cX10_spite 67 = .ok (.istore 4, 2) := by decide +kernel
theorem dX10_spite_69 : decode cX10_spite 69 = .ok (.iload_n 3, 1) := by decide +kernel
theorem dX10_spite_70 : decode cX10_spite 70 = .ok (.aload_n 0, 1) := by decide +kernel
theorem dX10_spite_71 : decode cX10_spite 71 = .ok (.getfield 47, 3) := by decide +kernel
theorem dX10_spite_74 : decode cX10_spite 74 = .ok (.iload 5, 2) := by decide +kernel
theorem dX10_spite_76 : decode cX10_spite 76 = .ok (.iaload, 1) := by decide +kernel
theorem dX10_spite_77 : decode cX10_spite 77 = .ok (.ifCond .eq 19, 3) := by decide +kernel
theorem dX10_spite_80 : decode cX10_spite 80 = .ok (.aload_n 0, 1) := by decide +kernel
theorem dX10_spite_81 : decode cX10_spite 81 = .ok (.getfield 74, 3) := by decide +kernel
theorem dX10_spite_84 : decode cX10_spite 84 = .ok (.iload 5, 2) := by decide +kernel
theorem dX10_spite_86 : decode cX10_spite 86 = .ok (.iaload, 1) := by decide +kernel
theorem dX10_spite_87 : decode cX10_spite 87 = .ok (.ldc 167, 2) := by decide +kernel
theorem dX10_spite_89 : decode cX10_spite 89 = .ok (.if_icmp .ne 7, 3) := by decide +kernel
theorem dX10_spite_92 : decode cX10_spite 92 = .ok (.iconst 1, 1) := by decide +kernel
theorem dX10_spite_93 : decode cX10_spite 93 = .ok (.goto 4, 3) := by decide +kernel
theorem dX10_spite_96 : decode cX10_spite 96 = .ok (.iconst 0, 1) := by decide +kernel
theorem dX10_spite_97 : decode cX10_spite 97 = .ok (.iadd, 1) := by decide +kernel
theorem dX10_spite_98 : decode cX10_spite 98 = .ok (.istore_n 3, 1) := by decide +kernel
theorem dX10_spite_99 : decode cX10_spite 99 = .ok (.iinc 5 1, 3) := by decide +kernel
theorem dX10_spite_102 : decode cX10_spite 102 = .ok (.goto (-60), 3) := by decide +kernel
theorem dX10_spite_105 : decode cX10_spite 105 = .ok (.iload_n 1, 1) := by decide +kernel
theorem dX10_spite_106 : decode cX10_spite 106 = .ok (.iconst 1, 1) := by decide +kernel
theorem dX10_spite_107 : decode cX10_spite 107 = .ok (.if_icmp .ne 7, 3) := by decide +kernel
theorem dX10_spite_110 : decode cX10_spite 110 = .ok (.iload_n 3, 1) := by decide +kernel
theorem dX10_spite_111 : decode cX10_spite 111 = .ok (.goto 28, 3) := by decide +kernel
theorem dX10_spite_114 : decode cX10_spite 114 = .ok (.iload_n 1, 1) := by decide +kernel
theorem dX10_spite_115 : decode cX10_spite 115 = .ok (.iconst 2, 1) := by decide +kernel
theorem dX10_spite_116 : decode cX10_spite 116 = .ok (.if_icmp .ne 8, 3) := by decide +kernel
theorem dX10_spite_119 : decode cX10_spite 119 = .ok (.iload 4, 2) := by decide +kernel
theorem dX10_spite_121 : decode cX10_spite 121 = .ok (.goto 18, 3) := by decide +kernel
theorem dX10_spite_124 : decode cX10_spite 124 = .ok (.iload_n 2, 1) := by decide +kernel
theorem dX10_spite_125 : decode cX10_spite 125 = .ok (.ifCond .ne 8, 3) := by decide +kernel
theorem dX10_spite_128 : decode cX10_spite 128 = .ok (.bipush (-9), 2) := by decide +kernel
theorem dX10_spite_130 : decode cX10_spite 130 = .ok (.goto 9, 3) := by decide +kernel
theorem dX10_spite_133 : decode cX10_spite 133 = .ok (.aload_n 0, 1) := by decide +kernel
theorem dX10_spite_134 : decode cX10_spite 134 = .ok (.getfield 74, 3) := by decide +kernel
theorem dX10_spite_137 : decode cX10_spite 137 = .ok (.iload_n 2, 1) := by decide +kernel
theorem dX10_spite_138 : decode cX10_spite 138 = .ok (.iaload, 1) := by decide +kernel
theorem dX10_spite_139 : decode cX10_spite 139 = .ok (.ireturn, 1) := by decide +kernel
theorem dX10_spiteful_0 : decode cX10_spiteful 0 = .ok (.aload_n 0, 1) := by decide +kernel
theorem dX10_spiteful_1 : decode cX10_spiteful 1 = .ok (.iconst 0, 1) := by decide +kernel
theorem dX10_spiteful_2 : decode cX10_spiteful 2 = .ok (.putfield 89, 3) := by decide +kernel
theorem dX10_spiteful_5 : decode cX10_spiteful 5 = .ok (.iload_n 1, 1) := by decide +kernel
theorem dX10_spiteful_6 : decode cX10_spiteful 6 = .ok (.iconst 0, 1) := by decide +kernel
theorem dX10_spiteful_7 : decode cX10_spiteful 7 = .ok (.iconst 4, 1) := by decide +kernel
theorem dX10_spiteful_8 : decode cX10_spiteful 8 = .ok (.invokestatic 93, 3) := by decide +kernel
theorem dX10_spiteful_11 : decode cX10_spiteful 11 = .ok (.ifCond .ne 5, 3) := by decide +kernel
theorem dX10_spiteful_14 : decode cX10_spiteful 14 = .ok (.iconst (-1), 1) := by decide +kernel
theorem dX10_spiteful_15 : decode cX10_spiteful 15 = .ok (.ireturn, 1) := by decide +kernel
theorem dX10_spiteful_16 : decode cX10_spiteful 16 = .ok (.aload_n 0, 1) := by decide +kernel
theorem dX10_spiteful_17 : decode cX10_spiteful 17 = .ok (.getfield 28, 3) := by decide +kernel
theorem dX10_spiteful_20 : decode cX10_spiteful 20 = .ok (.bipush 36, 2) := by decide +kernel
theorem dX10_spiteful_22 : decode cX10_spiteful 22 = .ok (.iaload, 1) := by decide +kernel
theorem dX10_spiteful_23 : decode cX10_spiteful 23 = .ok (.ifCond .le 6, 3) := by decide +kernel
theorem dX10_spiteful_26 : decode cX10_spiteful 26 = .ok (.bipush (-2), 2) := by decide +kernel
theorem dX10_spiteful_28 : decode cX10_spiteful 28 = .ok (.ireturn, 1) := by decide +kernel
theorem dX10_spiteful_29 : decode cX10_spiteful 29 = .ok (.aload_n 0, 1) := by decide +kernel
theorem dX10_spiteful_30 : decode cX10_spiteful 30 = .ok (.invokevirtual 233, 3) := by decide +kernel
