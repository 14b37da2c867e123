theorem dX10_spiteful_33 : decode cX10_spiteful 33 = .ok (.ifCond .ne 8, 3) := by decide +kernel
theorem dX10_spiteful_36 : decode cX10_spiteful 36 = .ok (.bipush (-9), 2) := by decide +kernel
theorem dX10_spiteful_38 : decode cX10_spiteful 38 = .ok (.goto 9, 3) := by decide +kernel
theorem dX10_spiteful_41 : decode cX10_spiteful 41 = .ok (.aload_n 0, 1) := by decide +kernel
theorem dX10_spiteful_42 : decode cX10_spiteful 42 = .ok (.getfield 80, 3) := by decide +kernel
theorem dX10_spiteful_45 : decode cX10_spiteful 45 = .ok (.iload_n 1, 1) := by decide +kernel
theorem dX10_spiteful_46 : decode cX10_spiteful 46 = .ok (.iaload, 1) := by decide +kernel
theorem dX10_spiteful_47 : decode cX10_spiteful 47 = .ok (.ireturn, 1) := by decide +kernel
theorem dX10_gcd_0 : decode cX10_gcd 0 = .ok (.iload_n 0, 1) := by decide +kernel
theorem dX10_gcd_1 : decode cX10_gcd 1 = .ok (.istore_n 2, 1) := by decide +kernel
theorem dX10_gcd_2 : decode cX10_gcd 2 = .ok (.iload_n 1, 1) := by decide +kernel
theorem dX10_gcd_3 : decode cX10_gcd 3 = .ok (.istore_n 3, 1) := by decide +kernel
theorem dX10_gcd_4 : decode cX10_gcd 4 = .ok (.iload_n 3, 1) := by decide +kernel
theorem dX10_gcd_5 : decode cX10_gcd 5 = .ok (.ifCond .eq 16, 3) := by decide +kernel
theorem dX10_gcd_8 : decode cX10_gcd 8 = .ok (.iload_n 2, 1) := by decide +kernel
theorem dX10_gcd_9 : decode cX10_gcd 9 = .ok (.iload_n 3, 1) := by decide +kernel
theorem dX10_gcd_10 : decode cX10_gcd 10 = .ok (.irem, 1) := by decide +kernel
theorem dX10_gcd_11 : decode cX10_gcd 11 = .ok (.istore 4, 2) := by decide +kernel
theorem dX10_gcd_13 : decode cX10_gcd 13 = .ok (.iload_n 3, 1) := by decide +kernel
theorem dX10_gcd_14 : decode cX10_gcd 14 = .ok (.istore_n 2, 1) := by decide +kernel
theorem dX10_gcd_15 : decode cX10_gcd 15 = .ok (.iload 4, 2) := by decide +kernel
theorem dX10_gcd_17 : decode cX10_gcd 17 = .ok (.istore_n 3, 1) := by decide +kernel
theorem dX10_gcd_18 : decode cX10_gcd 18 = .ok (.goto (-14), 3) := by decide +kernel
theorem dX10_gcd_21 : decode cX10_gcd 21 = .ok (.iload_n 2, 1) := by decide +kernel
theorem dX10_gcd_22 : decode cX10_gcd 22 = .ok (.ireturn, 1) := by decide +kernel
theorem dX10_odds_0 : decode cX10_odds 0 = .ok (.aload_n 0, 1) := by decide +kernel
theorem dX10_odds_1 : decode cX10_odds 1 = .ok (.iconst 0, 1) := by decide +kernel
theorem dX10_odds_2 : decode cX10_odds 2 = .ok (.putfield 89, 3) := by decide +kernel
theorem dX10_odds_5 : decode cX10_odds 5 = .ok (.iload_n 1, 1) := by decide +kernel
theorem dX10_odds_6 : decode cX10_odds 6 = .ok (.iconst 0, 1) := by decide +kernel
theorem dX10_odds_7 : decode cX10_odds 7 = .ok (.bipush 10, 2) := by decide +kernel
theorem dX10_odds_9 : decode cX10_odds 9 = .ok (.invokestatic 93, 3) := by decide +kernel
theorem dX10_odds_12 : decode cX10_odds 12 = .ok (.ifCond .eq 12, 3) := by decide +kernel
theorem dX10_odds_15 : decode cX10_odds 15 = .ok (.iload_n 2, 1) := by decide +kernel
theorem dX10_odds_16 : decode cX10_odds 16 = .ok (.iconst 0, 1) := by decide +kernel
theorem dX10_odds_17 : decode cX10_odds 17 = .ok (.iconst 1, 1) := by decide +kernel
theorem dX10_odds_18 : decode cX10_odds 18 = .ok (.invokestatic 93, 3) := by decide +kernel
theorem dX10_odds_21 : decode cX10_odds 21 = .ok (.ifCond .ne 5, 3) := by decide +kernel
theorem dX10_odds_24 : decode cX10_odds 24 = .ok (.iconst (-1), 1) := by decide +kernel
theorem dX10_odds_25 : decode cX10_odds 25 = .ok (.ireturn, 1) := by decide +kernel
theorem dX10_odds_26 : decode cX10_odds 26 = .ok (.aload_n 0, 1) := by decide +kernel
theorem dX10_odds_27 : decode cX10_odds 27 = .ok (.aload_n 0, 1) := by decide +kernel
theorem dX10_odds_28 : decode cX10_odds 28 = .ok (.invokevirtual 195, 3) := by decide +kernel
theorem dX10_odds_31 : decode cX10_odds 31 = .ok (.invokevirtual 199, 3) := by decide +kernel
theorem dX10_odds_34 : decode cX10_odds 34 = .ok (.iconst 0, 1) := by decide +kernel
theorem dX10_odds_35 : decode cX10_odds 35 = .ok (.istore_n 3, 1) := by decide +kernel
theorem dX10_odds_36 : decode cX10_odds 36 = .ok (.iconst 1, 1) := by decide +kernel
theorem dX10_odds_37 : decode cX10_odds 37 = .ok (.istore 4, 2) := by decide +kernel
theorem dX10_odds_39 : decode cX10_odds 39 = .ok (.iconst 0, 1) := by decide +kernel
theorem dX10_odds_40 : decode cX10_odds 40 = .ok (.istore 5, 2) := by decide +kernel
theorem dX10_odds_42 : decode cX10_odds 42 = .ok (.iload 5, 2) := by decide +kernel
theorem dX10_odds_44 : decode cX10_odds 44 = .ok (.aload_n 0, 1) := by decide +kernel
theorem dX10_odds_45 : decode cX10_odds 45 = .ok (.getfield 28, 3) := by decide +kernel
theorem dX10_odds_48 : decode cX10_odds 48 = .ok (.bipush 6, 2) := by decide +kernel
theorem dX10_odds_50 : decode cX10_odds 50 = .ok (.iaload, 1) := by decide +kernel
theorem dX10_odds_51 : decode cX10_odds 51 = .ok (.if_icmp .ge 16, 3) := by decide +kernel
theorem dX10_odds_54 : decode cX10_odds 54 = .ok (.iload 4, 2) := by decide +kernel
theorem dX10_odds_56 : decode cX10_odds 56 = .ok (.bipush 10, 2) := by decide +kernel
theorem dX10_odds_58 : decode cX10_odds 58 = .ok (.imul, 1) := by decide +kernel
theorem dX10_odds_59 : decode cX10_odds 59 = .ok (.istore 4, 2) := by decide +kernel
theorem dX10_odds_61 : decode cX10_odds 61 = .ok (.iinc 5 1, 3) := by decide +kernel
theorem dX10_odds_64 : decode cX10_odds 64 = .ok (.goto (-22), 3) := by decide +kernel
theorem dX10_odds_67 : decode cX10_odds 67 = .ok (.iconst 0, 1) := by decide +kernel
theorem dX10_odds_68 : decode cX10_odds 68 = .ok (.istore 5, 2) := by decide +kernel
theorem dX10_odds_70 : decode cX10_odds 70 = .ok (.iload 5, 2) := by decide +kernel
theorem dX10_odds_72 : decode cX10_odds 72 = .ok (.aload_n 0, 1) := by decide +kernel
theorem dX10_odds_73 : decode cX10_odds 73 = .ok (.invokevirtual 202, 3) := by decide +kernel
theorem dX10_odds_76 : decode cX10_odds 76 = .ok (.if_icmp .gt 77, 3) := by decide +kernel
theorem dX10_odds_79 : decode cX10_odds 79 = .ok (.iconst 1, 1) := by decide +kernel
theorem dX10_odds_80 : decode cX10_odds 80 = .ok (.istore 6, 2) := by decide +kernel
theorem dX10_odds_82 : decode cX10_odds 82 = .ok (.iconst 0, 1) := by decide +kernel
theorem dX10_odds_83 : decode cX10_odds 83 = .ok (.istore 7, 2) := by decide +kernel
theorem dX10_odds_85 : decode cX10_odds 85 = .ok (.iload 7, 2) := by decide +kernel
theorem dX10_odds_87 : decode cX10_odds 87 = .ok (.aload_n 0, 1) := by decide +kernel
theorem dX10_odds_88 : decode cX10_odds 88 = .ok (.getfield 28, 3) := by decide +kernel
theorem dX10_odds_91 : decode cX10_odds 91 = .ok (.bipush 6, 2) := by decide +kernel
theorem dX10_odds_93 : decode cX10_odds 93 = .ok (.iaload, 1) := by decide +kernel
theorem dX10_odds_94 : decode cX10_odds 94 = .ok (.if_icmp .ge 33, 3) := by decide +kernel
theorem dX10_odds_97 : decode cX10_odds 97 = .ok (.iload 6, 2) := by decide +kernel
theorem dX10_odds_99 : decode cX10_odds 99 = .ok (.iload 5, 2) := by decide +kernel
theorem dX10_odds_101 : decode cX10_odds 101 = .ok (.iload 7, 2) := by decide +kernel
theorem dX10_odds_103 : decode cX10_odds 103 = .ok (.ishr, 1) := by decide +kernel
theorem dX10_odds_104 : decode cX10_odds 104 = .ok (.iconst 1, 1) := by decide +kernel
theorem dX10_odds_105 : decode cX10_odds 105 = .ok (.iand, 1) := by decide +kernel
theorem dX10_odds_106 : decode cX10_odds 106 = .ok (.iconst 1, 1) := by decide +kernel
theorem dX10_odds_107 : decode cX10_odds 107 = .ok (.if_icmp .ne 10, 3) := by decide +kernel
theorem dX10_odds_110 : decode cX10_odds 110 = .ok (.bipush 10, 2) := by decide +kernel
theorem dX10_odds_112 : decode cX10_odds 112 = .ok (.iload_n 1, 1) := by decide +kernel
theorem dX10_odds_113 : decode cX10_odds 113 = .ok (.isub, 1) := by decide +kernel
theorem dX10_odds_114 : decode cX10_odds 114 = .ok (.goto 4, 3) := by decide +kernel
theorem dX10_odds_117 : decode cX10_odds 117 = .ok (.iload_n 1, 1) := by decide +kernel
theorem dX10_odds_118 : decode cX10_odds 118 = .ok (.imul, 1) := by decide +kernel
theorem dX10_odds_119 : decode cX10_odds 119 = .ok (.istore 6, 2) := by decide +kernel
theorem dX10_odds_121 : decode cX10_odds 121 = .ok (.iinc 7 1, 3) := by decide +kernel
theorem dX10_odds_124 : decode cX10_odds 124 = .ok (.goto (-39), 3) := by decide +kernel
theorem dX10_odds_127 : decode cX10_odds 127 = .ok (.iload_n 3, 1) := by decide +kernel
theorem dX10_odds_128 : decode cX10_odds 128 = .ok (.aload_n 0, 1) := by decide +kernel
theorem dX10_odds_129 : decode cX10_odds 129 = .ok (.iload 5, 2) := by decide +kernel
theorem dX10_odds_131 : decode cX10_odds 131 = .ok (.invokevirtual 205, 3) := by decide +kernel
theorem dX10_odds_134 : decode cX10_odds 134 = .ok (.ldc 167, 2) := by decide +kernel
theorem dX10_odds_136 : decode cX10_odds 136 = .ok (.if_icmp .ne 7, 3) := by decide +kernel
theorem dX10_odds_139 : decode cX10_odds 139 = .ok (.iconst 0, 1) := by decide +kernel
theorem dX10_odds_140 : decode cX10_odds 140 = .ok (.goto 5, 3) := by decide +kernel
theorem dX10_odds_143 : decode cX10_odds 143 = .ok (.iload 6, 2) := by decide +kernel
theorem dX10_odds_145 : decode cX10_odds 145 = .ok (.iadd, 1) := by decide +kernel
theorem dX10_odds_146 : decode cX10_odds 146 = .ok (.istore_n 3, 1) := by decide +kernel
theorem dX10_odds_147 : decode cX10_odds 147 = .ok (.iinc 5 1, 3) := by decide +kernel
theorem dX10_odds_150 : decode cX10_odds 150 = .ok (.goto (-80), 3) := by decide +kernel
theorem dX10_odds_153 : decode cX10_odds 153 = .ok (.iload_n 3, 1) := by decide +kernel
theorem dX10_odds_154 : decode cX10_odds 154 = .ok (.iload 4, 2) := by decide +kernel
theorem dX10_odds_156 : decode cX10_odds 156 = .ok (.invokestatic 236, 3) := by decide +kernel
theorem dX10_odds_159 : decode cX10_odds 159 = .ok (.istore 5, 2) := by decide +kernel
theorem dX10_odds_161 : decode cX10_odds 161 = .ok (.iload_n 2, 1) := by decide +kernel
theorem dX10_odds_162 : decode cX10_odds 162 = .ok (.ifCond .ne 10, 3) := by decide +kernel
theorem dX10_odds_165 : decode cX10_odds 165 = .ok (.iload_n 3, 1) := by decide +kernel
theorem dX10_odds_166 : decode cX10_odds 166 = .ok (.iload 5, 2) := by decide +kernel
theorem dX10_odds_168 : decode cX10_odds 168 = .ok (.idiv, 1) := by decide +kernel
theorem dX10_odds_169 : decode cX10_odds 169 = .ok (.goto 8, 3) := by decide +kernel
theorem dX10_odds_172 : decode cX10_odds 172 = .ok (.iload 4, 2) := by decide +kernel
theorem dX10_odds_174 : decode cX10_odds 174 = .ok (.iload 5, 2) := by decide +kernel
theorem dX10_odds_176 : decode cX10_odds 176 = .ok (.idiv, 1) := by decide +kernel
theorem dX10_odds_177 : decode cX10_odds 177 = .ok (.ireturn, 1) := by decide +kernel
theorem dX10_took_0 : decode cX10_took 0 = .ok (.aload_n 0, 1) := by decide +kernel
theorem dX10_took_1 : decode cX10_took 1 = .ok (.iconst 0, 1) := by decide +kernel
theorem dX10_took_2 : decode cX10_took 2 = .ok (.putfield 89, 3) := by decide +kernel
theorem dX10_took_5 : decode cX10_took 5 = .ok (.aload_n 0, 1) := by decide +kernel
theorem dX10_took_6 : decode cX10_took 6 = .ok (.iload_n 1, 1) := by decide +kernel
theorem dX10_took_7 : decode cX10_took 7 = .ok (.invokevirtual 171, 3) := by decide +kernel
theorem dX10_took_10 : decode cX10_took 10 = .ok (.ifCond .eq 12, 3) := by decide +kernel
theorem dX10_took_13 : decode cX10_took 13 = .ok (.iload_n 2, 1) := by decide +kernel
theorem dX10_took_14 : decode cX10_took 14 = .ok (.iconst 0, 1) := by decide +kernel
theorem dX10_took_15 : decode cX10_took 15 = .ok (.iconst 1, 1) := by decide +kernel
theorem dX10_took_16 : decode cX10_took 16 = .ok (.invokestatic 93, 3) := by decide +kernel
theorem dX10_took_19 : decode cX10_took 19 = .ok (.ifCond .ne 5, 3) := by decide +kernel
theorem dX10_took_22 : decode cX10_took 22 = .ok (.iconst (-1), 1) := by decide +kernel
theorem dX10_took_23 : decode cX10_took 23 = .ok (.ireturn, 1) := by decide +kernel
theorem dX10_took_24 : decode cX10_took 24 = .ok (.aload_n 0, 1) := by decide +kernel
theorem dX10_took_25 : decode cX10_took 25 = .ok (.getfield 158, 3) := by decide +kernel
theorem dX10_took_28 : decode cX10_took 28 = .ok (.bipush 6, 2) := by decide +kernel
theorem dX10_took_30 : decode cX10_took 30 = .ok (.if_icmp .ne 6, 3) := by decide +kernel
theorem dX10_took_33 : decode cX10_took 33 = .ok (.bipush (-3), 2) := by decide +kernel
theorem dX10_took_35 : decode cX10_took 35 = .ok (.ireturn, 1) := by decide +kernel
theorem dX10_took_36 : decode cX10_took 36 = .ok (.aload_n 0, 1) := by decide +kernel
theorem dX10_took_37 : decode cX10_took 37 = .ok (.getfield 41, 3) := by decide +kernel
theorem dX10_took_40 : decode cX10_took 40 = .ok (.aload_n 0, 1) := by decide +kernel
theorem dX10_took_41 : decode cX10_took 41 = .ok (.getfield 158, 3) := by decide +kernel
theorem dX10_took_44 : decode cX10_took 44 = .ok (.iload_n 1, 1) := by decide +kernel
theorem dX10_took_45 : decode cX10_took 45 = .ok (.iastore, 1) := by decide +kernel
theorem dX10_took_46 : decode cX10_took 46 = .ok (.aload_n 0, 1) := by decide +kernel
theorem dX10_took_47 : decode cX10_took 47 = .ok (.getfield 44, 3) := by decide +kernel
theorem dX10_took_50 : decode cX10_took 50 = .ok (.aload_n 0, 1) := by decide +kernel
theorem dX10_took_51 : decode cX10_took 51 = .ok (.getfield 158, 3) := by decide +kernel
theorem dX10_took_54 : decode cX10_took 54 = .ok (.iload_n 2, 1) := by decide +kernel
theorem dX10_took_55 : decode cX10_took 55 = .ok (.iastore, 1) := by decide +kernel
theorem dX10_took_56 : decode cX10_took 56 = .ok (.aload_n 0, 1) := by decide +kernel
theorem dX10_took_57 : decode cX10_took 57 = .ok (.dup, 1) := by decide +kernel
theorem dX10_took_58 : decode cX10_took 58 = .ok (.getfield 158, 3) := by decide +kernel
theorem dX10_took_61 : decode cX10_took 61 = .ok (.iconst 1, 1) := by decide +kernel
theorem dX10_took_62 : decode cX10_took 62 = .ok (.iadd, 1) := by decide +kernel
theorem dX10_took_63 : decode cX10_took 63 = .ok (.putfield 158, 3) := by decide +kernel
theorem dX10_took_66 : decode cX10_took 66 = .ok (.aload_n 0, 1) := by decide +kernel
theorem dX10_took_67 : decode cX10_took 67 = .ok (.getfield 158, 3) := by decide +kernel
theorem dX10_took_70 : decode cX10_took 70 = .ok (.ireturn, 1) := by decide +kernel
theorem dX10_forget_0 : decode cX10_forget 0 = .ok (.aload_n 0, 1) := by decide +kernel
theorem dX10_forget_1 : decode cX10_forget 1 = .ok (.iconst 0, 1) := by decide +kernel
theorem dX10_forget_2 : decode cX10_forget 2 = .ok (.putfield 89, 3) := by decide +kernel
theorem dX10_forget_5 : decode cX10_forget 5 = .ok (.aload_n 0, 1) := by decide +kernel
theorem dX10_forget_6 : decode cX10_forget 6 = .ok (.getfield 158, 3) := by decide +kernel
theorem dX10_forget_9 : decode cX10_forget 9 = .ok (.istore_n 1, 1) := by decide +kernel
theorem dX10_forget_10 : decode cX10_forget 10 = .ok (.aload_n 0, 1) := by decide +kernel
theorem dX10_forget_11 : decode cX10_forget 11 = .ok (.iconst 0, 1) := by decide +kernel
theorem dX10_forget_12 : decode cX10_forget 12 = .ok (.putfield 158, 3) := by decide +kernel
theorem dX10_forget_15 : decode cX10_forget 15 = .ok (.iload_n 1, 1) := by decide +kernel
theorem dX10_forget_16 : decode cX10_forget 16 = .ok (.ireturn, 1) := by decide +kernel
theorem dX10_mayBe_0 : decode cX10_mayBe 0 = .ok (.aload_n 0, 1) := by decide +kernel
theorem dX10_mayBe_1 : decode cX10_mayBe 1 = .ok (.getfield 47, 3) := by decide +kernel
theorem dX10_mayBe_4 : decode cX10_mayBe 4 = .ok (.iload_n 1, 1) := by decide +kernel
theorem dX10_mayBe_5 : decode cX10_mayBe 5 = .ok (.iaload, 1) := by decide +kernel
theorem dX10_mayBe_6 : decode cX10_mayBe 6 = .ok (.ifCond .eq 15, 3) := by decide +kernel
theorem dX10_mayBe_9 : decode cX10_mayBe 9 = .ok (.aload_n 0, 1) := by decide +kernel
theorem dX10_mayBe_10 : decode cX10_mayBe 10 = .ok (.iload_n 1, 1) := by decide +kernel
theorem dX10_mayBe_11 : decode cX10_mayBe 11 = .ok (.invokevirtual 185, 3) := by decide +kernel
theorem dX10_mayBe_14 : decode cX10_mayBe 14 = .ok (.ifCond .eq 7, 3) := by decide +kernel
theorem dX10_mayBe_17 : decode cX10_mayBe 17 = .ok (.iconst 1, 1) := by decide +kernel
theorem dX10_mayBe_18 : decode cX10_mayBe 18 = .ok (.goto 4, 3) := by decide +kernel
theorem dX10_mayBe_21 : decode cX10_mayBe 21 = .ok (.iconst 0, 1) := by decide +kernel
theorem dX10_mayBe_22 : decode cX10_mayBe 22 = .ok (.istore_n 2, 1) := by decide +kernel
theorem dX10_mayBe_23 : decode cX10_mayBe 23 = .ok (.iconst 0, 1) := by decide +kernel
theorem dX10_mayBe_24 : decode cX10_mayBe 24 = .ok (.istore_n 3, 1) := by decide +kernel
theorem dX10_mayBe_25 : decode cX10_mayBe 25 = .ok (.iload_n 3, 1) := by decide +kernel
theorem dX10_mayBe_26 : decode cX10_mayBe 26 = .ok (.aload_n 0, 1) := by decide +kernel
theorem dX10_mayBe_27 : decode cX10_mayBe 27 = .ok (.getfield 158, 3) := by decide +kernel
theorem dX10_mayBe_30 : decode cX10_mayBe 30 = .ok (.if_icmp .ge 38, 3) := by decide +kernel
theorem dX10_mayBe_33 : decode cX10_mayBe 33 = .ok (.iload_n 2, 1) := by decide +kernel
theorem dX10_mayBe_34 : decode cX10_mayBe 34 = .ok (.ifCond .eq 26, 3) := by decide +kernel
theorem dX10_mayBe_37 : decode cX10_mayBe 37 = .ok (.iload_n 1, 1) := by decide +kernel
theorem dX10_mayBe_38 : decode cX10_mayBe 38 = .ok (.aload_n 0, 1) := by decide +kernel
theorem dX10_mayBe_39 : decode cX10_mayBe 39 = .ok (.getfield 41, 3) := by decide +kernel
theorem dX10_mayBe_42 : decode cX10_mayBe 42 = .ok (.iload_n 3, 1) := by decide +kernel
theorem dX10_mayBe_43 : decode cX10_mayBe 43 = .ok (.iaload, 1) := by decide +kernel
theorem dX10_mayBe_44 : decode cX10_mayBe 44 = .ok (.ishr, 1) := by decide +kernel
theorem dX10_mayBe_45 : decode cX10_mayBe 45 = .ok (.iconst 1, 1) := by decide +kernel
theorem dX10_mayBe_46 : decode cX10_mayBe 46 = .ok (.iand, 1) := by decide +kernel
theorem dX10_mayBe_47 : decode cX10_mayBe 47 = .ok (.aload_n 0, 1) := by decide +kernel
theorem dX10_mayBe_48 : decode cX10_mayBe 48 = .ok (.getfield 44, 3) := by decide +kernel
theorem dX10_mayBe_51 : decode cX10_mayBe 51 = .ok (.iload_n 3, 1) := by decide +kernel
theorem dX10_mayBe_52 : decode cX10_mayBe 52 = .ok (.iaload, 1) := by decide +kernel
theorem dX10_mayBe_53 : decode cX10_mayBe 53 = .ok (.if_icmp .ne 7, 3) := by decide +kernel
theorem dX10_mayBe_56 : decode cX10_mayBe 56 = .ok (.iconst 1, 1) := by decide +kernel
theorem dX10_mayBe_57 : decode cX10_mayBe 57 = .ok (.goto 4, 3) := by decide +kernel
theorem dX10_mayBe_60 : decode cX10_mayBe 60 = .ok (.iconst 0, 1) := by decide +kernel
theorem dX10_mayBe_61 : decode cX10_mayBe 61 = .ok (.istore_n 2, 1) := by decide +kernel
theorem dX10_mayBe_62 : decode cX10_mayBe 62 = .ok (.iinc 3 1, 3) := by decide +kernel
theorem dX10_mayBe_65 : decode cX10_mayBe 65 = .ok (.goto (-40), 3) := by decide +kernel
theorem dX10_mayBe_68 : decode cX10_mayBe 68 = .ok (.iload_n 2, 1) := by decide +kernel
theorem dX10_mayBe_69 : decode cX10_mayBe 69 = .ok (.ireturn, 1) := by decide +kernel
theorem dX10_can_0 : decode cX10_can 0 = .ok (.aload_n 0, 1) := by decide +kernel
theorem dX10_can_1 : decode cX10_can 1 = .ok (.iconst 0, 1) := by decide +kernel
theorem dX10_can_2 : decode cX10_can 2 = .ok (.putfield 89, 3) := by decide +kernel
theorem dX10_can_5 : decode cX10_can 5 = .ok (.iload_n 1, 1) := by decide +kernel
theorem dX10_can_6 : decode cX10_can 6 = .ok (.iconst 0, 1) := by decide +kernel
theorem dX10_can_7 : decode cX10_can 7 = .ok (.iconst 2, 1) := by decide +kernel
theorem dX10_can_8 : decode cX10_can 8 = .ok (.invokestatic 93, 3) := by decide +kernel
theorem dX10_can_11 : decode cX10_can 11 = .ok (.ifCond .ne 5, 3) := by decide +kernel
theorem dX10_can_14 : decode cX10_can 14 = .ok (.iconst (-1), 1) := by decide +kernel
theorem dX10_can_15 : decode cX10_can 15 = .ok (.ireturn, 1) := by decide +kernel
theorem dX10_can_16 : decode cX10_can 16 = .ok (.aload_n 0, 1) := by decide +kernel
theorem dX10_can_17 : decode cX10_can 17 = .ok (.aload_n 0, 1) := by decide +kernel
theorem dX10_can_18 : decode cX10_can 18 = .ok (.getfield 28, 3) := by decide +kernel
theorem dX10_can_21 : decode cX10_can 21 = .ok (.invokevirtual 181, 3) := by decide +kernel
theorem dX10_can_24 : decode cX10_can 24 = .ok (.iconst 0, 1) := by decide +kernel
theorem dX10_can_25 : decode cX10_can 25 = .ok (.istore_n 2, 1) := by decide +kernel
theorem dX10_can_26 : decode cX10_can 26 = .ok (.bipush 63, 2) := by decide +kernel
theorem dX10_can_28 : decode cX10_can 28 = .ok (.istore_n 3, 1) := by decide +kernel
theorem dX10_can_29 : decode cX10_can 29 = .ok (.iconst 0, 1) := by decide +kernel
theorem dX10_can_30 : decode cX10_can 30 = .ok (.istore 4, 2) := by decide +kernel
theorem dX10_can_32 : decode cX10_can 32 = .ok (.iconst 1, 1) := by decide +kernel
theorem dX10_can_33 : decode cX10_can 33 = .ok (.istore 5, 2) := by decide +kernel
theorem dX10_can_35 : decode cX10_can 35 = .ok (.iload 5, 2) := by decide +kernel
theorem dX10_can_37 : decode cX10_can 37 = .ok (.bipush 64, 2) := by decide +kernel
theorem dX10_can_39 : decode cX10_can 39 = .ok (.if_icmp .ge 33, 3) := by decide +kernel
theorem dX10_can_42 : decode cX10_can 42 = .ok (.aload_n 0, 1) := by decide +kernel
theorem dX10_can_43 : decode cX10_can 43 = .ok (.iload 5, 2) := by decide +kernel
theorem dX10_can_45 : decode cX10_can 45 = .ok (.invokevirtual 239, 3) := by decide +kernel
theorem dX10_can_48 : decode cX10_can 48 = .ok (.ifCond .eq 18, 3) := by decide +kernel
theorem dX10_can_51 : decode cX10_can 51 = .ok (.iinc 2 1, 3) := by decide +kernel
theorem dX10_can_54 : decode cX10_can 54 = .ok (.iload_n 3, 1) := by decide +kernel
theorem dX10_can_55 : decode cX10_can 55 = .ok (.iload 5, 2) := by decide +kernel
theorem dX10_can_57 : decode cX10_can 57 = .ok (.iand, 1) := by decide +kernel
theorem dX10_can_58 : decode cX10_can 58 = .ok (.istore_n 3, 1) := by decide +kernel
theorem dX10_can_59 : decode cX10_can 59 = .ok (.iload 4, 2) := by decide +kernel
theorem dX10_can_61 : decode cX10_can 61 = .ok (.iload 5, 2) := by decide +kernel
theorem dX10_can_63 : decode cX10_can 63 = .ok (.ior, 1) := by decide +kernel
theorem dX10_can_64 : decode cX10_can 64 = .ok (.istore 4, 2) := by decide +kernel
theorem dX10_can_66 : decode cX10_can 66 = .ok (.iinc 5 1, 3) := by decide +kernel
theorem dX10_can_69 : decode cX10_can 69 = .ok (.goto (-34), 3) := by decide +kernel
theorem dX10_can_72 : decode cX10_can 72 = .ok (.iload_n 1, 1) := by decide +kernel
theorem dX10_can_73 : decode cX10_can 73 = .ok (.ifCond .ne 7, 3) := by decide +kernel
theorem dX10_can_76 : decode cX10_can 76 = .ok (.iload_n 2, 1) := by decide +kernel
theorem dX10_can_77 : decode cX10_can 77 = .ok (.goto 23, 3) := by decide +kernel
theorem dX10_can_80 : decode cX10_can 80 = .ok (.iload_n 1, 1) := by decide +kernel
theorem dX10_can_81 : decode cX10_can 81 = .ok (.iconst 2, 1) := by decide +kernel
theorem dX10_can_82 : decode cX10_can 82 = .ok (.if_icmp .ne 8, 3) := by decide +kernel
theorem dX10_can_85 : decode cX10_can 85 = .ok (.iload 4, 2) := by decide +kernel
theorem dX10_can_87 : decode cX10_can 87 = .ok (.goto 13, 3) := by decide +kernel
theorem dX10_can_90 : decode cX10_can 90 = .ok (.iload_n 2, 1) := by decide +kernel
theorem dX10_can_91 : decode cX10_can 91 = .ok (.ifCond .ne 8, 3) := by decide +kernel
theorem dX10_can_94 : decode cX10_can 94 = .ok (.bipush (-9), 2) := by decide +kernel
theorem dX10_can_96 : decode cX10_can 96 = .ok (.goto 4, 3) := by decide +kernel
theorem dX10_can_99 : decode cX10_can 99 = .ok (.iload_n 3, 1) := by decide +kernel
theorem dX10_can_100 : decode cX10_can 100 = .ok (.ireturn, 1) := by decide +kernel
theorem dX10_look_0 : decode cX10_look 0 = .ok (.aload_n 0, 1) := by decide +kernel
theorem dX10_look_1 : decode cX10_look 1 = .ok (.iconst 0, 1) := by decide +kernel
theorem dX10_look_2 : decode cX10_look 2 = .ok (.putfield 89, 3) := by decide +kernel
theorem dX10_look_5 : decode cX10_look 5 = .ok (.aload_n 0, 1) := by decide +kernel
theorem dX10_look_6 : decode cX10_look 6 = .ok (.aload_n 0, 1) := by decide +kernel
theorem dX10_look_7 : decode cX10_look 7 = .ok (.getfield 28, 3) := by decide +kernel
theorem dX10_look_10 : decode cX10_look 10 = .ok (.invokevirtual 181, 3) := by decide +kernel
theorem dX10_look_13 : decode cX10_look 13 = .ok (.iconst 0, 1) := by decide +kernel
theorem dX10_look_14 : decode cX10_look 14 = .ok (.istore_n 1, 1) := by decide +kernel
theorem dX10_look_15 : decode cX10_look 15 = .ok (.iconst 1, 1) := by decide +kernel
theorem dX10_look_16 : decode cX10_look 16 = .ok (.istore_n 2, 1) := by decide +kernel
theorem dX10_look_17 : decode cX10_look 17 = .ok (.iload_n 2, 1) := by decide +kernel
theorem dX10_look_18 : decode cX10_look 18 = .ok (.bipush 64, 2) := by decide +kernel
theorem dX10_look_20 : decode cX10_look 20 = .ok (.if_icmp .ge 25, 3) := by decide +kernel
theorem dX10_look_23 : decode cX10_look 23 = .ok (.iload_n 1, 1) := by decide +kernel
theorem dX10_look_24 : decode cX10_look 24 = .ok (.aload_n 0, 1) := by decide +kernel
theorem dX10_look_25 : decode cX10_look 25 = .ok (.iload_n 2, 1) := by decide +kernel
theorem dX10_look_26 : decode cX10_look 26 = .ok (.invokevirtual 239, 3) := by decide +kernel
theorem dX10_look_29 : decode cX10_look 29 = .ok (.ifCond .eq 7, 3) := by decide +kernel
theorem dX10_look_32 : decode cX10_look 32 = .ok (.iconst 1, 1) := by decide +kernel
theorem dX10_look_33 : decode cX10_look 33 = .ok (.goto 4, 3) := by decide +kernel
theorem dX10_look_36 : decode cX10_look 36 = .ok (.iconst 0, 1) := by decide +kernel
theorem dX10_look_37 : decode cX10_look 37 = .ok (.iadd, 1) := by decide +kernel
theorem dX10_look_38 : decode cX10_look 38 = .ok (.istore_n 1, 1) := by decide +kernel
theorem dX10_look_39 : decode cX10_look 39 = .ok (.iinc 2 1, 3) := by decide +kernel
theorem dX10_look_42 : decode cX10_look 42 = .ok (.goto (-25), 3) := by decide +kernel
theorem dX10_look_45 : decode cX10_look 45 = .ok (.bipush (-9), 2) := by decide +kernel
theorem dX10_look_47 : decode cX10_look 47 = .ok (.istore_n 2, 1) := by decide +kernel
theorem dX10_look_48 : decode cX10_look 48 = .ok (.ldc 167, 2) := by decide +kernel
theorem dX10_look_50 : decode cX10_look 50 = .ok (.istore_n 3, 1) := by decide +kernel
theorem dX10_look_51 : decode cX10_look 51 = .ok (.iconst 0, 1) := by decide +kernel
theorem dX10_look_52 : decode cX10_look 52 = .ok (.istore 4, 2) := by decide +kernel
theorem dX10_look_54 : decode cX10_look 54 = .ok (.iload 4, 2) := by decide +kernel
theorem dX10_look_56 : decode cX10_look 56 = .ok (.aload_n 0, 1) := by decide +kernel
theorem dX10_look_57 : decode cX10_look 57 = .ok (.getfield 13, 3) := by decide +kernel
theorem dX10_look_60 : decode cX10_look 60 = .ok (.iconst 1, 1) := by decide +kernel
theorem dX10_look_61 : decode cX10_look 61 = .ok (.iaload, 1) := by decide +kernel
theorem dX10_look_62 : decode cX10_look 62 = .ok (.if_icmp .ge 109, 3) := by decide +kernel
theorem dX10_look_65 : decode cX10_look 65 = .ok (.iload_n 1, 1) := by decide +kernel
theorem dX10_look_66 : decode cX10_look 66 = .ok (.iconst 1, 1) := by decide +kernel
theorem dX10_look_67 : decode cX10_look 67 = .ok (.if_icmp .le 104, 3) := by decide +kernel
theorem dX10_look_70 : decode cX10_look 70 = .ok (.iconst 0, 1) := by decide +kernel
theorem dX10_look_71 : decode cX10_look 71 = .ok (.istore 5, 2) := by decide +kernel
theorem dX10_look_73 : decode cX10_look 73 = .ok (.iconst 1, 1) := by decide +kernel
theorem dX10_look_74 : decode cX10_look 74 = .ok (.istore 6, 2) := by decide +kernel
theorem dX10_look_76 : decode cX10_look 76 = .ok (.iload 6, 2) := by decide +kernel
theorem dX10_look_78 : decode cX10_look 78 = .ok (.bipush 64, 2) := by decide +kernel
theorem dX10_look_80 : decode cX10_look 80 = .ok (.if_icmp .ge 39, 3) := by decide +kernel
theorem dX10_look_83 : decode cX10_look 83 = .ok (.iload 5, 2) := by decide +kernel
theorem dX10_look_85 : decode cX10_look 85 = .ok (.aload_n 0, 1) := by decide +kernel
theorem dX10_look_86 : decode cX10_look 86 = .ok (.iload 6, 2) := by decide +kernel
theorem dX10_look_88 : decode cX10_look 88 = .ok (.invokevirtual 239, 3) := by decide +kernel
theorem dX10_look_91 : decode cX10_look 91 = .ok (.ifCond .eq 18, 3) := by decide +kernel
theorem dX10_look_94 : decode cX10_look 94 = .ok (.iload 6, 2) := by decide +kernel
theorem dX10_look_96 : decode cX10_look 96 = .ok (.iload 4, 2) := by decide +kernel
theorem dX10_look_98 : decode cX10_look 98 = .ok (.ishr, 1) := by decide +kernel
theorem dX10_look_99 : decode cX10_look 99 = .ok (.iconst 1, 1) := by decide +kernel
theorem dX10_look_100 : decode cX10_look 100 = .ok (.iand, 1) := by decide +kernel
theorem dX10_look_101 : decode cX10_look 101 = .ok (.iconst 1, 1) := by decide +kernel
theorem dX10_look_102 : decode cX10_look 102 = .ok (.if_icmp .ne 7, 3) := by decide +kernel
theorem dX10_look_105 : decode cX10_look 105 = .ok (.iconst 1, 1) := by decide +kernel
theorem dX10_look_106 : decode cX10_look 106 = .ok (.goto 4, 3) := by decide +kernel
theorem dX10_look_109 : decode cX10_look 109 = .ok (.iconst 0, 1) := by decide +kernel
theorem dX10_look_110 : decode cX10_look 110 = .ok (.iadd, 1) := by decide +kernel
theorem dX10_look_111 : decode cX10_look 111 = .ok (.istore 5, 2) := by decide +kernel
theorem dX10_look_113 : decode cX10_look 113 = .ok (.iinc 6 1, 3) := by decide +kernel
theorem dX10_look_116 : decode cX10_look 116 = .ok (.goto (-40), 3) := by decide +kernel
theorem dX10_look_119 : decode cX10_look 119 = .ok (.iload 5, 2) := by decide +kernel
theorem dX10_look_121 : decode cX10_look 121 = .ok (.iload_n 1, 1) := by decide +kernel
theorem dX10_look_122 : decode cX10_look 122 = .ok (.iload 5, 2) := by decide +kernel
theorem dX10_look_124 : decode cX10_look 124 = .ok (.isub, 1) := by decide +kernel
theorem dX10_look_125 : decode cX10_look 125 = .ok (.if_icmp .le 8, 3) := by decide +kernel
theorem dX10_look_128 : decode cX10_look 128 = .ok (.iload 5, 2) := by decide +kernel
theorem dX10_look_130 : decode cX10_look 130 = .ok (.goto 7, 3) := by decide +kernel
theorem dX10_look_133 : decode cX10_look 133 = .ok (.iload_n 1, 1) := by decide +kernel
theorem dX10_look_134 : decode cX10_look 134 = .ok (.iload 5, 2) := by decide +kernel
theorem dX10_look_136 : decode cX10_look 136 = .ok (.isub, 1) := by decide +kernel
theorem dX10_look_137 : decode cX10_look 137 = .ok (.istore 6, 2) := by decide +kernel
theorem dX10_look_139 : decode cX10_look 139 = .ok (.iload 6, 2) := by decide +kernel
theorem dX10_look_141 : decode cX10_look 141 = .ok (.iload_n 3, 1) := by decide +kernel
theorem dX10_look_142 : decode cX10_look 142 = .ok (.if_icmp .ge 8, 3) := by decide +kernel
theorem dX10_look_145 : decode cX10_look 145 = .ok (.iload 4, 2) := by decide +kernel
theorem dX10_look_147 : decode cX10_look 147 = .ok (.goto 4, 3) := by decide +kernel
theorem dX10_look_150 : decode cX10_look 150 = .ok (.iload_n 2, 1) := by decide +kernel
theorem dX10_look_151 : decode cX10_look 151 = .ok (.istore_n 2, 1) := by decide +kernel
theorem dX10_look_152 : decode cX10_look 152 = .ok (.iload 6, 2) := by decide +kernel
theorem dX10_look_154 : decode cX10_look 154 = .ok (.iload_n 3, 1) := by decide +kernel
theorem dX10_look_155 : decode cX10_look 155 = .ok (.if_icmp .ge 8, 3) := by decide +kernel
theorem dX10_look_158 : decode cX10_look 158 = .ok (.iload 6, 2) := by decide +kernel
theorem dX10_look_160 : decode cX10_look 160 = .ok (.goto 4, 3) := by decide +kernel
theorem dX10_look_163 : decode cX10_look 163 = .ok (.iload_n 3, 1) := by decide +kernel
theorem dX10_look_164 : decode cX10_look 164 = .ok (.istore_n 3, 1) := by decide +kernel
theorem dX10_look_165 : decode cX10_look 165 = .ok (.iinc 4 1, 3) := by decide +kernel
theorem dX10_look_168 : decode cX10_look 168 = .ok (.goto (-114), 3) := by decide +kernel
theorem dX10_look_171 : decode cX10_look 171 = .ok (.iload_n 2, 1) := by decide +kernel
theorem dX10_look_172 : decode cX10_look 172 = .ok (.ireturn, 1) := by decide +kernel
theorem dX10_rate_0 : decode cX10_rate 0 = .ok (.aload_n 0, 1) := by decide +kernel
theorem dX10_rate_1 : decode cX10_rate 1 = .ok (.iconst 0, 1) := by decide +kernel
theorem dX10_rate_2 : decode cX10_rate 2 = .ok (.putfield 89, 3) := by decide +kernel
theorem dX10_rate_5 : decode cX10_rate 5 = .ok (.iload_n 1, 1) := by decide +kernel
theorem dX10_rate_6 : decode cX10_rate 6 = .ok (.iconst 0, 1) := by decide +kernel
theorem dX10_rate_7 : decode cX10_rate 7 = .ok (.iconst 5, 1) := by decide +kernel
theorem dX10_rate_8 : decode cX10_rate 8 = .ok (.invokestatic 93, 3) := by decide +kernel
theorem dX10_rate_11 : decode cX10_rate 11 = .ok (.ifCond .eq 11, 3) := by decide +kernel
theorem dX10_rate_14 : decode cX10_rate 14 = .ok (.aload_n 0, 1) := by decide +kernel
theorem dX10_rate_15 : decode cX10_rate 15 = .ok (.iload_n 2, 1) := by decide +kernel
theorem dX10_rate_16 : decode cX10_rate 16 = .ok (.invokevirtual 171, 3) := by decide +kernel
theorem dX10_rate_19 : decode cX10_rate 19 = .ok (.ifCond .ne 6, 3) := by decide +kernel
theorem dX10_rate_22 : decode cX10_rate 22 = .ok (.ldc 242, 2) := by decide +kernel
theorem dX10_rate_24 : decode cX10_rate 24 = .ok (.ireturn, 1) := by decide +kernel
theorem dX10_rate_25 : decode cX10_rate 25 = .ok (.aload_n 0, 1) := by decide +kernel
theorem dX10_rate_26 : decode cX10_rate 26 = .ok (.getfield 28, 3) := by decide +kernel
theorem dX10_rate_29 : decode cX10_rate 29 = .ok (.iconst 0, 1) := by decide +kernel
theorem dX10_rate_30 : decode cX10_rate 30 = .ok (.iload_n 2, 1) := by decide +kernel
theorem dX10_rate_31 : decode cX10_rate 31 = .ok (.iadd, 1) := by decide +kernel
theorem dX10_rate_32 : decode cX10_rate 32 = .ok (.iaload, 1) := by decide +kernel
theorem dX10_rate_33 : decode cX10_rate 33 = .ok (.istore_n 3, 1) := by decide +kernel
theorem dX10_rate_34 : decode cX10_rate 34 = .ok (.iload_n 3, 1) := by decide +kernel
theorem dX10_rate_35 : decode cX10_rate 35 = .ok (.aload_n 0, 1) := by decide +kernel
theorem dX10_rate_36 : decode cX10_rate 36 = .ok (.getfield 22, 3) := by decide +kernel
theorem dX10_rate_39 : decode cX10_rate 39 = .ok (.iload_n 2, 1) := by decide +kernel
theorem dX10_rate_40 : decode cX10_rate 40 = .ok (.iaload, 1) := by decide +kernel
theorem dX10_rate_41 : decode cX10_rate 41 = .ok (.iadd, 1) := by decide +kernel
theorem dX10_rate_42 : decode cX10_rate 42 = .ok (.istore 4, 2) := by decide +kernel
theorem dX10_rate_44 : decode cX10_rate 44 = .ok (.iload_n 3, 1) := by decide +kernel
theorem dX10_rate_45 : decode cX10_rate 45 = .ok (.aload_n 0, 1) := by decide +kernel
theorem dX10_rate_46 : decode cX10_rate 46 = .ok (.iload_n 2, 1) := by decide +kernel
theorem dX10_rate_47 : decode cX10_rate 47 = .ok (.invokevirtual 175, 3) := by decide +kernel
theorem dX10_rate_50 : decode cX10_rate 50 = .ok (.isub, 1) := by decide +kernel
theorem dX10_rate_51 : decode cX10_rate 51 = .ok (.istore 5, 2) := by decide +kernel
theorem dX10_rate_53 : decode cX10_rate 53 = .ok (.aload_n 0, 1) := by decide +kernel
theorem dX10_rate_54 : decode cX10_rate 54 = .ok (.dup, 1) := by decide +kernel
theorem dX10_rate_55 : decode cX10_rate 55 = .ok (.getfield 243, 3) := by decide +kernel
theorem dX10_rate_58 : decode cX10_rate 58 = .ok (.iload_n 1, 1) := by decide +kernel
theorem dX10_rate_59 : decode cX10_rate 59 = .ok (.ifCond .ne 7, 3) := by decide +kernel
theorem dX10_rate_62 : decode cX10_rate 62 = .ok (.lconst 1, 1) := by decide +kernel
theorem dX10_rate_63 : decode cX10_rate 63 = .ok (.goto 50, 3) := by decide +kernel
theorem dX10_rate_66 : decode cX10_rate 66 = .ok (.iload_n 1, 1) := by decide +kernel
theorem dX10_rate_67 : decode cX10_rate 67 = .ok (.iconst 1, 1) := by decide +kernel
theorem dX10_rate_68 : decode cX10_rate 68 = .ok (.if_icmp .ne 9, 3) := by decide +kernel
theorem dX10_rate_71 : decode cX10_rate 71 = .ok (.ldc2_w 247, 3) := by decide +kernel
theorem dX10_rate_74 : decode cX10_rate 74 = .ok (.goto 39, 3) := by decide +kernel
theorem dX10_rate_77 : decode cX10_rate 77 = .ok (.iload_n 1, 1) := by decide +kernel
theorem dX10_rate_78 : decode cX10_rate 78 = .ok (.iconst 2, 1) := by decide +kernel
theorem dX10_rate_79 : decode cX10_rate 79 = .ok (.if_icmp .ne 9, 3) := by decide +kernel
theorem dX10_rate_82 : decode cX10_rate 82 = .ok (.ldc2_w 249, 3) := by decide +kernel
theorem dX10_rate_85 : decode cX10_rate 85 = .ok (.goto 28, 3) := by decide +kernel
theorem dX10_rate_88 : decode cX10_rate 88 = .ok (.iload_n 1, 1) := by decide +kernel
theorem dX10_rate_89 : decode cX10_rate 89 = .ok (.iconst 3, 1) := by decide +kernel
theorem dX10_rate_90 : decode cX10_rate 90 = .ok (.if_icmp .ne 9, 3) := by decide +kernel
theorem dX10_rate_93 : decode cX10_rate 93 = .ok (.ldc2_w 251, 3) := by decide +kernel
theorem dX10_rate_96 : decode cX10_rate 96 = .ok (.goto 17, 3) := by decide +kernel
theorem dX10_rate_99 : decode cX10_rate 99 = .ok (.iload_n 1, 1) := by decide +kernel
theorem dX10_rate_100 : decode cX10_rate 100 = .ok (.iconst 4, 1) := by decide +kernel
theorem dX10_rate_101 : decode cX10_rate 101 = .ok (.if_icmp .ne 9, 3) := by decide +kernel
theorem dX10_rate_104 : decode cX10_rate 104 = .ok (.ldc2_w 253, 3) := by decide +kernel
theorem dX10_rate_107 : decode cX10_rate 107 = .ok (.goto 6, 3) := by decide +kernel
theorem dX10_rate_110 : decode cX10_rate 110 = .ok (.ldc2_w 255, 3) := by decide +kernel
theorem dX10_rate_113 : decode cX10_rate 113 = .ok (.ladd, 1) := by decide +kernel
theorem dX10_rate_114 : decode cX10_rate 114 = .ok (.putfield 243, 3) := by decide +kernel
theorem dX10_rate_117 : decode cX10_rate 117 = .ok (.iload_n 1, 1) := by decide +kernel
theorem dX10_rate_118 : decode cX10_rate 118 = .ok (.ifCond .ne 7, 3) := by decide +kernel
theorem dX10_rate_121 : decode cX10_rate 121 = .ok (.iload_n 3, 1) := by decide +kernel
theorem dX10_rate_122 : decode cX10_rate 122 = .ok (.goto 56, 3) := by decide +kernel
theorem dX10_rate_125 : decode cX10_rate 125 = .ok (.iload_n 1, 1) := by decide +kernel
theorem dX10_rate_126 : decode cX10_rate 126 = .ok (.iconst 1, 1) := by decide +kernel
theorem dX10_rate_127 : decode cX10_rate 127 = .ok (.if_icmp .ne 8, 3) := by decide +kernel
theorem dX10_rate_130 : decode cX10_rate 130 = .ok (.iload 4, 2) := by decide +kernel
theorem dX10_rate_132 : decode cX10_rate 132 = .ok (.goto 46, 3) := by decide +kernel
theorem dX10_rate_135 : decode cX10_rate 135 = .ok (.iload_n 1, 1) := by decide +kernel
theorem dX10_rate_136 : decode cX10_rate 136 = .ok (.iconst 2, 1) := by decide +kernel
theorem dX10_rate_137 : decode cX10_rate 137 = .ok (.if_icmp .ne 8, 3) := by decide +kernel
theorem dX10_rate_140 : decode cX10_rate 140 = .ok (.iload 5, 2) := by decide +kernel
theorem dX10_rate_142 : decode cX10_rate 142 = .ok (.goto 36, 3) := by decide +kernel
theorem dX10_rate_145 : decode cX10_rate 145 = .ok (.iload_n 1, 1) := by decide +kernel
theorem dX10_rate_146 : decode cX10_rate 146 = .ok (.iconst 3, 1) := by decide +kernel
theorem dX10_rate_147 : decode cX10_rate 147 = .ok (.if_icmp .ne 10, 3) := by decide +kernel
theorem dX10_rate_150 : decode cX10_rate 150 = .ok (.iconst 2, 1) := by decide +kernel
theorem dX10_rate_151 : decode cX10_rate 151 = .ok (.iload 4, 2) := by decide +kernel
theorem dX10_rate_153 : decode cX10_rate 153 = .ok (.imul, 1) := by decide +kernel
theorem dX10_rate_154 : decode cX10_rate 154 = .ok (.goto 24, 3) := by decide +kernel
theorem dX10_rate_157 : decode cX10_rate 157 = .ok (.iload_n 1, 1) := by decide +kernel
theorem dX10_rate_158 : decode cX10_rate 158 = .ok (.iconst 4, 1) := by decide +kernel
theorem dX10_rate_159 : decode cX10_rate 159 = .ok (.if_icmp .ne 10, 3) := by decide +kernel
theorem dX10_rate_162 : decode cX10_rate 162 = .ok (.iload 5, 2) := by decide +kernel
theorem dX10_rate_164 : decode cX10_rate 164 = .ok (.iload_n 2, 1) := by decide +kernel
theorem dX10_rate_165 : decode cX10_rate 165 = .ok (.iadd, 1) := by decide +kernel
theorem dX10_rate_166 : decode cX10_rate 166 = .ok (.goto 12, 3) := by decide +kernel
theorem dX10_rate_169 : decode cX10_rate 169 = .ok (.iload_n 3, 1) := by decide +kernel
theorem dX10_rate_170 : decode cX10_rate 170 = .ok (.aload_n 0, 1) := by decide +kernel
theorem dX10_rate_171 : decode cX10_rate 171 = .ok (.getfield 28, 3) := by decide +kernel
theorem dX10_rate_174 : decode cX10_rate 174 = .ok (.bipush 37, 2) := by decide +kernel
theorem dX10_rate_176 : decode cX10_rate 176 = .ok (.iaload, 1) := by decide +kernel
theorem dX10_rate_177 : decode cX10_rate 177 = .ok (.iadd, 1) := by decide +kernel
theorem dX10_rate_178 : decode cX10_rate 178 = .ok (.ireturn, 1) := by decide +kernel
theorem dX10_keep_0 : decode cX10_keep 0 = .ok (.aload_n 0, 1) := by decide +kernel
theorem dX10_keep_1 : decode cX10_keep 1 = .ok (.iconst 0, 1) := by decide +kernel
theorem dX10_keep_2 : decode cX10_keep 2 = .ok (.putfield 89, 3) := by decide +kernel
theorem dX10_keep_5 : decode cX10_keep 5 = .ok (.iload_n 1, 1) := by decide +kernel
theorem dX10_keep_6 : decode cX10_keep 6 = .ok (.iconst 0, 1) := by decide +kernel
theorem dX10_keep_7 : decode cX10_keep 7 = .ok (.iconst 1, 1) := by decide +kernel
theorem dX10_keep_8 : decode cX10_keep 8 = .ok (.invokestatic 93, 3) := by decide +kernel
theorem dX10_keep_11 : decode cX10_keep 11 = .ok (.ifCond .ne 5, 3) := by decide +kernel
theorem dX10_keep_14 : decode cX10_keep 14 = .ok (.iconst (-1), 1) := by decide +kernel
theorem dX10_keep_15 : decode cX10_keep 15 = .ok (.ireturn, 1) := by decide +kernel
theorem dX10_keep_16 : decode cX10_keep 16 = .ok (.iconst 0, 1) := by decide +kernel
theorem dX10_keep_17 : decode cX10_keep 17 = .ok (.istore_n 2, 1) := by decide +kernel
theorem dX10_keep_18 : decode cX10_keep 18 = .ok (.iload_n 2, 1) := by decide +kernel
theorem dX10_keep_19 : decode cX10_keep 19 = .ok (.bipush 38, 2) := by decide +kernel
theorem dX10_keep_21 : decode cX10_keep 21 = .ok (.if_icmp .ge 26, 3) := by decide +kernel
theorem dX10_keep_24 : decode cX10_keep 24 = .ok (.aload_n 0, 1) := by decide +kernel
theorem dX10_keep_25 : decode cX10_keep 25 = .ok (.getfield 31, 3) := by decide +kernel
theorem dX10_keep_28 : decode cX10_keep 28 = .ok (.bipush 38, 2) := by decide +kernel
theorem dX10_keep_30 : decode cX10_keep 30 = .ok (.iload_n 1, 1) := by decide +kernel
theorem dX10_keep_31 : decode cX10_keep 31 = .ok (.imul, 1) := by decide +kernel
theorem dX10_keep_32 : decode cX10_keep 32 = .ok (.iload_n 2, 1) := by decide +kernel
theorem dX10_keep_33 : decode cX10_keep 33 = .ok (.iadd, 1) := by decide +kernel
theorem dX10_keep_34 : decode cX10_keep 34 = .ok (.aload_n 0, 1) := by decide +kernel
theorem dX10_keep_35 : decode cX10_keep 35 = .ok (.getfield 28, 3) := by decide +kernel
theorem dX10_keep_38 : decode cX10_keep 38 = .ok (.iload_n 2, 1) := by decide +kernel
theorem dX10_keep_39 : decode cX10_keep 39 = .ok (.iaload, 1) := by decide +kernel
theorem dX10_keep_40 : decode cX10_keep 40 = .ok (.iastore, 1) := by decide +kernel
theorem dX10_keep_41 : decode cX10_keep 41 = .ok (.iinc 2 1, 3) := by decide +kernel
theorem dX10_keep_44 : decode cX10_keep 44 = .ok (.goto (-26), 3) := by decide +kernel
theorem dX10_keep_47 : decode cX10_keep 47 = .ok (.aload_n 0, 1) := by decide +kernel
theorem dX10_keep_48 : decode cX10_keep 48 = .ok (.getfield 34, 3) := by decide +kernel
theorem dX10_keep_51 : decode cX10_keep 51 = .ok (.iload_n 1, 1) := by decide +kernel
theorem dX10_keep_52 : decode cX10_keep 52 = .ok (.iconst 1, 1) := by decide +kernel
theorem dX10_keep_53 : decode cX10_keep 53 = .ok (.bastore, 1) := by decide +kernel
theorem dX10_keep_54 : decode cX10_keep 54 = .ok (.aload_n 0, 1) := by decide +kernel
theorem dX10_keep_55 : decode cX10_keep 55 = .ok (.getfield 28, 3) := by decide +kernel
theorem dX10_keep_58 : decode cX10_keep 58 = .ok (.bipush 6, 2) := by decide +kernel
theorem dX10_keep_60 : decode cX10_keep 60 = .ok (.iaload, 1) := by decide +kernel
theorem dX10_keep_61 : decode cX10_keep 61 = .ok (.ireturn, 1) := by decide +kernel
theorem dX10_back_0 : decode cX10_back 0 = .ok (.aload_n 0, 1) := by decide +kernel
theorem dX10_back_1 : decode cX10_back 1 = .ok (.iconst 0, 1) := by decide +kernel
theorem dX10_back_2 : decode cX10_back 2 = .ok (.putfield 89, 3) := by decide +kernel
theorem dX10_back_5 : decode cX10_back 5 = .ok (.iload_n 1, 1) := by decide +kernel
theorem dX10_back_6 : decode cX10_back 6 = .ok (.iconst 0, 1) := by decide +kernel
theorem dX10_back_7 : decode cX10_back 7 = .ok (.iconst 1, 1) := by decide +kernel
theorem dX10_back_8 : decode cX10_back 8 = .ok (.invokestatic 93, 3) := by decide +kernel
theorem dX10_back_11 : decode cX10_back 11 = .ok (.ifCond .ne 5, 3) := by decide +kernel
theorem dX10_back_14 : decode cX10_back 14 = .ok (.iconst (-1), 1) := by decide +kernel
theorem dX10_back_15 : decode cX10_back 15 = .ok (.ireturn, 1) := by decide +kernel
theorem dX10_back_16 : decode cX10_back 16 = .ok (.aload_n 0, 1) := by decide +kernel
theorem dX10_back_17 : decode cX10_back 17 = .ok (.getfield 34, 3) := by decide +kernel
theorem dX10_back_20 : decode cX10_back 20 = .ok (.iload_n 1, 1) := by decide +kernel
theorem dX10_back_21 : decode cX10_back 21 = .ok (.baload, 1) := by decide +kernel
theorem dX10_back_22 : decode cX10_back 22 = .ok (.ifCond .ne 6, 3) := by decide +kernel
theorem dX10_back_25 : decode cX10_back 25 = .ok (.bipush (-2), 2) := by decide +kernel
theorem dX10_back_27 : decode cX10_back 27 = .ok (.ireturn, 1) := by decide +kernel
theorem dX10_back_28 : decode cX10_back 28 = .ok (.iconst 0, 1) := by decide +kernel
theorem dX10_back_29 : decode cX10_back 29 = .ok (.istore_n 2, 1) := by decide +kernel
theorem dX10_back_30 : decode cX10_back 30 = .ok (.iload_n 2, 1) := by decide +kernel
theorem dX10_back_31 : decode cX10_back 31 = .ok (.bipush 38, 2) := by decide +kernel
theorem dX10_back_33 : decode cX10_back 33 = .ok (.if_icmp .ge 26, 3) := by decide +kernel
theorem dX10_back_36 : decode cX10_back 36 = .ok (.aload_n 0, 1) := by decide +kernel
theorem dX10_back_37 : decode cX10_back 37 = .ok (.getfield 28, 3) := by decide +kernel
theorem dX10_back_40 : decode cX10_back 40 = .ok (.iload_n 2, 1) := by decide +kernel
theorem dX10_back_41 : decode cX10_back 41 = .ok (.aload_n 0, 1) := by decide +kernel
theorem dX10_back_42 : decode cX10_back 42 = .ok (.getfield 31, 3) := by decide +kernel
theorem dX10_back_45 : decode cX10_back 45 = .ok (.bipush 38, 2) := by decide +kernel
theorem dX10_back_47 : decode cX10_back 47 = .ok (.iload_n 1, 1) := by decide +kernel
theorem dX10_back_48 : decode cX10_back 48 = .ok (.imul, 1) := by decide +kernel
theorem dX10_back_49 : decode cX10_back 49 = .ok (.iload_n 2, 1) := by decide +kernel
theorem dX10_back_50 : decode cX10_back 50 = .ok (.iadd, 1) := by decide +kernel
theorem dX10_back_51 : decode cX10_back 51 = .ok (.iaload, 1) := by decide +kernel
theorem dX10_back_52 : decode cX10_back 52 = .ok (.iastore, 1) := by decide +kernel
theorem dX10_back_53 : decode cX10_back 53 = .ok (.iinc 2 1, 3) := by decide +kernel
theorem dX10_back_56 : decode cX10_back 56 = .ok (.goto (-26), 3) := by decide +kernel
theorem dX10_back_59 : decode cX10_back 59 = .ok (.aload_n 0, 1) := by decide +kernel
theorem dX10_back_60 : decode cX10_back 60 = .ok (.iconst 0, 1) := by decide +kernel
theorem dX10_back_61 : decode cX10_back 61 = .ok (.putfield 161, 3) := by decide +kernel
theorem dX10_back_64 : decode cX10_back 64 = .ok (.aload_n 0, 1) := by decide +kernel
theorem dX10_back_65 : decode cX10_back 65 = .ok (.getfield 28, 3) := by decide +kernel
theorem dX10_back_68 : decode cX10_back 68 = .ok (.bipush 6, 2) := by decide +kernel
theorem dX10_back_70 : decode cX10_back 70 = .ok (.iaload, 1) := by decide +kernel
theorem dX10_back_71 : decode cX10_back 71 = .ok (.ireturn, 1) := by decide +kernel
theorem dX10_count_0 : decode cX10_count 0 = .ok (.aload_n 0, 1) := by decide +kernel
theorem dX10_count_1 : decode cX10_count 1 = .ok (.iconst 0, 1) := by decide +kernel
theorem dX10_count_2 : decode cX10_count 2 = .ok (.putfield 89, 3) := by decide +kernel
theorem dX10_count_5 : decode cX10_count 5 = .ok (.iload_n 1, 1) := by decide +kernel
theorem dX10_count_6 : decode cX10_count 6 = .ok (.iconst 0, 1) := by decide +kernel
theorem dX10_count_7 : decode cX10_count 7 = .ok (.iconst 1, 1) := by decide +kernel
theorem dX10_count_8 : decode cX10_count 8 = .ok (.invokestatic 93, 3) := by decide +kernel
theorem dX10_count_11 : decode cX10_count 11 = .ok (.ifCond .eq 12, 3) := by decide +kernel
theorem dX10_count_14 : decode cX10_count 14 = .ok (.aload_n 0, 1) := by decide +kernel
theorem dX10_count_15 : decode cX10_count 15 = .ok (.getfield 13, 3) := by decide +kernel
theorem dX10_count_18 : decode cX10_count 18 = .ok (.iload_n 1, 1) := by decide +kernel
theorem dX10_count_19 : decode cX10_count 19 = .ok (.iaload, 1) := by decide +kernel
theorem dX10_count_20 : decode cX10_count 20 = .ok (.goto 43, 3) := by decide +kernel
theorem dX10_count_23 : decode cX10_count 23 = .ok (.iload_n 1, 1) := by decide +kernel
theorem dX10_count_24 : decode cX10_count 24 = .ok (.iconst 2, 1) := by decide +kernel
theorem dX10_count_25 : decode cX10_count 25 = .ok (.if_icmp .ne 13, 3) := by decide +kernel
theorem dX10_count_28 : decode cX10_count 28 = .ok (.aload_n 0, 1) := by decide +kernel
theorem dX10_count_29 : decode cX10_count 29 = .ok (.getfield 28, 3) := by decide +kernel
theorem dX10_count_32 : decode cX10_count 32 = .ok (.bipush 6, 2) := by decide +kernel
theorem dX10_count_34 : decode cX10_count 34 = .ok (.iaload, 1) := by decide +kernel
theorem dX10_count_35 : decode cX10_count 35 = .ok (.goto 28, 3) := by decide +kernel
theorem dX10_count_38 : decode cX10_count 38 = .ok (.iload_n 1, 1) := by decide +kernel
theorem dX10_count_39 : decode cX10_count 39 = .ok (.iconst 3, 1) := by decide +kernel
theorem dX10_count_40 : decode cX10_count 40 = .ok (.if_icmp .ne 10, 3) := by decide +kernel
theorem dX10_count_43 : decode cX10_count 43 = .ok (.aload_n 0, 1) := by decide +kernel
theorem dX10_count_44 : decode cX10_count 44 = .ok (.getfield 158, 3) := by decide +kernel
theorem dX10_count_47 : decode cX10_count 47 = .ok (.goto 16, 3) := by decide +kernel
theorem dX10_count_50 : decode cX10_count 50 = .ok (.iload_n 1, 1) := by decide +kernel
theorem dX10_count_51 : decode cX10_count 51 = .ok (.iconst 4, 1) := by decide +kernel
theorem dX10_count_52 : decode cX10_count 52 = .ok (.if_icmp .ne 10, 3) := by decide +kernel
theorem dX10_count_55 : decode cX10_count 55 = .ok (.aload_n 0, 1) := by decide +kernel
theorem dX10_count_56 : decode cX10_count 56 = .ok (.getfield 97, 3) := by decide +kernel
theorem dX10_count_59 : decode cX10_count 59 = .ok (.goto 4, 3) := by decide +kernel
theorem dX10_count_62 : decode cX10_count 62 = .ok (.iconst (-1), 1) := by decide +kernel
theorem dX10_count_63 : decode cX10_count 63 = .ok (.ireturn, 1) := by decide +kernel
theorem dX10_trace_0 : decode cX10_trace 0 = .ok (.aload_n 0, 1) := by decide +kernel
theorem dX10_trace_1 : decode cX10_trace 1 = .ok (.iconst 0, 1) := by decide +kernel
theorem dX10_trace_2 : decode cX10_trace 2 = .ok (.putfield 89, 3) := by decide +kernel
theorem dX10_trace_5 : decode cX10_trace 5 = .ok (.aload_n 0, 1) := by decide +kernel
theorem dX10_trace_6 : decode cX10_trace 6 = .ok (.getfield 243, 3) := by decide +kernel
theorem dX10_trace_9 : decode cX10_trace 9 = .ok (.lreturn, 1) := by decide +kernel
theorem dJ6_bitCount_0f7a4_0 : decode cJ6_bitCount_0f7a4 0 = .ok (.iload_n 0, 1) := by decide +kernel
theorem dJ6_bitCount_0f7a4_1 : decode cJ6_bitCount_0f7a4 1 = .ok (.iload_n 0, 1) := by decide +kernel
theorem dJ6_bitCount_0f7a4_2 : decode cJ6_bitCount_0f7a4 2 = .ok (.iconst 1, 1) := by decide +kernel
theorem dJ6_bitCount_0f7a4_3 : decode cJ6_bitCount_0f7a4 3 = .ok (.iushr, 1) := by decide +kernel
theorem dJ6_bitCount_0f7a4_4 : decode cJ6_bitCount_0f7a4 4 = .ok (.ldc_w 265, 3) := by decide +kernel
theorem dJ6_bitCount_0f7a4_7 : decode cJ6_bitCount_0f7a4 7 = .ok (.iand, 1) := by decide +kernel
theorem dJ6_bitCount_0f7a4_8 : decode cJ6_bitCount_0f7a4 8 = .ok (.isub, 1) := by decide +kernel
theorem dJ6_bitCount_0f7a4_9 : decode cJ6_bitCount_0f7a4 9 = .ok (.istore_n 0, 1) := by decide +kernel
theorem dJ6_bitCount_0f7a4_10 : decode cJ6_bitCount_0f7a4 10 = .ok (.iload_n 0, 1) := by decide +kernel
theorem dJ6_bitCount_0f7a4_11 : decode cJ6_bitCount_0f7a4 11 = .ok (.ldc_w 266, 3) := by decide +kernel
theorem dJ6_bitCount_0f7a4_14 : decode cJ6_bitCount_0f7a4 14 = .ok (.iand, 1) := by decide +kernel
theorem dJ6_bitCount_0f7a4_15 : decode cJ6_bitCount_0f7a4 15 = .ok (.iload_n 0, 1) := by decide +kernel
theorem dJ6_bitCount_0f7a4_16 : decode cJ6_bitCount_0f7a4 16 = .ok (.iconst 2, 1) := by decide +kernel
theorem dJ6_bitCount_0f7a4_17 : decode cJ6_bitCount_0f7a4 17 = .ok (.iushr, 1) := by decide +kernel
theorem dJ6_bitCount_0f7a4_18 : decode cJ6_bitCount_0f7a4 18 = .ok (.ldc_w 266, 3) := by decide +kernel
theorem dJ6_bitCount_0f7a4_21 : decode cJ6_bitCount_0f7a4 21 = .ok (.iand, 1) := by decide +kernel
theorem dJ6_bitCount_0f7a4_22 : decode cJ6_bitCount_0f7a4 22 = .ok (.iadd, 1) := by decide +kernel
theorem dJ6_bitCount_0f7a4_23 : decode cJ6_bitCount_0f7a4 23 = .ok (.istore_n 0, 1) := by decide +kernel
theorem dJ6_bitCount_0f7a4_24 : decode cJ6_bitCount_0f7a4 24 = .ok (.iload_n 0, 1) := by decide +kernel
theorem dJ6_bitCount_0f7a4_25 : decode cJ6_bitCount_0f7a4 25 = .ok (.iload_n 0, 1) := by decide +kernel
theorem dJ6_bitCount_0f7a4_26 : decode cJ6_bitCount_0f7a4 26 = .ok (.iconst 4, 1) := by decide +kernel
theorem dJ6_bitCount_0f7a4_27 : decode cJ6_bitCount_0f7a4 27 = .ok (.iushr, 1) := by decide +kernel
theorem dJ6_bitCount_0f7a4_28 : decode cJ6_bitCount_0f7a4 28 = .ok (.iadd, 1) := by decide +kernel
theorem dJ6_bitCount_0f7a4_29 : decode cJ6_bitCount_0f7a4 29 = .ok (.ldc_w 267, 3) := by decide +kernel
theorem dJ6_bitCount_0f7a4_32 : decode cJ6_bitCount_0f7a4 32 = .ok (.iand, 1) := by decide +kernel
theorem dJ6_bitCount_0f7a4_33 : decode cJ6_bitCount_0f7a4 33 = .ok (.istore_n 0, 1) := by decide +kernel
theorem dJ6_bitCount_0f7a4_34 : decode cJ6_bitCount_0f7a4 34 = .ok (.iload_n 0, 1) := by decide +kernel
theorem dJ6_bitCount_0f7a4_35 : decode cJ6_bitCount_0f7a4 35 = .ok (.iload_n 0, 1) := by decide +kernel
theorem dJ6_bitCount_0f7a4_36 : decode cJ6_bitCount_0f7a4 36 = .ok (.bipush 8, 2) := by decide +kernel
theorem dJ6_bitCount_0f7a4_38 : decode cJ6_bitCount_0f7a4 38 = .ok (.iushr, 1) := by decide +kernel
theorem dJ6_bitCount_0f7a4_39 : decode cJ6_bitCount_0f7a4 39 = .ok (.iadd, 1) := by decide +kernel
theorem dJ6_bitCount_0f7a4_40 : decode cJ6_bitCount_0f7a4 40 = .ok (.istore_n 0, 1) := by decide +kernel
theorem dJ6_bitCount_0f7a4_41 : decode cJ6_bitCount_0f7a4 41 = .ok (.iload_n 0, 1) := by decide +kernel
theorem dJ6_bitCount_0f7a4_42 : decode cJ6_bitCount_0f7a4 42 = .ok (.iload_n 0, 1) := by decide +kernel
theorem dJ6_bitCount_0f7a4_43 : decode cJ6_bitCount_0f7a4 43 = .ok (.bipush 16, 2) := by decide +kernel
theorem dJ6_bitCount_0f7a4_45 : decode cJ6_bitCount_0f7a4 45 = .ok (.iushr, 1) := by decide +kernel
theorem dJ6_bitCount_0f7a4_46 : decode cJ6_bitCount_0f7a4 46 = .ok (.iadd, 1) := by decide +kernel
theorem dJ6_bitCount_0f7a4_47 : decode cJ6_bitCount_0f7a4 47 = .ok (.istore_n 0, 1) := by decide +kernel
theorem dJ6_bitCount_0f7a4_48 : decode cJ6_bitCount_0f7a4 48 = .ok (.iload_n 0, 1) := by decide +kernel
theorem dJ6_bitCount_0f7a4_49 : decode cJ6_bitCount_0f7a4 49 = .ok (.bipush 63, 2) := by decide +kernel
theorem dJ6_bitCount_0f7a4_51 : decode cJ6_bitCount_0f7a4 51 = .ok (.iand, 1) := by decide +kernel
theorem dJ6_bitCount_0f7a4_52 : decode cJ6_bitCount_0f7a4 52 = .ok (.ireturn, 1) := by decide +kernel
theorem dJ9_abs_0f7a4_0 : decode cJ9_abs_0f7a4 0 = .ok (.iload_n 0, 1) := by decide +kernel
theorem dJ9_abs_0f7a4_1 : decode cJ9_abs_0f7a4 1 = .ok (.ifCond .ge 8, 3) := by decide +kernel
theorem dJ9_abs_0f7a4_4 : decode cJ9_abs_0f7a4 4 = .ok (.iload_n 0, 1) := by decide +kernel
theorem dJ9_abs_0f7a4_5 : decode cJ9_abs_0f7a4 5 = .ok (.ineg, 1) := by decide +kernel
theorem dJ9_abs_0f7a4_6 : decode cJ9_abs_0f7a4 6 = .ok (.goto 4, 3) := by decide +kernel
theorem dJ9_abs_0f7a4_9 : decode cJ9_abs_0f7a4 9 = .ok (.iload_n 0, 1) := by decide +kernel
theorem dJ9_abs_0f7a4_10 : decode cJ9_abs_0f7a4 10 = .ok (.ireturn, 1) := by decide +kernel
theorem dJ9_max_7cf53_0 : decode cJ9_max_7cf53 0 = .ok (.iload_n 0, 1) := by decide +kernel
theorem dJ9_max_7cf53_1 : decode cJ9_max_7cf53 1 = .ok (.iload_n 1, 1) := by decide +kernel
theorem dJ9_max_7cf53_2 : decode cJ9_max_7cf53 2 = .ok (.if_icmp .lt 7, 3) := by decide +kernel
theorem dJ9_max_7cf53_5 : decode cJ9_max_7cf53 5 = .ok (.iload_n 0, 1) := by decide +kernel
theorem dJ9_max_7cf53_6 : decode cJ9_max_7cf53 6 = .ok (.goto 4, 3) := by decide +kernel
theorem dJ9_max_7cf53_9 : decode cJ9_max_7cf53 9 = .ok (.iload_n 1, 1) := by decide +kernel
theorem dJ9_max_7cf53_10 : decode cJ9_max_7cf53 10 = .ok (.ireturn, 1) := by decide +kernel
theorem dJ9_min_7cf53_0 : decode cJ9_min_7cf53 0 = .ok (.iload_n 0, 1) := by decide +kernel
theorem dJ9_min_7cf53_1 : decode cJ9_min_7cf53 1 = .ok (.iload_n 1, 1) := by decide +kernel
theorem dJ9_min_7cf53_2 : decode cJ9_min_7cf53 2 = .ok (.if_icmp .gt 7, 3) := by decide +kernel
theorem dJ9_min_7cf53_5 : decode cJ9_min_7cf53 5 = .ok (.iload_n 0, 1) := by decide +kernel
