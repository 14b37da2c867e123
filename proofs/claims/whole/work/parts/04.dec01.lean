theorem dX4_bindWay_100 : decode cX4_bindWay 100 = .ok (.iconst 1, 1) := by decide +kernel
theorem dX4_bindWay_101 : decode cX4_bindWay 101 = .ok (.aload_n 0, 1) := by decide +kernel
theorem dX4_bindWay_102 : decode cX4_bindWay 102 = .ok (.getfield 21, 3) := by decide +kernel
theorem dX4_bindWay_105 : decode cX4_bindWay 105 = .ok (.aload_n 0, 1) := by decide +kernel
theorem dX4_bindWay_106 : decode cX4_bindWay 106 = .ok (.getfield 15, 3) := by decide +kernel
theorem dX4_bindWay_109 : decode cX4_bindWay 109 = .ok (.iaload, 1) := by decide +kernel
theorem dX4_bindWay_110 : decode cX4_bindWay 110 = .ok (.invokestatic 67, 3) := by decide +kernel
theorem dX4_bindWay_113 : decode cX4_bindWay 113 = .ok (.imul, 1) := by decide +kernel
theorem dX4_bindWay_114 : decode cX4_bindWay 114 = .ok (.iconst 5, 1) := by decide +kernel
theorem dX4_bindWay_115 : decode cX4_bindWay 115 = .ok (.aload_n 0, 1) := by decide +kernel
theorem dX4_bindWay_116 : decode cX4_bindWay 116 = .ok (.getfield 25, 3) := by decide +kernel
theorem dX4_bindWay_119 : decode cX4_bindWay 119 = .ok (.aload_n 0, 1) := by decide +kernel
theorem dX4_bindWay_120 : decode cX4_bindWay 120 = .ok (.getfield 15, 3) := by decide +kernel
theorem dX4_bindWay_123 : decode cX4_bindWay 123 = .ok (.iaload, 1) := by decide +kernel
theorem dX4_bindWay_124 : decode cX4_bindWay 124 = .ok (.invokestatic 67, 3) := by decide +kernel
theorem dX4_bindWay_127 : decode cX4_bindWay 127 = .ok (.imul, 1) := by decide +kernel
theorem dX4_bindWay_128 : decode cX4_bindWay 128 = .ok (.isub, 1) := by decide +kernel
theorem dX4_bindWay_129 : decode cX4_bindWay 129 = .ok (.iastore, 1) := by decide +kernel
theorem dX4_bindWay_130 : decode cX4_bindWay 130 = .ok (.aload_n 0, 1) := by decide +kernel
theorem dX4_bindWay_131 : decode cX4_bindWay 131 = .ok (.dup, 1) := by decide +kernel
theorem dX4_bindWay_132 : decode cX4_bindWay 132 = .ok (.getfield 15, 3) := by decide +kernel
theorem dX4_bindWay_135 : decode cX4_bindWay 135 = .ok (.iconst 1, 1) := by decide +kernel
theorem dX4_bindWay_136 : decode cX4_bindWay 136 = .ok (.iadd, 1) := by decide +kernel
theorem dX4_bindWay_137 : decode cX4_bindWay 137 = .ok (.putfield 15, 3) := by decide +kernel
theorem dX4_bindWay_140 : decode cX4_bindWay 140 = .ok (.iinc 3 1, 3) := by decide +kernel
theorem dX4_bindWay_143 : decode cX4_bindWay 143 = .ok (.goto (-141), 3) := by decide +kernel
theorem dX4_bindWay_146 : decode cX4_bindWay 146 = .ok (.return_, 1) := by decide +kernel
theorem dX4_leastCost_0 : decode cX4_leastCost 0 = .ok (.aload_n 0, 1) := by decide +kernel
theorem dX4_leastCost_1 : decode cX4_leastCost 1 = .ok (.sipush 1000, 3) := by decide +kernel
theorem dX4_leastCost_4 : decode cX4_leastCost 4 = .ok (.putfield 18, 3) := by decide +kernel
theorem dX4_leastCost_7 : decode cX4_leastCost 7 = .ok (.aload_n 0, 1) := by decide +kernel
theorem dX4_leastCost_8 : decode cX4_leastCost 8 = .ok (.iconst 0, 1) := by decide +kernel
theorem dX4_leastCost_9 : decode cX4_leastCost 9 = .ok (.iconst 0, 1) := by decide +kernel
theorem dX4_leastCost_10 : decode cX4_leastCost 10 = .ok (.invokestatic 73, 3) := by decide +kernel
theorem dX4_leastCost_13 : decode cX4_leastCost 13 = .ok (.aload_n 0, 1) := by decide +kernel
theorem dX4_leastCost_14 : decode cX4_leastCost 14 = .ok (.getfield 18, 3) := by decide +kernel
theorem dX4_leastCost_17 : decode cX4_leastCost 17 = .ok (.sipush 1000, 3) := by decide +kernel
theorem dX4_leastCost_20 : decode cX4_leastCost 20 = .ok (.if_icmp .ne 8, 3) := by decide +kernel
theorem dX4_leastCost_23 : decode cX4_leastCost 23 = .ok (.bipush (-9), 2) := by decide +kernel
theorem dX4_leastCost_25 : decode cX4_leastCost 25 = .ok (.goto 7, 3) := by decide +kernel
theorem dX4_leastCost_28 : decode cX4_leastCost 28 = .ok (.aload_n 0, 1) := by decide +kernel
theorem dX4_leastCost_29 : decode cX4_leastCost 29 = .ok (.getfield 18, 3) := by decide +kernel
theorem dX4_leastCost_32 : decode cX4_leastCost 32 = .ok (.ireturn, 1) := by decide +kernel
theorem dX4_findFirst_0 : decode cX4_findFirst 0 = .ok (.aload_n 0, 1) := by decide +kernel
theorem dX4_findFirst_1 : decode cX4_findFirst 1 = .ok (.iconst 0, 1) := by decide +kernel
theorem dX4_findFirst_2 : decode cX4_findFirst 2 = .ok (.iload_n 1, 1) := by decide +kernel
theorem dX4_findFirst_3 : decode cX4_findFirst 3 = .ok (.invokestatic 77, 3) := by decide +kernel
theorem dX4_findFirst_6 : decode cX4_findFirst 6 = .ok (.ireturn, 1) := by decide +kernel
theorem dX4_goCheapest_0 : decode cX4_goCheapest 0 = .ok (.iload_n 1, 1) := by decide +kernel
theorem dX4_goCheapest_1 : decode cX4_goCheapest 1 = .ok (.aload_n 0, 1) := by decide +kernel
theorem dX4_goCheapest_2 : decode cX4_goCheapest 2 = .ok (.getfield 9, 3) := by decide +kernel
theorem dX4_goCheapest_5 : decode cX4_goCheapest 5 = .ok (.if_icmp .lt 16, 3) := by decide +kernel
theorem dX4_goCheapest_8 : decode cX4_goCheapest 8 = .ok (.aload_n 0, 1) := by decide +kernel
theorem dX4_goCheapest_9 : decode cX4_goCheapest 9 = .ok (.aload_n 0, 1) := by decide +kernel
theorem dX4_goCheapest_10 : decode cX4_goCheapest 10 = .ok (.getfield 18, 3) := by decide +kernel
theorem dX4_goCheapest_13 : decode cX4_goCheapest 13 = .ok (.iload_n 2, 1) := by decide +kernel
theorem dX4_goCheapest_14 : decode cX4_goCheapest 14 = .ok (.invokestatic 81, 3) := by decide +kernel
theorem dX4_goCheapest_17 : decode cX4_goCheapest 17 = .ok (.putfield 18, 3) := by decide +kernel
theorem dX4_goCheapest_20 : decode cX4_goCheapest 20 = .ok (.return_, 1) := by decide +kernel
theorem dX4_goCheapest_21 : decode cX4_goCheapest 21 = .ok (.aload_n 0, 1) := by decide +kernel
theorem dX4_goCheapest_22 : decode cX4_goCheapest 22 = .ok (.iload_n 1, 1) := by decide +kernel
theorem dX4_goCheapest_23 : decode cX4_goCheapest 23 = .ok (.invokevirtual 87, 3) := by decide +kernel
theorem dX4_goCheapest_26 : decode cX4_goCheapest 26 = .ok (.istore_n 3, 1) := by decide +kernel
theorem dX4_goCheapest_27 : decode cX4_goCheapest 27 = .ok (.aload_n 0, 1) := by decide +kernel
theorem dX4_goCheapest_28 : decode cX4_goCheapest 28 = .ok (.iload_n 1, 1) := by decide +kernel
theorem dX4_goCheapest_29 : decode cX4_goCheapest 29 = .ok (.invokevirtual 90, 3) := by decide +kernel
theorem dX4_goCheapest_32 : decode cX4_goCheapest 32 = .ok (.istore 4, 2) := by decide +kernel
theorem dX4_goCheapest_34 : decode cX4_goCheapest 34 = .ok (.iconst 0, 1) := by decide +kernel
theorem dX4_goCheapest_35 : decode cX4_goCheapest 35 = .ok (.istore 5, 2) := by decide +kernel
theorem dX4_goCheapest_37 : decode cX4_goCheapest 37 = .ok (.iload 5, 2) := by decide +kernel
theorem dX4_goCheapest_39 : decode cX4_goCheapest 39 = .ok (.iconst 5, 1) := by decide +kernel
theorem dX4_goCheapest_40 : decode cX4_goCheapest 40 = .ok (.if_icmp .ge 125, 3) := by decide +kernel
theorem dX4_goCheapest_43 : decode cX4_goCheapest 43 = .ok (.iload_n 2, 1) := by decide +kernel
theorem dX4_goCheapest_44 : decode cX4_goCheapest 44 = .ok (.iload 5, 2) := by decide +kernel
theorem dX4_goCheapest_46 : decode cX4_goCheapest 46 = .ok (.aload_n 0, 1) := by decide +kernel
theorem dX4_goCheapest_47 : decode cX4_goCheapest 47 = .ok (.getfield 36, 3) := by decide +kernel
theorem dX4_goCheapest_50 : decode cX4_goCheapest 50 = .ok (.iload_n 1, 1) := by decide +kernel
theorem dX4_goCheapest_51 : decode cX4_goCheapest 51 = .ok (.iaload, 1) := by decide +kernel
theorem dX4_goCheapest_52 : decode cX4_goCheapest 52 = .ok (.imul, 1) := by decide +kernel
theorem dX4_goCheapest_53 : decode cX4_goCheapest 53 = .ok (.iadd, 1) := by decide +kernel
theorem dX4_goCheapest_54 : decode cX4_goCheapest 54 = .ok (.istore 6, 2) := by decide +kernel
theorem dX4_goCheapest_56 : decode cX4_goCheapest 56 = .ok (.aload_n 0, 1) := by decide +kernel
theorem dX4_goCheapest_57 : decode cX4_goCheapest 57 = .ok (.getfield 33, 3) := by decide +kernel
theorem dX4_goCheapest_60 : decode cX4_goCheapest 60 = .ok (.iload_n 1, 1) := by decide +kernel
theorem dX4_goCheapest_61 : decode cX4_goCheapest 61 = .ok (.iaload, 1) := by decide +kernel
theorem dX4_goCheapest_62 : decode cX4_goCheapest 62 = .ok (.iload 5, 2) := by decide +kernel
theorem dX4_goCheapest_64 : decode cX4_goCheapest 64 = .ok (.isub, 1) := by decide +kernel
theorem dX4_goCheapest_65 : decode cX4_goCheapest 65 = .ok (.istore 7, 2) := by decide +kernel
theorem dX4_goCheapest_67 : decode cX4_goCheapest 67 = .ok (.aload_n 0, 1) := by decide +kernel
theorem dX4_goCheapest_68 : decode cX4_goCheapest 68 = .ok (.getfield 33, 3) := by decide +kernel
theorem dX4_goCheapest_71 : decode cX4_goCheapest 71 = .ok (.iload_n 1, 1) := by decide +kernel
theorem dX4_goCheapest_72 : decode cX4_goCheapest 72 = .ok (.iaload, 1) := by decide +kernel
theorem dX4_goCheapest_73 : decode cX4_goCheapest 73 = .ok (.iload 5, 2) := by decide +kernel
theorem dX4_goCheapest_75 : decode cX4_goCheapest 75 = .ok (.iadd, 1) := by decide +kernel
theorem dX4_goCheapest_76 : decode cX4_goCheapest 76 = .ok (.istore 8, 2) := by decide +kernel
theorem dX4_goCheapest_78 : decode cX4_goCheapest 78 = .ok (.iload 7, 2) := by decide +kernel
theorem dX4_goCheapest_80 : decode cX4_goCheapest 80 = .ok (.iload_n 3, 1) := by decide +kernel
theorem dX4_goCheapest_81 : decode cX4_goCheapest 81 = .ok (.if_icmp .lt 35, 3) := by decide +kernel
theorem dX4_goCheapest_84 : decode cX4_goCheapest 84 = .ok (.iload 7, 2) := by decide +kernel
theorem dX4_goCheapest_86 : decode cX4_goCheapest 86 = .ok (.iload 4, 2) := by decide +kernel
theorem dX4_goCheapest_88 : decode cX4_goCheapest 88 = .ok (.if_icmp .gt 28, 3) := by decide +kernel
theorem dX4_goCheapest_91 : decode cX4_goCheapest 91 = .ok (.iload 6, 2) := by decide +kernel
theorem dX4_goCheapest_93 : decode cX4_goCheapest 93 = .ok (.aload_n 0, 1) := by decide +kernel
theorem dX4_goCheapest_94 : decode cX4_goCheapest 94 = .ok (.getfield 18, 3) := by decide +kernel
theorem dX4_goCheapest_97 : decode cX4_goCheapest 97 = .ok (.if_icmp .ge 19, 3) := by decide +kernel
theorem dX4_goCheapest_100 : decode cX4_goCheapest 100 = .ok (.aload_n 0, 1) := by decide +kernel
theorem dX4_goCheapest_101 : decode cX4_goCheapest 101 = .ok (.iload_n 1, 1) := by decide +kernel
theorem dX4_goCheapest_102 : decode cX4_goCheapest 102 = .ok (.iload 7, 2) := by decide +kernel
theorem dX4_goCheapest_104 : decode cX4_goCheapest 104 = .ok (.invokevirtual 93, 3) := by decide +kernel
theorem dX4_goCheapest_107 : decode cX4_goCheapest 107 = .ok (.aload_n 0, 1) := by decide +kernel
theorem dX4_goCheapest_108 : decode cX4_goCheapest 108 = .ok (.iload_n 1, 1) := by decide +kernel
theorem dX4_goCheapest_109 : decode cX4_goCheapest 109 = .ok (.iconst 1, 1) := by decide +kernel
theorem dX4_goCheapest_110 : decode cX4_goCheapest 110 = .ok (.iadd, 1) := by decide +kernel
theorem dX4_goCheapest_111 : decode cX4_goCheapest 111 = .ok (.iload 6, 2) := by decide +kernel
theorem dX4_goCheapest_113 : decode cX4_goCheapest 113 = .ok (.invokestatic 73, 3) := by decide +kernel
theorem dX4_goCheapest_116 : decode cX4_goCheapest 116 = .ok (.iload 5, 2) := by decide +kernel
theorem dX4_goCheapest_118 : decode cX4_goCheapest 118 = .ok (.ifCond .le 41, 3) := by decide +kernel
theorem dX4_goCheapest_121 : decode cX4_goCheapest 121 = .ok (.iload 8, 2) := by decide +kernel
theorem dX4_goCheapest_123 : decode cX4_goCheapest 123 = .ok (.iload_n 3, 1) := by decide +kernel
theorem dX4_goCheapest_124 : decode cX4_goCheapest 124 = .ok (.if_icmp .lt 35, 3) := by decide +kernel
theorem dX4_goCheapest_127 : decode cX4_goCheapest 127 = .ok (.iload 8, 2) := by decide +kernel
theorem dX4_goCheapest_129 : decode cX4_goCheapest 129 = .ok (.iload 4, 2) := by decide +kernel
theorem dX4_goCheapest_131 : decode cX4_goCheapest 131 = .ok (.if_icmp .gt 28, 3) := by decide +kernel
theorem dX4_goCheapest_134 : decode cX4_goCheapest 134 = .ok (.iload 6, 2) := by decide +kernel
theorem dX4_goCheapest_136 : decode cX4_goCheapest 136 = .ok (.aload_n 0, 1) := by decide +kernel
theorem dX4_goCheapest_137 : decode cX4_goCheapest 137 = .ok (.getfield 18, 3) := by decide +kernel
theorem dX4_goCheapest_140 : decode cX4_goCheapest 140 = .ok (.if_icmp .ge 19, 3) := by decide +kernel
theorem dX4_goCheapest_143 : decode cX4_goCheapest 143 = .ok (.aload_n 0, 1) := by decide +kernel
theorem dX4_goCheapest_144 : decode cX4_goCheapest 144 = .ok (.iload_n 1, 1) := by decide +kernel
theorem dX4_goCheapest_145 : decode cX4_goCheapest 145 = .ok (.iload 8, 2) := by decide +kernel
theorem dX4_goCheapest_147 : decode cX4_goCheapest 147 = .ok (.invokevirtual 93, 3) := by decide +kernel
theorem dX4_goCheapest_150 : decode cX4_goCheapest 150 = .ok (.aload_n 0, 1) := by decide +kernel
theorem dX4_goCheapest_151 : decode cX4_goCheapest 151 = .ok (.iload_n 1, 1) := by decide +kernel
theorem dX4_goCheapest_152 : decode cX4_goCheapest 152 = .ok (.iconst 1, 1) := by decide +kernel
theorem dX4_goCheapest_153 : decode cX4_goCheapest 153 = .ok (.iadd, 1) := by decide +kernel
theorem dX4_goCheapest_154 : decode cX4_goCheapest 154 = .ok (.iload 6, 2) := by decide +kernel
theorem dX4_goCheapest_156 : decode cX4_goCheapest 156 = .ok (.invokestatic 73, 3) := by decide +kernel
theorem dX4_goCheapest_159 : decode cX4_goCheapest 159 = .ok (.iinc 5 1, 3) := by decide +kernel
theorem dX4_goCheapest_162 : decode cX4_goCheapest 162 = .ok (.goto (-125), 3) := by decide +kernel
theorem dX4_goCheapest_165 : decode cX4_goCheapest 165 = .ok (.return_, 1) := by decide +kernel
theorem dX4_goFirst_0 : decode cX4_goFirst 0 = .ok (.iload_n 1, 1) := by decide +kernel
theorem dX4_goFirst_1 : decode cX4_goFirst 1 = .ok (.aload_n 0, 1) := by decide +kernel
theorem dX4_goFirst_2 : decode cX4_goFirst 2 = .ok (.getfield 9, 3) := by decide +kernel
theorem dX4_goFirst_5 : decode cX4_goFirst 5 = .ok (.if_icmp .lt 5, 3) := by decide +kernel
theorem dX4_goFirst_8 : decode cX4_goFirst 8 = .ok (.iconst 1, 1) := by decide +kernel
theorem dX4_goFirst_9 : decode cX4_goFirst 9 = .ok (.ireturn, 1) := by decide +kernel
theorem dX4_goFirst_10 : decode cX4_goFirst 10 = .ok (.aload_n 0, 1) := by decide +kernel
theorem dX4_goFirst_11 : decode cX4_goFirst 11 = .ok (.iload_n 1, 1) := by decide +kernel
theorem dX4_goFirst_12 : decode cX4_goFirst 12 = .ok (.invokevirtual 90, 3) := by decide +kernel
theorem dX4_goFirst_15 : decode cX4_goFirst 15 = .ok (.istore_n 3, 1) := by decide +kernel
theorem dX4_goFirst_16 : decode cX4_goFirst 16 = .ok (.aload_n 0, 1) := by decide +kernel
theorem dX4_goFirst_17 : decode cX4_goFirst 17 = .ok (.iload_n 1, 1) := by decide +kernel
theorem dX4_goFirst_18 : decode cX4_goFirst 18 = .ok (.invokevirtual 87, 3) := by decide +kernel
theorem dX4_goFirst_21 : decode cX4_goFirst 21 = .ok (.istore 4, 2) := by decide +kernel
theorem dX4_goFirst_23 : decode cX4_goFirst 23 = .ok (.iload 4, 2) := by decide +kernel
theorem dX4_goFirst_25 : decode cX4_goFirst 25 = .ok (.iload_n 3, 1) := by decide +kernel
theorem dX4_goFirst_26 : decode cX4_goFirst 26 = .ok (.if_icmp .gt 58, 3) := by decide +kernel
theorem dX4_goFirst_29 : decode cX4_goFirst 29 = .ok (.iload_n 2, 1) := by decide +kernel
theorem dX4_goFirst_30 : decode cX4_goFirst 30 = .ok (.aload_n 0, 1) := by decide +kernel
theorem dX4_goFirst_31 : decode cX4_goFirst 31 = .ok (.getfield 36, 3) := by decide +kernel
theorem dX4_goFirst_34 : decode cX4_goFirst 34 = .ok (.iload_n 1, 1) := by decide +kernel
theorem dX4_goFirst_35 : decode cX4_goFirst 35 = .ok (.iaload, 1) := by decide +kernel
theorem dX4_goFirst_36 : decode cX4_goFirst 36 = .ok (.iload 4, 2) := by decide +kernel
theorem dX4_goFirst_38 : decode cX4_goFirst 38 = .ok (.aload_n 0, 1) := by decide +kernel
theorem dX4_goFirst_39 : decode cX4_goFirst 39 = .ok (.getfield 33, 3) := by decide +kernel
theorem dX4_goFirst_42 : decode cX4_goFirst 42 = .ok (.iload_n 1, 1) := by decide +kernel
theorem dX4_goFirst_43 : decode cX4_goFirst 43 = .ok (.iaload, 1) := by decide +kernel
theorem dX4_goFirst_44 : decode cX4_goFirst 44 = .ok (.isub, 1) := by decide +kernel
theorem dX4_goFirst_45 : decode cX4_goFirst 45 = .ok (.invokestatic 97, 3) := by decide +kernel
theorem dX4_goFirst_48 : decode cX4_goFirst 48 = .ok (.imul, 1) := by decide +kernel
theorem dX4_goFirst_49 : decode cX4_goFirst 49 = .ok (.isub, 1) := by decide +kernel
theorem dX4_goFirst_50 : decode cX4_goFirst 50 = .ok (.istore 5, 2) := by decide +kernel
theorem dX4_goFirst_52 : decode cX4_goFirst 52 = .ok (.iload 5, 2) := by decide +kernel
theorem dX4_goFirst_54 : decode cX4_goFirst 54 = .ok (.ifCond .lt 24, 3) := by decide +kernel
theorem dX4_goFirst_57 : decode cX4_goFirst 57 = .ok (.aload_n 0, 1) := by decide +kernel
theorem dX4_goFirst_58 : decode cX4_goFirst 58 = .ok (.iload_n 1, 1) := by decide +kernel
theorem dX4_goFirst_59 : decode cX4_goFirst 59 = .ok (.iload 4, 2) := by decide +kernel
theorem dX4_goFirst_61 : decode cX4_goFirst 61 = .ok (.invokevirtual 93, 3) := by decide +kernel
theorem dX4_goFirst_64 : decode cX4_goFirst 64 = .ok (.aload_n 0, 1) := by decide +kernel
theorem dX4_goFirst_65 : decode cX4_goFirst 65 = .ok (.iload_n 1, 1) := by decide +kernel
theorem dX4_goFirst_66 : decode cX4_goFirst 66 = .ok (.iconst 1, 1) := by decide +kernel
theorem dX4_goFirst_67 : decode cX4_goFirst 67 = .ok (.iadd, 1) := by decide +kernel
theorem dX4_goFirst_68 : decode cX4_goFirst 68 = .ok (.iload 5, 2) := by decide +kernel
theorem dX4_goFirst_70 : decode cX4_goFirst 70 = .ok (.invokestatic 77, 3) := by decide +kernel
theorem dX4_goFirst_73 : decode cX4_goFirst 73 = .ok (.ifCond .eq 5, 3) := by decide +kernel
theorem dX4_goFirst_76 : decode cX4_goFirst 76 = .ok (.iconst 1, 1) := by decide +kernel
theorem dX4_goFirst_77 : decode cX4_goFirst 77 = .ok (.ireturn, 1) := by decide +kernel
theorem dX4_goFirst_78 : decode cX4_goFirst 78 = .ok (.iinc 4 1, 3) := by decide +kernel
theorem dX4_goFirst_81 : decode cX4_goFirst 81 = .ok (.goto (-58), 3) := by decide +kernel
theorem dX4_goFirst_84 : decode cX4_goFirst 84 = .ok (.iconst 0, 1) := by decide +kernel
theorem dX4_goFirst_85 : decode cX4_goFirst 85 = .ok (.ireturn, 1) := by decide +kernel
theorem dX4_lowest_0 : decode cX4_lowest 0 = .ok (.iconst 1, 1) := by decide +kernel
theorem dX4_lowest_1 : decode cX4_lowest 1 = .ok (.istore_n 2, 1) := by decide +kernel
theorem dX4_lowest_2 : decode cX4_lowest 2 = .ok (.iconst 0, 1) := by decide +kernel
theorem dX4_lowest_3 : decode cX4_lowest 3 = .ok (.istore_n 3, 1) := by decide +kernel
theorem dX4_lowest_4 : decode cX4_lowest 4 = .ok (.iload_n 3, 1) := by decide +kernel
theorem dX4_lowest_5 : decode cX4_lowest 5 = .ok (.aload_n 0, 1) := by decide +kernel
theorem dX4_lowest_6 : decode cX4_lowest 6 = .ok (.getfield 15, 3) := by decide +kernel
theorem dX4_lowest_9 : decode cX4_lowest 9 = .ok (.if_icmp .ge 38, 3) := by decide +kernel
theorem dX4_lowest_12 : decode cX4_lowest 12 = .ok (.aload_n 0, 1) := by decide +kernel
theorem dX4_lowest_13 : decode cX4_lowest 13 = .ok (.getfield 25, 3) := by decide +kernel
theorem dX4_lowest_16 : decode cX4_lowest 16 = .ok (.iload_n 3, 1) := by decide +kernel
theorem dX4_lowest_17 : decode cX4_lowest 17 = .ok (.iaload, 1) := by decide +kernel
theorem dX4_lowest_18 : decode cX4_lowest 18 = .ok (.iload_n 1, 1) := by decide +kernel
theorem dX4_lowest_19 : decode cX4_lowest 19 = .ok (.ishr, 1) := by decide +kernel
theorem dX4_lowest_20 : decode cX4_lowest 20 = .ok (.iconst 1, 1) := by decide +kernel
theorem dX4_lowest_21 : decode cX4_lowest 21 = .ok (.iand, 1) := by decide +kernel
theorem dX4_lowest_22 : decode cX4_lowest 22 = .ok (.iconst 1, 1) := by decide +kernel
theorem dX4_lowest_23 : decode cX4_lowest 23 = .ok (.if_icmp .ne 18, 3) := by decide +kernel
theorem dX4_lowest_26 : decode cX4_lowest 26 = .ok (.iload_n 2, 1) := by decide +kernel
theorem dX4_lowest_27 : decode cX4_lowest 27 = .ok (.iconst 5, 1) := by decide +kernel
theorem dX4_lowest_28 : decode cX4_lowest 28 = .ok (.aload_n 0, 1) := by decide +kernel
theorem dX4_lowest_29 : decode cX4_lowest 29 = .ok (.getfield 30, 3) := by decide +kernel
theorem dX4_lowest_32 : decode cX4_lowest 32 = .ok (.iload_n 1, 1) := by decide +kernel
theorem dX4_lowest_33 : decode cX4_lowest 33 = .ok (.aaload, 1) := by decide +kernel
theorem dX4_lowest_34 : decode cX4_lowest 34 = .ok (.iload_n 3, 1) := by decide +kernel
theorem dX4_lowest_35 : decode cX4_lowest 35 = .ok (.iaload, 1) := by decide +kernel
theorem dX4_lowest_36 : decode cX4_lowest 36 = .ok (.iadd, 1) := by decide +kernel
theorem dX4_lowest_37 : decode cX4_lowest 37 = .ok (.invokestatic 100, 3) := by decide +kernel
theorem dX4_lowest_40 : decode cX4_lowest 40 = .ok (.istore_n 2, 1) := by decide +kernel
theorem dX4_lowest_41 : decode cX4_lowest 41 = .ok (.iinc 3 1, 3) := by decide +kernel
theorem dX4_lowest_44 : decode cX4_lowest 44 = .ok (.goto (-40), 3) := by decide +kernel
theorem dX4_lowest_47 : decode cX4_lowest 47 = .ok (.iload_n 2, 1) := by decide +kernel
theorem dX4_lowest_48 : decode cX4_lowest 48 = .ok (.ireturn, 1) := by decide +kernel
theorem dX4_highest_0 : decode cX4_highest 0 = .ok (.iconst 5, 1) := by decide +kernel
theorem dX4_highest_1 : decode cX4_highest 1 = .ok (.istore_n 2, 1) := by decide +kernel
theorem dX4_highest_2 : decode cX4_highest 2 = .ok (.iconst 0, 1) := by decide +kernel
theorem dX4_highest_3 : decode cX4_highest 3 = .ok (.istore_n 3, 1) := by decide +kernel
theorem dX4_highest_4 : decode cX4_highest 4 = .ok (.iload_n 3, 1) := by decide +kernel
theorem dX4_highest_5 : decode cX4_highest 5 = .ok (.aload_n 0, 1) := by decide +kernel
theorem dX4_highest_6 : decode cX4_highest 6 = .ok (.getfield 15, 3) := by decide +kernel
theorem dX4_highest_9 : decode cX4_highest 9 = .ok (.if_icmp .ge 38, 3) := by decide +kernel
theorem dX4_highest_12 : decode cX4_highest 12 = .ok (.aload_n 0, 1) := by decide +kernel
theorem dX4_highest_13 : decode cX4_highest 13 = .ok (.getfield 21, 3) := by decide +kernel
theorem dX4_highest_16 : decode cX4_highest 16 = .ok (.iload_n 3, 1) := by decide +kernel
theorem dX4_highest_17 : decode cX4_highest 17 = .ok (.iaload, 1) := by decide +kernel
theorem dX4_highest_18 : decode cX4_highest 18 = .ok (.iload_n 1, 1) := by decide +kernel
theorem dX4_highest_19 : decode cX4_highest 19 = .ok (.ishr, 1) := by decide +kernel
theorem dX4_highest_20 : decode cX4_highest 20 = .ok (.iconst 1, 1) := by decide +kernel
theorem dX4_highest_21 : decode cX4_highest 21 = .ok (.iand, 1) := by decide +kernel
theorem dX4_highest_22 : decode cX4_highest 22 = .ok (.iconst 1, 1) := by decide +kernel
theorem dX4_highest_23 : decode cX4_highest 23 = .ok (.if_icmp .ne 18, 3) := by decide +kernel
theorem dX4_highest_26 : decode cX4_highest 26 = .ok (.iload_n 2, 1) := by decide +kernel
theorem dX4_highest_27 : decode cX4_highest 27 = .ok (.iconst 1, 1) := by decide +kernel
theorem dX4_highest_28 : decode cX4_highest 28 = .ok (.aload_n 0, 1) := by decide +kernel
theorem dX4_highest_29 : decode cX4_highest 29 = .ok (.getfield 30, 3) := by decide +kernel
theorem dX4_highest_32 : decode cX4_highest 32 = .ok (.iload_n 1, 1) := by decide +kernel
theorem dX4_highest_33 : decode cX4_highest 33 = .ok (.aaload, 1) := by decide +kernel
theorem dX4_highest_34 : decode cX4_highest 34 = .ok (.iload_n 3, 1) := by decide +kernel
theorem dX4_highest_35 : decode cX4_highest 35 = .ok (.iaload, 1) := by decide +kernel
theorem dX4_highest_36 : decode cX4_highest 36 = .ok (.isub, 1) := by decide +kernel
theorem dX4_highest_37 : decode cX4_highest 37 = .ok (.invokestatic 81, 3) := by decide +kernel
theorem dX4_highest_40 : decode cX4_highest 40 = .ok (.istore_n 2, 1) := by decide +kernel
theorem dX4_highest_41 : decode cX4_highest 41 = .ok (.iinc 3 1, 3) := by decide +kernel
theorem dX4_highest_44 : decode cX4_highest 44 = .ok (.goto (-40), 3) := by decide +kernel
theorem dX4_highest_47 : decode cX4_highest 47 = .ok (.iload_n 2, 1) := by decide +kernel
theorem dX4_highest_48 : decode cX4_highest 48 = .ok (.ireturn, 1) := by decide +kernel
theorem dX4_choose_0 : decode cX4_choose 0 = .ok (.aload_n 0, 1) := by decide +kernel
theorem dX4_choose_1 : decode cX4_choose 1 = .ok (.getfield 39, 3) := by decide +kernel
theorem dX4_choose_4 : decode cX4_choose 4 = .ok (.iload_n 1, 1) := by decide +kernel
theorem dX4_choose_5 : decode cX4_choose 5 = .ok (.iload_n 2, 1) := by decide +kernel
theorem dX4_choose_6 : decode cX4_choose 6 = .ok (.iastore, 1) := by decide +kernel
theorem dX4_choose_7 : decode cX4_choose 7 = .ok (.iconst 0, 1) := by decide +kernel
theorem dX4_choose_8 : decode cX4_choose 8 = .ok (.istore_n 3, 1) := by decide +kernel
theorem dX4_choose_9 : decode cX4_choose 9 = .ok (.iload_n 3, 1) := by decide +kernel
theorem dX4_choose_10 : decode cX4_choose 10 = .ok (.aload_n 0, 1) := by decide +kernel
theorem dX4_choose_11 : decode cX4_choose 11 = .ok (.getfield 15, 3) := by decide +kernel
theorem dX4_choose_14 : decode cX4_choose 14 = .ok (.if_icmp .ge 74, 3) := by decide +kernel
theorem dX4_choose_17 : decode cX4_choose 17 = .ok (.iconst 0, 1) := by decide +kernel
theorem dX4_choose_18 : decode cX4_choose 18 = .ok (.istore 4, 2) := by decide +kernel
theorem dX4_choose_20 : decode cX4_choose 20 = .ok (.aload_n 0, 1) := by decide +kernel
theorem dX4_choose_21 : decode cX4_choose 21 = .ok (.getfield 21, 3) := by decide +kernel
theorem dX4_choose_24 : decode cX4_choose 24 = .ok (.iload_n 3, 1) := by decide +kernel
theorem dX4_choose_25 : decode cX4_choose 25 = .ok (.iaload, 1) := by decide +kernel
theorem dX4_choose_26 : decode cX4_choose 26 = .ok (.iload_n 1, 1) := by decide +kernel
theorem dX4_choose_27 : decode cX4_choose 27 = .ok (.ishr, 1) := by decide +kernel
theorem dX4_choose_28 : decode cX4_choose 28 = .ok (.iconst 1, 1) := by decide +kernel
theorem dX4_choose_29 : decode cX4_choose 29 = .ok (.iand, 1) := by decide +kernel
theorem dX4_choose_30 : decode cX4_choose 30 = .ok (.iconst 1, 1) := by decide +kernel
theorem dX4_choose_31 : decode cX4_choose 31 = .ok (.if_icmp .ne 11, 3) := by decide +kernel
theorem dX4_choose_34 : decode cX4_choose 34 = .ok (.iload_n 2, 1) := by decide +kernel
theorem dX4_choose_35 : decode cX4_choose 35 = .ok (.iconst 1, 1) := by decide +kernel
theorem dX4_choose_36 : decode cX4_choose 36 = .ok (.isub, 1) := by decide +kernel
theorem dX4_choose_37 : decode cX4_choose 37 = .ok (.istore 4, 2) := by decide +kernel
theorem dX4_choose_39 : decode cX4_choose 39 = .ok (.goto 22, 3) := by decide +kernel
theorem dX4_choose_42 : decode cX4_choose 42 = .ok (.aload_n 0, 1) := by decide +kernel
theorem dX4_choose_43 : decode cX4_choose 43 = .ok (.getfield 25, 3) := by decide +kernel
theorem dX4_choose_46 : decode cX4_choose 46 = .ok (.iload_n 3, 1) := by decide +kernel
theorem dX4_choose_47 : decode cX4_choose 47 = .ok (.iaload, 1) := by decide +kernel
theorem dX4_choose_48 : decode cX4_choose 48 = .ok (.iload_n 1, 1) := by decide +kernel
theorem dX4_choose_49 : decode cX4_choose 49 = .ok (.ishr, 1) := by decide +kernel
theorem dX4_choose_50 : decode cX4_choose 50 = .ok (.iconst 1, 1) := by decide +kernel
theorem dX4_choose_51 : decode cX4_choose 51 = .ok (.iand, 1) := by decide +kernel
theorem dX4_choose_52 : decode cX4_choose 52 = .ok (.iconst 1, 1) := by decide +kernel
theorem dX4_choose_53 : decode cX4_choose 53 = .ok (.if_icmp .ne 8, 3) := by decide +kernel
theorem dX4_choose_56 : decode cX4_choose 56 = .ok (.iconst 5, 1) := by decide +kernel
theorem dX4_choose_57 : decode cX4_choose 57 = .ok (.iload_n 2, 1) := by decide +kernel
theorem dX4_choose_58 : decode cX4_choose 58 = .ok (.isub, 1) := by decide +kernel
theorem dX4_choose_59 : decode cX4_choose 59 = .ok (.istore 4, 2) := by decide +kernel
theorem dX4_choose_61 : decode cX4_choose 61 = .ok (.aload_n 0, 1) := by decide +kernel
theorem dX4_choose_62 : decode cX4_choose 62 = .ok (.getfield 30, 3) := by decide +kernel
theorem dX4_choose_65 : decode cX4_choose 65 = .ok (.iload_n 1, 1) := by decide +kernel
theorem dX4_choose_66 : decode cX4_choose 66 = .ok (.iconst 1, 1) := by decide +kernel
theorem dX4_choose_67 : decode cX4_choose 67 = .ok (.iadd, 1) := by decide +kernel
theorem dX4_choose_68 : decode cX4_choose 68 = .ok (.aaload, 1) := by decide +kernel
theorem dX4_choose_69 : decode cX4_choose 69 = .ok (.iload_n 3, 1) := by decide +kernel
theorem dX4_choose_70 : decode cX4_choose 70 = .ok (.aload_n 0, 1) := by decide +kernel
theorem dX4_choose_71 : decode cX4_choose 71 = .ok (.getfield 30, 3) := by decide +kernel
theorem dX4_choose_74 : decode cX4_choose 74 = .ok (.iload_n 1, 1) := by decide +kernel
theorem dX4_choose_75 : decode cX4_choose 75 = .ok (.aaload, 1) := by decide +kernel
theorem dX4_choose_76 : decode cX4_choose 76 = .ok (.iload_n 3, 1) := by decide +kernel
theorem dX4_choose_77 : decode cX4_choose 77 = .ok (.iaload, 1) := by decide +kernel
theorem dX4_choose_78 : decode cX4_choose 78 = .ok (.iload 4, 2) := by decide +kernel
theorem dX4_choose_80 : decode cX4_choose 80 = .ok (.iadd, 1) := by decide +kernel
theorem dX4_choose_81 : decode cX4_choose 81 = .ok (.iastore, 1) := by decide +kernel
theorem dX4_choose_82 : decode cX4_choose 82 = .ok (.iinc 3 1, 3) := by decide +kernel
theorem dX4_choose_85 : decode cX4_choose 85 = .ok (.goto (-76), 3) := by decide +kernel
theorem dX4_choose_88 : decode cX4_choose 88 = .ok (.return_, 1) := by decide +kernel
theorem dX5_init_0 : decode cX5_init 0 = .ok (.aload_n 0, 1) := by decide +kernel
theorem dX5_init_1 : decode cX5_init 1 = .ok (.invokespecial 3, 3) := by decide +kernel
theorem dX5_init_4 : decode cX5_init 4 = .ok (.aload_n 0, 1) := by decide +kernel
theorem dX5_init_5 : decode cX5_init 5 = .ok (.iconst 0, 1) := by decide +kernel
theorem dX5_init_6 : decode cX5_init 6 = .ok (.putfield 9, 3) := by decide +kernel
theorem dX5_init_9 : decode cX5_init 9 = .ok (.aload_n 0, 1) := by decide +kernel
theorem dX5_init_10 : decode cX5_init 10 = .ok (.bipush (-9), 2) := by decide +kernel
theorem dX5_init_12 : decode cX5_init 12 = .ok (.putfield 15, 3) := by decide +kernel
theorem dX5_init_15 : decode cX5_init 15 = .ok (.aload_n 0, 1) := by decide +kernel
theorem dX5_init_16 : decode cX5_init 16 = .ok (.bipush (-9), 2) := by decide +kernel
theorem dX5_init_18 : decode cX5_init 18 = .ok (.putfield 19, 3) := by decide +kernel
theorem dX5_init_21 : decode cX5_init 21 = .ok (.aload_n 0, 1) := by decide +kernel
theorem dX5_init_22 : decode cX5_init 22 = .ok (.iconst 0, 1) := by decide +kernel
theorem dX5_init_23 : decode cX5_init 23 = .ok (.putfield 22, 3) := by decide +kernel
theorem dX5_init_26 : decode cX5_init 26 = .ok (.return_, 1) := by decide +kernel
theorem dX5_empty_0 : decode cX5_empty 0 = .ok (.aload_n 0, 1) := by decide +kernel
theorem dX5_empty_1 : decode cX5_empty 1 = .ok (.bipush (-9), 2) := by decide +kernel
theorem dX5_empty_3 : decode cX5_empty 3 = .ok (.putfield 15, 3) := by decide +kernel
theorem dX5_empty_6 : decode cX5_empty 6 = .ok (.aload_n 0, 1) := by decide +kernel
theorem dX5_empty_7 : decode cX5_empty 7 = .ok (.bipush (-9), 2) := by decide +kernel
theorem dX5_empty_9 : decode cX5_empty 9 = .ok (.putfield 19, 3) := by decide +kernel
theorem dX5_empty_12 : decode cX5_empty 12 = .ok (.aload_n 0, 1) := by decide +kernel
theorem dX5_empty_13 : decode cX5_empty 13 = .ok (.iconst 0, 1) := by decide +kernel
theorem dX5_empty_14 : decode cX5_empty 14 = .ok (.putfield 22, 3) := by decide +kernel
theorem dX5_empty_17 : decode cX5_empty 17 = .ok (.return_, 1) := by decide +kernel
theorem dX5_see_0 : decode cX5_see 0 = .ok (.iload_n 2, 1) := by decide +kernel
theorem dX5_see_1 : decode cX5_see 1 = .ok (.bipush (-9), 2) := by decide +kernel
theorem dX5_see_3 : decode cX5_see 3 = .ok (.if_icmp .ne 16, 3) := by decide +kernel
theorem dX5_see_6 : decode cX5_see 6 = .ok (.aload_n 0, 1) := by decide +kernel
theorem dX5_see_7 : decode cX5_see 7 = .ok (.dup, 1) := by decide +kernel
theorem dX5_see_8 : decode cX5_see 8 = .ok (.getfield 22, 3) := by decide +kernel
theorem dX5_see_11 : decode cX5_see 11 = .ok (.iconst 1, 1) := by decide +kernel
theorem dX5_see_12 : decode cX5_see 12 = .ok (.iadd, 1) := by decide +kernel
theorem dX5_see_13 : decode cX5_see 13 = .ok (.putfield 22, 3) := by decide +kernel
theorem dX5_see_16 : decode cX5_see 16 = .ok (.goto 30, 3) := by decide +kernel
theorem dX5_see_19 : decode cX5_see 19 = .ok (.aload_n 0, 1) := by decide +kernel
theorem dX5_see_20 : decode cX5_see 20 = .ok (.getfield 19, 3) := by decide +kernel
theorem dX5_see_23 : decode cX5_see 23 = .ok (.bipush (-9), 2) := by decide +kernel
theorem dX5_see_25 : decode cX5_see 25 = .ok (.if_icmp .eq 11, 3) := by decide +kernel
theorem dX5_see_28 : decode cX5_see 28 = .ok (.iload_n 2, 1) := by decide +kernel
theorem dX5_see_29 : decode cX5_see 29 = .ok (.aload_n 0, 1) := by decide +kernel
theorem dX5_see_30 : decode cX5_see 30 = .ok (.getfield 15, 3) := by decide +kernel
theorem dX5_see_33 : decode cX5_see 33 = .ok (.if_icmp .le 13, 3) := by decide +kernel
theorem dX5_see_36 : decode cX5_see 36 = .ok (.aload_n 0, 1) := by decide +kernel
theorem dX5_see_37 : decode cX5_see 37 = .ok (.iload_n 1, 1) := by decide +kernel
theorem dX5_see_38 : decode cX5_see 38 = .ok (.putfield 19, 3) := by decide +kernel
theorem dX5_see_41 : decode cX5_see 41 = .ok (.aload_n 0, 1) := by decide +kernel
theorem dX5_see_42 : decode cX5_see 42 = .ok (.iload_n 2, 1) := by decide +kernel
theorem dX5_see_43 : decode cX5_see 43 = .ok (.putfield 15, 3) := by decide +kernel
theorem dX5_see_46 : decode cX5_see 46 = .ok (.return_, 1) := by decide +kernel
theorem dX6_init_0 : decode cX6_init 0 = .ok (.aload_n 0, 1) := by decide +kernel
theorem dX6_init_1 : decode cX6_init 1 = .ok (.invokespecial 3, 3) := by decide +kernel
theorem dX6_init_4 : decode cX6_init 4 = .ok (.aload_n 0, 1) := by decide +kernel
theorem dX6_init_5 : decode cX6_init 5 = .ok (.iconst 0, 1) := by decide +kernel
theorem dX6_init_6 : decode cX6_init 6 = .ok (.putfield 9, 3) := by decide +kernel
theorem dX6_init_9 : decode cX6_init 9 = .ok (.aload_n 0, 1) := by decide +kernel
theorem dX6_init_10 : decode cX6_init 10 = .ok (.iconst 0, 1) := by decide +kernel
theorem dX6_init_11 : decode cX6_init 11 = .ok (.putfield 15, 3) := by decide +kernel
theorem dX6_init_14 : decode cX6_init 14 = .ok (.aload_n 0, 1) := by decide +kernel
theorem dX6_init_15 : decode cX6_init 15 = .ok (.iconst 0, 1) := by decide +kernel
theorem dX6_init_16 : decode cX6_init 16 = .ok (.putfield 18, 3) := by decide +kernel
theorem dX6_init_19 : decode cX6_init 19 = .ok (.aload_n 0, 1) := by decide +kernel
theorem dX6_init_20 : decode cX6_init 20 = .ok (.iconst 0, 1) := by decide +kernel
theorem dX6_init_21 : decode cX6_init 21 = .ok (.putfield 21, 3) := by decide +kernel
theorem dX6_init_24 : decode cX6_init 24 = .ok (.aload_n 0, 1) := by decide +kernel
theorem dX6_init_25 : decode cX6_init 25 = .ok (.iconst 0, 1) := by decide +kernel
theorem dX6_init_26 : decode cX6_init 26 = .ok (.putfield 24, 3) := by decide +kernel
theorem dX6_init_29 : decode cX6_init 29 = .ok (.aload_n 0, 1) := by decide +kernel
theorem dX6_init_30 : decode cX6_init 30 = .ok (.iconst 0, 1) := by decide +kernel
theorem dX6_init_31 : decode cX6_init 31 = .ok (.putfield 27, 3) := by decide +kernel
theorem dX6_init_34 : decode cX6_init 34 = .ok (.aload_n 0, 1) := by decide +kernel
theorem dX6_init_35 : decode cX6_init 35 = .ok (.bipush 6, 2) := by decide +kernel
theorem dX6_init_37 : decode cX6_init 37 = .ok (.newarray .int, 2) := by decide +kernel
theorem dX6_init_39 : decode cX6_init 39 = .ok (.putfield 30, 3) := by decide +kernel
theorem dX6_init_42 : decode cX6_init 42 = .ok (.return_, 1) := by decide +kernel
theorem dX6_empty_0 : decode cX6_empty 0 = .ok (.aload_n 0, 1) := by decide +kernel
theorem dX6_empty_1 : decode cX6_empty 1 = .ok (.getfield 9, 3) := by decide +kernel
theorem dX6_empty_4 : decode cX6_empty 4 = .ok (.istore_n 1, 1) := by decide +kernel
theorem dX6_empty_5 : decode cX6_empty 5 = .ok (.aload_n 0, 1) := by decide +kernel
theorem dX6_empty_6 : decode cX6_empty 6 = .ok (.iconst 0, 1) := by decide +kernel
theorem dX6_empty_7 : decode cX6_empty 7 = .ok (.putfield 9, 3) := by decide +kernel
theorem dX6_empty_10 : decode cX6_empty 10 = .ok (.aload_n 0, 1) := by decide +kernel
theorem dX6_empty_11 : decode cX6_empty 11 = .ok (.iconst 0, 1) := by decide +kernel
theorem dX6_empty_12 : decode cX6_empty 12 = .ok (.putfield 15, 3) := by decide +kernel
theorem dX6_empty_15 : decode cX6_empty 15 = .ok (.aload_n 0, 1) := by decide +kernel
theorem dX6_empty_16 : decode cX6_empty 16 = .ok (.iconst 0, 1) := by decide +kernel
theorem dX6_empty_17 : decode cX6_empty 17 = .ok (.putfield 18, 3) := by decide +kernel
theorem dX6_empty_20 : decode cX6_empty 20 = .ok (.iload_n 1, 1) := by decide +kernel
theorem dX6_empty_21 : decode cX6_empty 21 = .ok (.ireturn, 1) := by decide +kernel
theorem dX6_add_0 : decode cX6_add 0 = .ok (.aload_n 0, 1) := by decide +kernel
theorem dX6_add_1 : decode cX6_add 1 = .ok (.getfield 9, 3) := by decide +kernel
theorem dX6_add_4 : decode cX6_add 4 = .ok (.bipush 6, 2) := by decide +kernel
theorem dX6_add_6 : decode cX6_add 6 = .ok (.if_icmp .lt 5, 3) := by decide +kernel
theorem dX6_add_9 : decode cX6_add 9 = .ok (.iconst 0, 1) := by decide +kernel
theorem dX6_add_10 : decode cX6_add 10 = .ok (.ireturn, 1) := by decide +kernel
theorem dX6_add_11 : decode cX6_add 11 = .ok (.iload_n 2, 1) := by decide +kernel
theorem dX6_add_12 : decode cX6_add 12 = .ok (.iconst 1, 1) := by decide +kernel
theorem dX6_add_13 : decode cX6_add 13 = .ok (.if_icmp .ne 18, 3) := by decide +kernel
theorem dX6_add_16 : decode cX6_add 16 = .ok (.aload_n 0, 1) := by decide +kernel
theorem dX6_add_17 : decode cX6_add 17 = .ok (.dup, 1) := by decide +kernel
theorem dX6_add_18 : decode cX6_add 18 = .ok (.getfield 15, 3) := by decide +kernel
theorem dX6_add_21 : decode cX6_add 21 = .ok (.iconst 1, 1) := by decide +kernel
theorem dX6_add_22 : decode cX6_add 22 = .ok (.iload_n 1, 1) := by decide +kernel
theorem dX6_add_23 : decode cX6_add 23 = .ok (.ishl, 1) := by decide +kernel
theorem dX6_add_24 : decode cX6_add 24 = .ok (.ior, 1) := by decide +kernel
theorem dX6_add_25 : decode cX6_add 25 = .ok (.putfield 15, 3) := by decide +kernel
theorem dX6_add_28 : decode cX6_add 28 = .ok (.goto 15, 3) := by decide +kernel
theorem dX6_add_31 : decode cX6_add 31 = .ok (.aload_n 0, 1) := by decide +kernel
theorem dX6_add_32 : decode cX6_add 32 = .ok (.dup, 1) := by decide +kernel
theorem dX6_add_33 : decode cX6_add 33 = .ok (.getfield 18, 3) := by decide +kernel
theorem dX6_add_36 : decode cX6_add 36 = .ok (.iconst 1, 1) := by decide +kernel
theorem dX6_add_37 : decode cX6_add 37 = .ok (.iload_n 1, 1) := by decide +kernel
theorem dX6_add_38 : decode cX6_add 38 = .ok (.ishl, 1) := by decide +kernel
theorem dX6_add_39 : decode cX6_add 39 = .ok (.ior, 1) := by decide +kernel
theorem dX6_add_40 : decode cX6_add 40 = .ok (.putfield 18, 3) := by decide +kernel
theorem dX6_add_43 : decode cX6_add 43 = .ok (.aload_n 0, 1) := by decide +kernel
theorem dX6_add_44 : decode cX6_add 44 = .ok (.dup, 1) := by decide +kernel
theorem dX6_add_45 : decode cX6_add 45 = .ok (.getfield 9, 3) := by decide +kernel
theorem dX6_add_48 : decode cX6_add 48 = .ok (.iconst 1, 1) := by decide +kernel
theorem dX6_add_49 : decode cX6_add 49 = .ok (.iadd, 1) := by decide +kernel
theorem dX6_add_50 : decode cX6_add 50 = .ok (.putfield 9, 3) := by decide +kernel
theorem dX6_add_53 : decode cX6_add 53 = .ok (.iconst 1, 1) := by decide +kernel
theorem dX6_add_54 : decode cX6_add 54 = .ok (.ireturn, 1) := by decide +kernel
theorem dX6_guess_0 : decode cX6_guess 0 = .ok (.aload_n 0, 1) := by decide +kernel
theorem dX6_guess_1 : decode cX6_guess 1 = .ok (.iconst 0, 1) := by decide +kernel
theorem dX6_guess_2 : decode cX6_guess 2 = .ok (.putfield 21, 3) := by decide +kernel
theorem dX6_guess_5 : decode cX6_guess 5 = .ok (.aload_n 0, 1) := by decide +kernel
theorem dX6_guess_6 : decode cX6_guess 6 = .ok (.bipush 63, 2) := by decide +kernel
theorem dX6_guess_8 : decode cX6_guess 8 = .ok (.putfield 24, 3) := by decide +kernel
theorem dX6_guess_11 : decode cX6_guess 11 = .ok (.aload_n 0, 1) := by decide +kernel
theorem dX6_guess_12 : decode cX6_guess 12 = .ok (.iconst 0, 1) := by decide +kernel
theorem dX6_guess_13 : decode cX6_guess 13 = .ok (.putfield 27, 3) := by decide +kernel
theorem dX6_guess_16 : decode cX6_guess 16 = .ok (.iconst 0, 1) := by decide +kernel
theorem dX6_guess_17 : decode cX6_guess 17 = .ok (.istore_n 2, 1) := by decide +kernel
theorem dX6_guess_18 : decode cX6_guess 18 = .ok (.iload_n 2, 1) := by decide +kernel
theorem dX6_guess_19 : decode cX6_guess 19 = .ok (.bipush 6, 2) := by decide +kernel
theorem dX6_guess_21 : decode cX6_guess 21 = .ok (.if_icmp .ge 16, 3) := by decide +kernel
theorem dX6_guess_24 : decode cX6_guess 24 = .ok (.aload_n 0, 1) := by decide +kernel
theorem dX6_guess_25 : decode cX6_guess 25 = .ok (.getfield 30, 3) := by decide +kernel
theorem dX6_guess_28 : decode cX6_guess 28 = .ok (.iload_n 2, 1) := by decide +kernel
theorem dX6_guess_29 : decode cX6_guess 29 = .ok (.iconst 0, 1) := by decide +kernel
theorem dX6_guess_30 : decode cX6_guess 30 = .ok (.iastore, 1) := by decide +kernel
theorem dX6_guess_31 : decode cX6_guess 31 = .ok (.iinc 2 1, 3) := by decide +kernel
theorem dX6_guess_34 : decode cX6_guess 34 = .ok (.goto (-16), 3) := by decide +kernel
theorem dX6_guess_37 : decode cX6_guess 37 = .ok (.iconst 0, 1) := by decide +kernel
theorem dX6_guess_38 : decode cX6_guess 38 = .ok (.istore_n 2, 1) := by decide +kernel
theorem dX6_guess_39 : decode cX6_guess 39 = .ok (.iload_n 2, 1) := by decide +kernel
theorem dX6_guess_40 : decode cX6_guess 40 = .ok (.aload_n 1, 1) := by decide +kernel
theorem dX6_guess_41 : decode cX6_guess 41 = .ok (.getfield 34, 3) := by decide +kernel
theorem dX6_guess_44 : decode cX6_guess 44 = .ok (.if_icmp .ge 63, 3) := by decide +kernel
theorem dX6_guess_47 : decode cX6_guess 47 = .ok (.aload_n 1, 1) := by decide +kernel
theorem dX6_guess_48 : decode cX6_guess 48 = .ok (.getfield 37, 3) := by decide +kernel
theorem dX6_guess_51 : decode cX6_guess 51 = .ok (.iload_n 2, 1) := by decide +kernel
theorem dX6_guess_52 : decode cX6_guess 52 = .ok (.iaload, 1) := by decide +kernel
theorem dX6_guess_53 : decode cX6_guess 53 = .ok (.istore_n 3, 1) := by decide +kernel
theorem dX6_guess_54 : decode cX6_guess 54 = .ok (.iload_n 3, 1) := by decide +kernel
theorem dX6_guess_55 : decode cX6_guess 55 = .ok (.aload_n 0, 1) := by decide +kernel
theorem dX6_guess_56 : decode cX6_guess 56 = .ok (.getfield 15, 3) := by decide +kernel
theorem dX6_guess_59 : decode cX6_guess 59 = .ok (.iand, 1) := by decide +kernel
theorem dX6_guess_60 : decode cX6_guess 60 = .ok (.aload_n 0, 1) := by decide +kernel
theorem dX6_guess_61 : decode cX6_guess 61 = .ok (.getfield 15, 3) := by decide +kernel
theorem dX6_guess_64 : decode cX6_guess 64 = .ok (.if_icmp .ne 16, 3) := by decide +kernel
theorem dX6_guess_67 : decode cX6_guess 67 = .ok (.iload_n 3, 1) := by decide +kernel
theorem dX6_guess_68 : decode cX6_guess 68 = .ok (.aload_n 0, 1) := by decide +kernel
theorem dX6_guess_69 : decode cX6_guess 69 = .ok (.getfield 18, 3) := by decide +kernel
theorem dX6_guess_72 : decode cX6_guess 72 = .ok (.iand, 1) := by decide +kernel
theorem dX6_guess_73 : decode cX6_guess 73 = .ok (.ifCond .ne 7, 3) := by decide +kernel
theorem dX6_guess_76 : decode cX6_guess 76 = .ok (.iconst 1, 1) := by decide +kernel
theorem dX6_guess_77 : decode cX6_guess 77 = .ok (.goto 4, 3) := by decide +kernel
theorem dX6_guess_80 : decode cX6_guess 80 = .ok (.iconst 0, 1) := by decide +kernel
theorem dX6_guess_81 : decode cX6_guess 81 = .ok (.istore 4, 2) := by decide +kernel
theorem dX6_guess_83 : decode cX6_guess 83 = .ok (.iload 4, 2) := by decide +kernel
theorem dX6_guess_85 : decode cX6_guess 85 = .ok (.ifCond .eq 16, 3) := by decide +kernel
theorem dX6_guess_88 : decode cX6_guess 88 = .ok (.aload_n 1, 1) := by decide +kernel
theorem dX6_guess_89 : decode cX6_guess 89 = .ok (.iload_n 2, 1) := by decide +kernel
theorem dX6_guess_90 : decode cX6_guess 90 = .ok (.invokevirtual 40, 3) := by decide +kernel
theorem dX6_guess_93 : decode cX6_guess 93 = .ok (.ifCond .eq 8, 3) := by decide +kernel
theorem dX6_guess_96 : decode cX6_guess 96 = .ok (.aload_n 0, 1) := by decide +kernel
theorem dX6_guess_97 : decode cX6_guess 97 = .ok (.iload_n 3, 1) := by decide +kernel
theorem dX6_guess_98 : decode cX6_guess 98 = .ok (.invokevirtual 44, 3) := by decide +kernel
theorem dX6_guess_101 : decode cX6_guess 101 = .ok (.iinc 2 1, 3) := by decide +kernel
theorem dX6_guess_104 : decode cX6_guess 104 = .ok (.goto (-65), 3) := by decide +kernel
theorem dX6_guess_107 : decode cX6_guess 107 = .ok (.return_, 1) := by decide +kernel
theorem dX6_addFitting_0 : decode cX6_addFitting 0 = .ok (.aload_n 0, 1) := by decide +kernel
theorem dX6_addFitting_1 : decode cX6_addFitting 1 = .ok (.dup, 1) := by decide +kernel
theorem dX6_addFitting_2 : decode cX6_addFitting 2 = .ok (.getfield 21, 3) := by decide +kernel
theorem dX6_addFitting_5 : decode cX6_addFitting 5 = .ok (.iconst 1, 1) := by decide +kernel
theorem dX6_addFitting_6 : decode cX6_addFitting 6 = .ok (.iadd, 1) := by decide +kernel
theorem dX6_addFitting_7 : decode cX6_addFitting 7 = .ok (.putfield 21, 3) := by decide +kernel
theorem dX6_addFitting_10 : decode cX6_addFitting 10 = .ok (.aload_n 0, 1) := by decide +kernel
theorem dX6_addFitting_11 : decode cX6_addFitting 11 = .ok (.dup, 1) := by decide +kernel
theorem dX6_addFitting_12 : decode cX6_addFitting 12 = .ok (.getfield 24, 3) := by decide +kernel
theorem dX6_addFitting_15 : decode cX6_addFitting 15 = .ok (.iload_n 1, 1) := by decide +kernel
theorem dX6_addFitting_16 : decode cX6_addFitting 16 = .ok (.iand, 1) := by decide +kernel
theorem dX6_addFitting_17 : decode cX6_addFitting 17 = .ok (.putfield 24, 3) := by decide +kernel
theorem dX6_addFitting_20 : decode cX6_addFitting 20 = .ok (.aload_n 0, 1) := by decide +kernel
theorem dX6_addFitting_21 : decode cX6_addFitting 21 = .ok (.dup, 1) := by decide +kernel
theorem dX6_addFitting_22 : decode cX6_addFitting 22 = .ok (.getfield 27, 3) := by decide +kernel
theorem dX6_addFitting_25 : decode cX6_addFitting 25 = .ok (.iload_n 1, 1) := by decide +kernel
theorem dX6_addFitting_26 : decode cX6_addFitting 26 = .ok (.ior, 1) := by decide +kernel
theorem dX6_addFitting_27 : decode cX6_addFitting 27 = .ok (.putfield 27, 3) := by decide +kernel
theorem dX6_addFitting_30 : decode cX6_addFitting 30 = .ok (.iconst 0, 1) := by decide +kernel
theorem dX6_addFitting_31 : decode cX6_addFitting 31 = .ok (.istore_n 2, 1) := by decide +kernel
theorem dX6_addFitting_32 : decode cX6_addFitting 32 = .ok (.iload_n 2, 1) := by decide +kernel
theorem dX6_addFitting_33 : decode cX6_addFitting 33 = .ok (.bipush 6, 2) := by decide +kernel
theorem dX6_addFitting_35 : decode cX6_addFitting 35 = .ok (.if_icmp .ge 23, 3) := by decide +kernel
theorem dX6_addFitting_38 : decode cX6_addFitting 38 = .ok (.aload_n 0, 1) := by decide +kernel
theorem dX6_addFitting_39 : decode cX6_addFitting 39 = .ok (.getfield 30, 3) := by decide +kernel
theorem dX6_addFitting_42 : decode cX6_addFitting 42 = .ok (.iload_n 2, 1) := by decide +kernel
theorem dX6_addFitting_43 : decode cX6_addFitting 43 = .ok (.dup2, 1) := by decide +kernel
theorem dX6_addFitting_44 : decode cX6_addFitting 44 = .ok (.iaload, 1) := by decide +kernel
theorem dX6_addFitting_45 : decode cX6_addFitting 45 = .ok (.iload_n 1, 1) := by decide +kernel
theorem dX6_addFitting_46 : decode cX6_addFitting 46 = .ok (.iload_n 2, 1) := by decide +kernel
theorem dX6_addFitting_47 : decode cX6_addFitting 47 = .ok (.ishr, 1) := by decide +kernel
theorem dX6_addFitting_48 : decode cX6_addFitting 48 = .ok (.iconst 1, 1) := by decide +kernel
theorem dX6_addFitting_49 : decode cX6_addFitting 49 = .ok (.iand, 1) := by decide +kernel
theorem dX6_addFitting_50 : decode cX6_addFitting 50 = .ok (.iadd, 1) := by decide +kernel
theorem dX6_addFitting_51 : decode cX6_addFitting 51 = .ok (.iastore, 1) := by decide +kernel
theorem dX6_addFitting_52 : decode cX6_addFitting 52 = .ok (.iinc 2 1, 3) := by decide +kernel
theorem dX6_addFitting_55 : decode cX6_addFitting 55 = .ok (.goto (-23), 3) := by decide +kernel
theorem dX6_addFitting_58 : decode cX6_addFitting 58 = .ok (.return_, 1) := by decide +kernel
theorem dX7_init_0 : decode cX7_init 0 = .ok (.aload_n 0, 1) := by decide +kernel
theorem dX7_init_1 : decode cX7_init 1 = .ok (.invokespecial 3, 3) := by decide +kernel
theorem dX7_init_4 : decode cX7_init 4 = .ok (.aload_n 0, 1) := by decide +kernel
theorem dX7_init_5 : decode cX7_init 5 = .ok (.iconst 0, 1) := by decide +kernel
theorem dX7_init_6 : decode cX7_init 6 = .ok (.putfield 9, 3) := by decide +kernel
theorem dX7_init_9 : decode cX7_init 9 = .ok (.aload_n 0, 1) := by decide +kernel
theorem dX7_init_10 : decode cX7_init 10 = .ok (.bipush 120, 2) := by decide +kernel
theorem dX7_init_12 : decode cX7_init 12 = .ok (.newarray .int, 2) := by decide +kernel
theorem dX7_init_14 : decode cX7_init 14 = .ok (.putfield 15, 3) := by decide +kernel
theorem dX7_init_17 : decode cX7_init 17 = .ok (.aload_n 0, 1) := by decide +kernel
theorem dX7_init_18 : decode cX7_init 18 = .ok (.iconst 0, 1) := by decide +kernel
theorem dX7_init_19 : decode cX7_init 19 = .ok (.putfield 19, 3) := by decide +kernel
theorem dX7_init_22 : decode cX7_init 22 = .ok (.aload_n 0, 1) := by decide +kernel
theorem dX7_init_23 : decode cX7_init 23 = .ok (.iconst 0, 1) := by decide +kernel
theorem dX7_init_24 : decode cX7_init 24 = .ok (.putfield 22, 3) := by decide +kernel
theorem dX7_init_27 : decode cX7_init 27 = .ok (.aload_n 0, 1) := by decide +kernel
theorem dX7_init_28 : decode cX7_init 28 = .ok (.iconst 0, 1) := by decide +kernel
theorem dX7_init_29 : decode cX7_init 29 = .ok (.putfield 25, 3) := by decide +kernel
theorem dX7_init_32 : decode cX7_init 32 = .ok (.aload_n 0, 1) := by decide +kernel
theorem dX7_init_33 : decode cX7_init 33 = .ok (.iconst 0, 1) := by decide +kernel
theorem dX7_init_34 : decode cX7_init 34 = .ok (.putfield 28, 3) := by decide +kernel
theorem dX7_init_37 : decode cX7_init 37 = .ok (.return_, 1) := by decide +kernel
theorem dX7_add_0 : decode cX7_add 0 = .ok (.aload_n 0, 1) := by decide +kernel
theorem dX7_add_1 : decode cX7_add 1 = .ok (.getfield 9, 3) := by decide +kernel
theorem dX7_add_4 : decode cX7_add 4 = .ok (.bipush 120, 2) := by decide +kernel
theorem dX7_add_6 : decode cX7_add 6 = .ok (.if_icmp .lt 5, 3) := by decide +kernel
theorem dX7_add_9 : decode cX7_add 9 = .ok (.iconst 0, 1) := by decide +kernel
theorem dX7_add_10 : decode cX7_add 10 = .ok (.ireturn, 1) := by decide +kernel
theorem dX7_add_11 : decode cX7_add 11 = .ok (.aload_n 0, 1) := by decide +kernel
theorem dX7_add_12 : decode cX7_add 12 = .ok (.getfield 15, 3) := by decide +kernel
theorem dX7_add_15 : decode cX7_add 15 = .ok (.aload_n 0, 1) := by decide +kernel
theorem dX7_add_16 : decode cX7_add 16 = .ok (.getfield 9, 3) := by decide +kernel
theorem dX7_add_19 : decode cX7_add 19 = .ok (.iload_n 1, 1) := by decide +kernel
theorem dX7_add_20 : decode cX7_add 20 = .ok (.iastore, 1) := by decide +kernel
theorem dX7_add_21 : decode cX7_add 21 = .ok (.aload_n 0, 1) := by decide +kernel
theorem dX7_add_22 : decode cX7_add 22 = .ok (.dup, 1) := by decide +kernel
theorem dX7_add_23 : decode cX7_add 23 = .ok (.getfield 9, 3) := by decide +kernel
theorem dX7_add_26 : decode cX7_add 26 = .ok (.iconst 1, 1) := by decide +kernel
theorem dX7_add_27 : decode cX7_add 27 = .ok (.iadd, 1) := by decide +kernel
theorem dX7_add_28 : decode cX7_add 28 = .ok (.putfield 9, 3) := by decide +kernel
theorem dX7_add_31 : decode cX7_add 31 = .ok (.iconst 1, 1) := by decide +kernel
theorem dX7_add_32 : decode cX7_add 32 = .ok (.ireturn, 1) := by decide +kernel
theorem dX7_empty_0 : decode cX7_empty 0 = .ok (.aload_n 0, 1) := by decide +kernel
theorem dX7_empty_1 : decode cX7_empty 1 = .ok (.getfield 9, 3) := by decide +kernel
theorem dX7_empty_4 : decode cX7_empty 4 = .ok (.istore_n 1, 1) := by decide +kernel
theorem dX7_empty_5 : decode cX7_empty 5 = .ok (.aload_n 0, 1) := by decide +kernel
theorem dX7_empty_6 : decode cX7_empty 6 = .ok (.iconst 0, 1) := by decide +kernel
theorem dX7_empty_7 : decode cX7_empty 7 = .ok (.putfield 9, 3) := by decide +kernel
theorem dX7_empty_10 : decode cX7_empty 10 = .ok (.iload_n 1, 1) := by decide +kernel
theorem dX7_empty_11 : decode cX7_empty 11 = .ok (.ireturn, 1) := by decide +kernel
theorem dX7_read_0 : decode cX7_read 0 = .ok (.aload_n 0, 1) := by decide +kernel
theorem dX7_read_1 : decode cX7_read 1 = .ok (.iconst 0, 1) := by decide +kernel
theorem dX7_read_2 : decode cX7_read 2 = .ok (.putfield 22, 3) := by decide +kernel
theorem dX7_read_5 : decode cX7_read 5 = .ok (.aload_n 0, 1) := by decide +kernel
theorem dX7_read_6 : decode cX7_read 6 = .ok (.invokevirtual 31, 3) := by decide +kernel
theorem dX7_read_9 : decode cX7_read 9 = .ok (.iconst 0, 1) := by decide +kernel
theorem dX7_read_10 : decode cX7_read 10 = .ok (.istore_n 3, 1) := by decide +kernel
theorem dX7_read_11 : decode cX7_read 11 = .ok (.iload_n 3, 1) := by decide +kernel
theorem dX7_read_12 : decode cX7_read 12 = .ok (.bipush 120, 2) := by decide +kernel
theorem dX7_read_14 : decode cX7_read 14 = .ok (.if_icmp .ge 38, 3) := by decide +kernel
theorem dX7_read_17 : decode cX7_read 17 = .ok (.aload_n 0, 1) := by decide +kernel
theorem dX7_read_18 : decode cX7_read 18 = .ok (.getfield 25, 3) := by decide +kernel
theorem dX7_read_21 : decode cX7_read 21 = .ok (.ifCond .eq 31, 3) := by decide +kernel
theorem dX7_read_24 : decode cX7_read 24 = .ok (.aload_n 0, 1) := by decide +kernel
theorem dX7_read_25 : decode cX7_read 25 = .ok (.aload_n 1, 1) := by decide +kernel
theorem dX7_read_26 : decode cX7_read 26 = .ok (.aload_n 2, 1) := by decide +kernel
theorem dX7_read_27 : decode cX7_read 27 = .ok (.iload_n 3, 1) := by decide +kernel
theorem dX7_read_28 : decode cX7_read 28 = .ok (.invokevirtual 34, 3) := by decide +kernel
theorem dX7_read_31 : decode cX7_read 31 = .ok (.ifCond .ne 11, 3) := by decide +kernel
theorem dX7_read_34 : decode cX7_read 34 = .ok (.bipush (-10), 2) := by decide +kernel
theorem dX7_read_36 : decode cX7_read 36 = .ok (.aload_n 0, 1) := by decide +kernel
theorem dX7_read_37 : decode cX7_read 37 = .ok (.getfield 19, 3) := by decide +kernel
theorem dX7_read_40 : decode cX7_read 40 = .ok (.isub, 1) := by decide +kernel
theorem dX7_read_41 : decode cX7_read 41 = .ok (.ireturn, 1) := by decide +kernel
theorem dX7_read_42 : decode cX7_read 42 = .ok (.iinc 3 1, 3) := by decide +kernel
theorem dX7_read_45 : decode cX7_read 45 = .ok (.aload_n 0, 1) := by decide +kernel
theorem dX7_read_46 : decode cX7_read 46 = .ok (.invokevirtual 31, 3) := by decide +kernel
theorem dX7_read_49 : decode cX7_read 49 = .ok (.goto (-38), 3) := by decide +kernel
theorem dX7_read_52 : decode cX7_read 52 = .ok (.iload_n 3, 1) := by decide +kernel
theorem dX7_read_53 : decode cX7_read 53 = .ok (.ireturn, 1) := by decide +kernel
theorem dX7_readItem_0 : decode cX7_readItem 0 = .ok (.aload_n 0, 1) := by decide +kernel
theorem dX7_readItem_1 : decode cX7_readItem 1 = .ok (.getfield 25, 3) := by decide +kernel
theorem dX7_readItem_4 : decode cX7_readItem 4 = .ok (.tableswitch 93 108 110 #[46, 70, 28], 28) := by decide +kernel
theorem dX7_readItem_32 : decode cX7_readItem 32 = .ok (.iload_n 3, 1) := by decide +kernel
theorem dX7_readItem_33 : decode cX7_readItem 33 = .ok (.ifCond .ne 15, 3) := by decide +kernel
theorem dX7_readItem_36 : decode cX7_readItem 36 = .ok (.aload_n 0, 1) := by decide +kernel
theorem dX7_readItem_37 : decode cX7_readItem 37 = .ok (.aload_n 1, 1) := by decide +kernel
theorem dX7_readItem_38 : decode cX7_readItem 38 = .ok (.invokevirtual 38, 3) := by decide +kernel
theorem dX7_readItem_41 : decode cX7_readItem 41 = .ok (.ifCond .eq 7, 3) := by decide +kernel
theorem dX7_readItem_44 : decode cX7_readItem 44 = .ok (.iconst 1, 1) := by decide +kernel
theorem dX7_readItem_45 : decode cX7_readItem 45 = .ok (.goto 4, 3) := by decide +kernel
theorem dX7_readItem_48 : decode cX7_readItem 48 = .ok (.iconst 0, 1) := by decide +kernel
theorem dX7_readItem_49 : decode cX7_readItem 49 = .ok (.ireturn, 1) := by decide +kernel
theorem dX7_readItem_50 : decode cX7_readItem 50 = .ok (.aload_n 1, 1) := by decide +kernel
theorem dX7_readItem_51 : decode cX7_readItem 51 = .ok (.getfield 42, 3) := by decide +kernel
theorem dX7_readItem_54 : decode cX7_readItem 54 = .ok (.bipush 6, 2) := by decide +kernel
theorem dX7_readItem_56 : decode cX7_readItem 56 = .ok (.if_icmp .ge 16, 3) := by decide +kernel
theorem dX7_readItem_59 : decode cX7_readItem 59 = .ok (.aload_n 0, 1) := by decide +kernel
theorem dX7_readItem_60 : decode cX7_readItem 60 = .ok (.aload_n 1, 1) := by decide +kernel
theorem dX7_readItem_61 : decode cX7_readItem 61 = .ok (.aload_n 2, 1) := by decide +kernel
theorem dX7_readItem_62 : decode cX7_readItem 62 = .ok (.invokevirtual 47, 3) := by decide +kernel
theorem dX7_readItem_65 : decode cX7_readItem 65 = .ok (.ifCond .eq 7, 3) := by decide +kernel
theorem dX7_readItem_68 : decode cX7_readItem 68 = .ok (.iconst 1, 1) := by decide +kernel
theorem dX7_readItem_69 : decode cX7_readItem 69 = .ok (.goto 4, 3) := by decide +kernel
theorem dX7_readItem_72 : decode cX7_readItem 72 = .ok (.iconst 0, 1) := by decide +kernel
theorem dX7_readItem_73 : decode cX7_readItem 73 = .ok (.ireturn, 1) := by decide +kernel
theorem dX7_readItem_74 : decode cX7_readItem 74 = .ok (.aload_n 2, 1) := by decide +kernel
theorem dX7_readItem_75 : decode cX7_readItem 75 = .ok (.getfield 51, 3) := by decide +kernel
theorem dX7_readItem_78 : decode cX7_readItem 78 = .ok (.iconst 4, 1) := by decide +kernel
theorem dX7_readItem_79 : decode cX7_readItem 79 = .ok (.if_icmp .ge 16, 3) := by decide +kernel
theorem dX7_readItem_82 : decode cX7_readItem 82 = .ok (.aload_n 0, 1) := by decide +kernel
