theorem dX10_takes_10 : decode cX10_takes 10 = .ok (.ifCond .ne 13, 3) := by decide +kernel
theorem dX10_takes_13 : decode cX10_takes 13 = .ok (.aload_n 0, 1) := by decide +kernel
theorem dX10_takes_14 : decode cX10_takes 14 = .ok (.aload_n 0, 1) := by decide +kernel
theorem dX10_takes_15 : decode cX10_takes 15 = .ok (.getfield 107, 3) := by decide +kernel
theorem dX10_takes_18 : decode cX10_takes 18 = .ok (.putfield 116, 3) := by decide +kernel
theorem dX10_takes_21 : decode cX10_takes 21 = .ok (.iconst 0, 1) := by decide +kernel
theorem dX10_takes_22 : decode cX10_takes 22 = .ok (.ireturn, 1) := by decide +kernel
theorem dX10_takes_23 : decode cX10_takes 23 = .ok (.aload_n 0, 1) := by decide +kernel
theorem dX10_takes_24 : decode cX10_takes 24 = .ok (.getfield 113, 3) := by decide +kernel
theorem dX10_takes_27 : decode cX10_takes 27 = .ok (.istore_n 2, 1) := by decide +kernel
theorem dX10_takes_28 : decode cX10_takes 28 = .ok (.aload_n 0, 1) := by decide +kernel
theorem dX10_takes_29 : decode cX10_takes 29 = .ok (.invokevirtual 123, 3) := by decide +kernel
theorem dX10_takes_32 : decode cX10_takes 32 = .ok (.iload_n 2, 1) := by decide +kernel
theorem dX10_takes_33 : decode cX10_takes 33 = .ok (.ireturn, 1) := by decide +kernel
theorem dX10_number_0 : decode cX10_number 0 = .ok (.aload_n 0, 1) := by decide +kernel
theorem dX10_number_1 : decode cX10_number 1 = .ok (.aload_n 0, 1) := by decide +kernel
theorem dX10_number_2 : decode cX10_number 2 = .ok (.getfield 110, 3) := by decide +kernel
theorem dX10_number_5 : decode cX10_number 5 = .ok (.iconst 2, 1) := by decide +kernel
theorem dX10_number_6 : decode cX10_number 6 = .ok (.if_icmp .ne 19, 3) := by decide +kernel
theorem dX10_number_9 : decode cX10_number 9 = .ok (.aload_n 0, 1) := by decide +kernel
theorem dX10_number_10 : decode cX10_number 10 = .ok (.getfield 113, 3) := by decide +kernel
theorem dX10_number_13 : decode cX10_number 13 = .ok (.iload_n 1, 1) := by decide +kernel
theorem dX10_number_14 : decode cX10_number 14 = .ok (.iload_n 2, 1) := by decide +kernel
theorem dX10_number_15 : decode cX10_number 15 = .ok (.invokestatic 93, 3) := by decide +kernel
theorem dX10_number_18 : decode cX10_number 18 = .ok (.ifCond .eq 7, 3) := by decide +kernel
theorem dX10_number_21 : decode cX10_number 21 = .ok (.iconst 1, 1) := by decide +kernel
theorem dX10_number_22 : decode cX10_number 22 = .ok (.goto 4, 3) := by decide +kernel
theorem dX10_number_25 : decode cX10_number 25 = .ok (.iconst 0, 1) := by decide +kernel
theorem dX10_number_26 : decode cX10_number 26 = .ok (.invokevirtual 126, 3) := by decide +kernel
theorem dX10_number_29 : decode cX10_number 29 = .ok (.ireturn, 1) := by decide +kernel
theorem dX10_begins_0 : decode cX10_begins 0 = .ok (.aload_n 0, 1) := by decide +kernel
theorem dX10_begins_1 : decode cX10_begins 1 = .ok (.getfield 13, 3) := by decide +kernel
theorem dX10_begins_4 : decode cX10_begins 4 = .ok (.iconst 2, 1) := by decide +kernel
theorem dX10_begins_5 : decode cX10_begins 5 = .ok (.iconst 2, 1) := by decide +kernel
theorem dX10_begins_6 : decode cX10_begins 6 = .ok (.iastore, 1) := by decide +kernel
theorem dX10_begins_7 : decode cX10_begins 7 = .ok (.aload_n 0, 1) := by decide +kernel
theorem dX10_begins_8 : decode cX10_begins 8 = .ok (.getfield 13, 3) := by decide +kernel
theorem dX10_begins_11 : decode cX10_begins 11 = .ok (.iconst 3, 1) := by decide +kernel
theorem dX10_begins_12 : decode cX10_begins 12 = .ok (.iconst 0, 1) := by decide +kernel
theorem dX10_begins_13 : decode cX10_begins 13 = .ok (.iastore, 1) := by decide +kernel
theorem dX10_begins_14 : decode cX10_begins 14 = .ok (.iconst 0, 1) := by decide +kernel
theorem dX10_begins_15 : decode cX10_begins 15 = .ok (.istore_n 1, 1) := by decide +kernel
theorem dX10_begins_16 : decode cX10_begins 16 = .ok (.iload_n 1, 1) := by decide +kernel
theorem dX10_begins_17 : decode cX10_begins 17 = .ok (.bipush 38, 2) := by decide +kernel
theorem dX10_begins_19 : decode cX10_begins 19 = .ok (.if_icmp .ge 16, 3) := by decide +kernel
theorem dX10_begins_22 : decode cX10_begins 22 = .ok (.aload_n 0, 1) := by decide +kernel
theorem dX10_begins_23 : decode cX10_begins 23 = .ok (.getfield 25, 3) := by decide +kernel
theorem dX10_begins_26 : decode cX10_begins 26 = .ok (.iload_n 1, 1) := by decide +kernel
theorem dX10_begins_27 : decode cX10_begins 27 = .ok (.iconst 0, 1) := by decide +kernel
theorem dX10_begins_28 : decode cX10_begins 28 = .ok (.iastore, 1) := by decide +kernel
theorem dX10_begins_29 : decode cX10_begins 29 = .ok (.iinc 1 1, 3) := by decide +kernel
theorem dX10_begins_32 : decode cX10_begins 32 = .ok (.goto (-16), 3) := by decide +kernel
theorem dX10_begins_35 : decode cX10_begins 35 = .ok (.return_, 1) := by decide +kernel
theorem dX10_laneOf_0 : decode cX10_laneOf 0 = .ok (.iconst 0, 1) := by decide +kernel
theorem dX10_laneOf_1 : decode cX10_laneOf 1 = .ok (.istore 5, 2) := by decide +kernel
theorem dX10_laneOf_3 : decode cX10_laneOf 3 = .ok (.iload 5, 2) := by decide +kernel
theorem dX10_laneOf_5 : decode cX10_laneOf 5 = .ok (.iload_n 2, 1) := by decide +kernel
theorem dX10_laneOf_6 : decode cX10_laneOf 6 = .ok (.if_icmp .ge 60, 3) := by decide +kernel
theorem dX10_laneOf_9 : decode cX10_laneOf 9 = .ok (.aload_n 0, 1) := by decide +kernel
theorem dX10_laneOf_10 : decode cX10_laneOf 10 = .ok (.getfield 16, 3) := by decide +kernel
theorem dX10_laneOf_13 : decode cX10_laneOf 13 = .ok (.iload_n 1, 1) := by decide +kernel
theorem dX10_laneOf_14 : decode cX10_laneOf 14 = .ok (.iload 5, 2) := by decide +kernel
theorem dX10_laneOf_16 : decode cX10_laneOf 16 = .ok (.iadd, 1) := by decide +kernel
theorem dX10_laneOf_17 : decode cX10_laneOf 17 = .ok (.iaload, 1) := by decide +kernel
theorem dX10_laneOf_18 : decode cX10_laneOf 18 = .ok (.istore 6, 2) := by decide +kernel
theorem dX10_laneOf_20 : decode cX10_laneOf 20 = .ok (.aload_n 0, 1) := by decide +kernel
theorem dX10_laneOf_21 : decode cX10_laneOf 21 = .ok (.getfield 19, 3) := by decide +kernel
theorem dX10_laneOf_24 : decode cX10_laneOf 24 = .ok (.iload_n 1, 1) := by decide +kernel
theorem dX10_laneOf_25 : decode cX10_laneOf 25 = .ok (.iload 5, 2) := by decide +kernel
theorem dX10_laneOf_27 : decode cX10_laneOf 27 = .ok (.iadd, 1) := by decide +kernel
theorem dX10_laneOf_28 : decode cX10_laneOf 28 = .ok (.iaload, 1) := by decide +kernel
theorem dX10_laneOf_29 : decode cX10_laneOf 29 = .ok (.istore 7, 2) := by decide +kernel
theorem dX10_laneOf_31 : decode cX10_laneOf 31 = .ok (.iload 6, 2) := by decide +kernel
theorem dX10_laneOf_33 : decode cX10_laneOf 33 = .ok (.iload_n 3, 1) := by decide +kernel
theorem dX10_laneOf_34 : decode cX10_laneOf 34 = .ok (.if_icmp .ne 10, 3) := by decide +kernel
theorem dX10_laneOf_37 : decode cX10_laneOf 37 = .ok (.iload 7, 2) := by decide +kernel
theorem dX10_laneOf_39 : decode cX10_laneOf 39 = .ok (.iload 4, 2) := by decide +kernel
theorem dX10_laneOf_41 : decode cX10_laneOf 41 = .ok (.if_icmp .eq 16, 3) := by decide +kernel
theorem dX10_laneOf_44 : decode cX10_laneOf 44 = .ok (.iload 6, 2) := by decide +kernel
theorem dX10_laneOf_46 : decode cX10_laneOf 46 = .ok (.iload 4, 2) := by decide +kernel
theorem dX10_laneOf_48 : decode cX10_laneOf 48 = .ok (.if_icmp .ne 12, 3) := by decide +kernel
theorem dX10_laneOf_51 : decode cX10_laneOf 51 = .ok (.iload 7, 2) := by decide +kernel
theorem dX10_laneOf_53 : decode cX10_laneOf 53 = .ok (.iload_n 3, 1) := by decide +kernel
theorem dX10_laneOf_54 : decode cX10_laneOf 54 = .ok (.if_icmp .ne 6, 3) := by decide +kernel
theorem dX10_laneOf_57 : decode cX10_laneOf 57 = .ok (.iload 5, 2) := by decide +kernel
theorem dX10_laneOf_59 : decode cX10_laneOf 59 = .ok (.ireturn, 1) := by decide +kernel
theorem dX10_laneOf_60 : decode cX10_laneOf 60 = .ok (.iinc 5 1, 3) := by decide +kernel
theorem dX10_laneOf_63 : decode cX10_laneOf 63 = .ok (.goto (-60), 3) := by decide +kernel
theorem dX10_laneOf_66 : decode cX10_laneOf 66 = .ok (.bipush (-9), 2) := by decide +kernel
theorem dX10_laneOf_68 : decode cX10_laneOf 68 = .ok (.ireturn, 1) := by decide +kernel
theorem dX10_readsLane_0 : decode cX10_readsLane 0 = .ok (.aload_n 0, 1) := by decide +kernel
theorem dX10_readsLane_1 : decode cX10_readsLane 1 = .ok (.getfield 13, 3) := by decide +kernel
theorem dX10_readsLane_4 : decode cX10_readsLane 4 = .ok (.iconst 3, 1) := by decide +kernel
theorem dX10_readsLane_5 : decode cX10_readsLane 5 = .ok (.iaload, 1) := by decide +kernel
theorem dX10_readsLane_6 : decode cX10_readsLane 6 = .ok (.istore_n 1, 1) := by decide +kernel
theorem dX10_readsLane_7 : decode cX10_readsLane 7 = .ok (.aload_n 0, 1) := by decide +kernel
theorem dX10_readsLane_8 : decode cX10_readsLane 8 = .ok (.iconst 0, 1) := by decide +kernel
theorem dX10_readsLane_9 : decode cX10_readsLane 9 = .ok (.aload_n 0, 1) := by decide +kernel
theorem dX10_readsLane_10 : decode cX10_readsLane 10 = .ok (.getfield 13, 3) := by decide +kernel
theorem dX10_readsLane_13 : decode cX10_readsLane 13 = .ok (.iconst 2, 1) := by decide +kernel
theorem dX10_readsLane_14 : decode cX10_readsLane 14 = .ok (.iaload, 1) := by decide +kernel
theorem dX10_readsLane_15 : decode cX10_readsLane 15 = .ok (.iconst 1, 1) := by decide +kernel
theorem dX10_readsLane_16 : decode cX10_readsLane 16 = .ok (.isub, 1) := by decide +kernel
theorem dX10_readsLane_17 : decode cX10_readsLane 17 = .ok (.invokevirtual 130, 3) := by decide +kernel
theorem dX10_readsLane_20 : decode cX10_readsLane 20 = .ok (.istore_n 2, 1) := by decide +kernel
theorem dX10_readsLane_21 : decode cX10_readsLane 21 = .ok (.aload_n 0, 1) := by decide +kernel
theorem dX10_readsLane_22 : decode cX10_readsLane 22 = .ok (.getfield 110, 3) := by decide +kernel
theorem dX10_readsLane_25 : decode cX10_readsLane 25 = .ok (.iconst 2, 1) := by decide +kernel
theorem dX10_readsLane_26 : decode cX10_readsLane 26 = .ok (.if_icmp .ne 34, 3) := by decide +kernel
theorem dX10_readsLane_29 : decode cX10_readsLane 29 = .ok (.aload_n 0, 1) := by decide +kernel
theorem dX10_readsLane_30 : decode cX10_readsLane 30 = .ok (.getfield 113, 3) := by decide +kernel
theorem dX10_readsLane_33 : decode cX10_readsLane 33 = .ok (.iconst 0, 1) := by decide +kernel
theorem dX10_readsLane_34 : decode cX10_readsLane 34 = .ok (.aload_n 0, 1) := by decide +kernel
theorem dX10_readsLane_35 : decode cX10_readsLane 35 = .ok (.getfield 13, 3) := by decide +kernel
theorem dX10_readsLane_38 : decode cX10_readsLane 38 = .ok (.iconst 2, 1) := by decide +kernel
theorem dX10_readsLane_39 : decode cX10_readsLane 39 = .ok (.iaload, 1) := by decide +kernel
theorem dX10_readsLane_40 : decode cX10_readsLane 40 = .ok (.iconst 1, 1) := by decide +kernel
theorem dX10_readsLane_41 : decode cX10_readsLane 41 = .ok (.isub, 1) := by decide +kernel
theorem dX10_readsLane_42 : decode cX10_readsLane 42 = .ok (.invokestatic 93, 3) := by decide +kernel
theorem dX10_readsLane_45 : decode cX10_readsLane 45 = .ok (.ifCond .eq 15, 3) := by decide +kernel
theorem dX10_readsLane_48 : decode cX10_readsLane 48 = .ok (.aload_n 0, 1) := by decide +kernel
theorem dX10_readsLane_49 : decode cX10_readsLane 49 = .ok (.getfield 113, 3) := by decide +kernel
theorem dX10_readsLane_52 : decode cX10_readsLane 52 = .ok (.iload_n 2, 1) := by decide +kernel
theorem dX10_readsLane_53 : decode cX10_readsLane 53 = .ok (.if_icmp .eq 7, 3) := by decide +kernel
theorem dX10_readsLane_56 : decode cX10_readsLane 56 = .ok (.iconst 1, 1) := by decide +kernel
theorem dX10_readsLane_57 : decode cX10_readsLane 57 = .ok (.goto 4, 3) := by decide +kernel
theorem dX10_readsLane_60 : decode cX10_readsLane 60 = .ok (.iconst 0, 1) := by decide +kernel
theorem dX10_readsLane_61 : decode cX10_readsLane 61 = .ok (.istore_n 3, 1) := by decide +kernel
theorem dX10_readsLane_62 : decode cX10_readsLane 62 = .ok (.aload_n 0, 1) := by decide +kernel
theorem dX10_readsLane_63 : decode cX10_readsLane 63 = .ok (.iload_n 3, 1) := by decide +kernel
theorem dX10_readsLane_64 : decode cX10_readsLane 64 = .ok (.ifCond .eq 24, 3) := by decide +kernel
theorem dX10_readsLane_67 : decode cX10_readsLane 67 = .ok (.aload_n 0, 1) := by decide +kernel
theorem dX10_readsLane_68 : decode cX10_readsLane 68 = .ok (.bipush 6, 2) := by decide +kernel
theorem dX10_readsLane_70 : decode cX10_readsLane 70 = .ok (.iload_n 1, 1) := by decide +kernel
theorem dX10_readsLane_71 : decode cX10_readsLane 71 = .ok (.iload_n 2, 1) := by decide +kernel
theorem dX10_readsLane_72 : decode cX10_readsLane 72 = .ok (.aload_n 0, 1) := by decide +kernel
theorem dX10_readsLane_73 : decode cX10_readsLane 73 = .ok (.getfield 113, 3) := by decide +kernel
theorem dX10_readsLane_76 : decode cX10_readsLane 76 = .ok (.invokevirtual 134, 3) := by decide +kernel
theorem dX10_readsLane_79 : decode cX10_readsLane 79 = .ok (.bipush (-9), 2) := by decide +kernel
theorem dX10_readsLane_81 : decode cX10_readsLane 81 = .ok (.if_icmp .ne 7, 3) := by decide +kernel
theorem dX10_readsLane_84 : decode cX10_readsLane 84 = .ok (.iconst 1, 1) := by decide +kernel
theorem dX10_readsLane_85 : decode cX10_readsLane 85 = .ok (.goto 4, 3) := by decide +kernel
theorem dX10_readsLane_88 : decode cX10_readsLane 88 = .ok (.iconst 0, 1) := by decide +kernel
theorem dX10_readsLane_89 : decode cX10_readsLane 89 = .ok (.invokevirtual 126, 3) := by decide +kernel
theorem dX10_readsLane_92 : decode cX10_readsLane 92 = .ok (.istore 4, 2) := by decide +kernel
theorem dX10_readsLane_94 : decode cX10_readsLane 94 = .ok (.aload_n 0, 1) := by decide +kernel
theorem dX10_readsLane_95 : decode cX10_readsLane 95 = .ok (.getfield 25, 3) := by decide +kernel
theorem dX10_readsLane_98 : decode cX10_readsLane 98 = .ok (.iconst 0, 1) := by decide +kernel
theorem dX10_readsLane_99 : decode cX10_readsLane 99 = .ok (.iload_n 1, 1) := by decide +kernel
theorem dX10_readsLane_100 : decode cX10_readsLane 100 = .ok (.iadd, 1) := by decide +kernel
theorem dX10_readsLane_101 : decode cX10_readsLane 101 = .ok (.aload_n 0, 1) := by decide +kernel
theorem dX10_readsLane_102 : decode cX10_readsLane 102 = .ok (.iconst 1, 1) := by decide +kernel
theorem dX10_readsLane_103 : decode cX10_readsLane 103 = .ok (.iconst 5, 1) := by decide +kernel
theorem dX10_readsLane_104 : decode cX10_readsLane 104 = .ok (.invokevirtual 130, 3) := by decide +kernel
theorem dX10_readsLane_107 : decode cX10_readsLane 107 = .ok (.iastore, 1) := by decide +kernel
theorem dX10_readsLane_108 : decode cX10_readsLane 108 = .ok (.aload_n 0, 1) := by decide +kernel
theorem dX10_readsLane_109 : decode cX10_readsLane 109 = .ok (.getfield 22, 3) := by decide +kernel
theorem dX10_readsLane_112 : decode cX10_readsLane 112 = .ok (.bipush 6, 2) := by decide +kernel
theorem dX10_readsLane_114 : decode cX10_readsLane 114 = .ok (.iload_n 1, 1) := by decide +kernel
theorem dX10_readsLane_115 : decode cX10_readsLane 115 = .ok (.iadd, 1) := by decide +kernel
theorem dX10_readsLane_116 : decode cX10_readsLane 116 = .ok (.aload_n 0, 1) := by decide +kernel
theorem dX10_readsLane_117 : decode cX10_readsLane 117 = .ok (.iconst 1, 1) := by decide +kernel
theorem dX10_readsLane_118 : decode cX10_readsLane 118 = .ok (.bipush 9, 2) := by decide +kernel
theorem dX10_readsLane_120 : decode cX10_readsLane 120 = .ok (.invokevirtual 130, 3) := by decide +kernel
theorem dX10_readsLane_123 : decode cX10_readsLane 123 = .ok (.iastore, 1) := by decide +kernel
theorem dX10_readsLane_124 : decode cX10_readsLane 124 = .ok (.aload_n 0, 1) := by decide +kernel
theorem dX10_readsLane_125 : decode cX10_readsLane 125 = .ok (.getfield 16, 3) := by decide +kernel
theorem dX10_readsLane_128 : decode cX10_readsLane 128 = .ok (.bipush 6, 2) := by decide +kernel
theorem dX10_readsLane_130 : decode cX10_readsLane 130 = .ok (.iload_n 1, 1) := by decide +kernel
theorem dX10_readsLane_131 : decode cX10_readsLane 131 = .ok (.iadd, 1) := by decide +kernel
theorem dX10_readsLane_132 : decode cX10_readsLane 132 = .ok (.iload_n 2, 1) := by decide +kernel
theorem dX10_readsLane_133 : decode cX10_readsLane 133 = .ok (.iastore, 1) := by decide +kernel
theorem dX10_readsLane_134 : decode cX10_readsLane 134 = .ok (.aload_n 0, 1) := by decide +kernel
theorem dX10_readsLane_135 : decode cX10_readsLane 135 = .ok (.getfield 19, 3) := by decide +kernel
theorem dX10_readsLane_138 : decode cX10_readsLane 138 = .ok (.bipush 6, 2) := by decide +kernel
theorem dX10_readsLane_140 : decode cX10_readsLane 140 = .ok (.iload_n 1, 1) := by decide +kernel
theorem dX10_readsLane_141 : decode cX10_readsLane 141 = .ok (.iadd, 1) := by decide +kernel
theorem dX10_readsLane_142 : decode cX10_readsLane 142 = .ok (.iload 4, 2) := by decide +kernel
theorem dX10_readsLane_144 : decode cX10_readsLane 144 = .ok (.iastore, 1) := by decide +kernel
theorem dX10_readsLane_145 : decode cX10_readsLane 145 = .ok (.aload_n 0, 1) := by decide +kernel
theorem dX10_readsLane_146 : decode cX10_readsLane 146 = .ok (.getfield 13, 3) := by decide +kernel
theorem dX10_readsLane_149 : decode cX10_readsLane 149 = .ok (.iconst 3, 1) := by decide +kernel
theorem dX10_readsLane_150 : decode cX10_readsLane 150 = .ok (.dup2, 1) := by decide +kernel
theorem dX10_readsLane_151 : decode cX10_readsLane 151 = .ok (.iaload, 1) := by decide +kernel
theorem dX10_readsLane_152 : decode cX10_readsLane 152 = .ok (.iconst 1, 1) := by decide +kernel
theorem dX10_readsLane_153 : decode cX10_readsLane 153 = .ok (.iadd, 1) := by decide +kernel
theorem dX10_readsLane_154 : decode cX10_readsLane 154 = .ok (.iastore, 1) := by decide +kernel
theorem dX10_readsLane_155 : decode cX10_readsLane 155 = .ok (.return_, 1) := by decide +kernel
theorem dX10_canBeNext_0 : decode cX10_canBeNext 0 = .ok (.iload_n 3, 1) := by decide +kernel
theorem dX10_canBeNext_1 : decode cX10_canBeNext 1 = .ok (.ifCond .eq 30, 3) := by decide +kernel
theorem dX10_canBeNext_4 : decode cX10_canBeNext 4 = .ok (.iload_n 3, 1) := by decide +kernel
theorem dX10_canBeNext_5 : decode cX10_canBeNext 5 = .ok (.iconst 5, 1) := by decide +kernel
theorem dX10_canBeNext_6 : decode cX10_canBeNext 6 = .ok (.if_icmp .ge 29, 3) := by decide +kernel
theorem dX10_canBeNext_9 : decode cX10_canBeNext 9 = .ok (.aload_n 0, 1) := by decide +kernel
theorem dX10_canBeNext_10 : decode cX10_canBeNext 10 = .ok (.iload 5, 2) := by decide +kernel
theorem dX10_canBeNext_12 : decode cX10_canBeNext 12 = .ok (.iload 6, 2) := by decide +kernel
theorem dX10_canBeNext_14 : decode cX10_canBeNext 14 = .ok (.aload_n 1, 1) := by decide +kernel
theorem dX10_canBeNext_15 : decode cX10_canBeNext 15 = .ok (.iload_n 2, 1) := by decide +kernel
theorem dX10_canBeNext_16 : decode cX10_canBeNext 16 = .ok (.iload_n 3, 1) := by decide +kernel
theorem dX10_canBeNext_17 : decode cX10_canBeNext 17 = .ok (.iadd, 1) := by decide +kernel
theorem dX10_canBeNext_18 : decode cX10_canBeNext 18 = .ok (.iconst 1, 1) := by decide +kernel
theorem dX10_canBeNext_19 : decode cX10_canBeNext 19 = .ok (.isub, 1) := by decide +kernel
theorem dX10_canBeNext_20 : decode cX10_canBeNext 20 = .ok (.iaload, 1) := by decide +kernel
theorem dX10_canBeNext_21 : decode cX10_canBeNext 21 = .ok (.iload 4, 2) := by decide +kernel
theorem dX10_canBeNext_23 : decode cX10_canBeNext 23 = .ok (.invokevirtual 134, 3) := by decide +kernel
theorem dX10_canBeNext_26 : decode cX10_canBeNext 26 = .ok (.bipush (-9), 2) := by decide +kernel
theorem dX10_canBeNext_28 : decode cX10_canBeNext 28 = .ok (.if_icmp .eq 7, 3) := by decide +kernel
theorem dX10_canBeNext_31 : decode cX10_canBeNext 31 = .ok (.iconst 1, 1) := by decide +kernel
theorem dX10_canBeNext_32 : decode cX10_canBeNext 32 = .ok (.goto 4, 3) := by decide +kernel
theorem dX10_canBeNext_35 : decode cX10_canBeNext 35 = .ok (.iconst 0, 1) := by decide +kernel
theorem dX10_canBeNext_36 : decode cX10_canBeNext 36 = .ok (.istore 7, 2) := by decide +kernel
theorem dX10_canBeNext_38 : decode cX10_canBeNext 38 = .ok (.iconst 0, 1) := by decide +kernel
theorem dX10_canBeNext_39 : decode cX10_canBeNext 39 = .ok (.istore 8, 2) := by decide +kernel
theorem dX10_canBeNext_41 : decode cX10_canBeNext 41 = .ok (.iload 8, 2) := by decide +kernel
theorem dX10_canBeNext_43 : decode cX10_canBeNext 43 = .ok (.iload_n 3, 1) := by decide +kernel
theorem dX10_canBeNext_44 : decode cX10_canBeNext 44 = .ok (.if_icmp .ge 32, 3) := by decide +kernel
theorem dX10_canBeNext_47 : decode cX10_canBeNext 47 = .ok (.iload 7, 2) := by decide +kernel
theorem dX10_canBeNext_49 : decode cX10_canBeNext 49 = .ok (.ifCond .eq 18, 3) := by decide +kernel
theorem dX10_canBeNext_52 : decode cX10_canBeNext 52 = .ok (.aload_n 1, 1) := by decide +kernel
theorem dX10_canBeNext_53 : decode cX10_canBeNext 53 = .ok (.iload_n 2, 1) := by decide +kernel
theorem dX10_canBeNext_54 : decode cX10_canBeNext 54 = .ok (.iload 8, 2) := by decide +kernel
theorem dX10_canBeNext_56 : decode cX10_canBeNext 56 = .ok (.iadd, 1) := by decide +kernel
theorem dX10_canBeNext_57 : decode cX10_canBeNext 57 = .ok (.iaload, 1) := by decide +kernel
theorem dX10_canBeNext_58 : decode cX10_canBeNext 58 = .ok (.iload 4, 2) := by decide +kernel
theorem dX10_canBeNext_60 : decode cX10_canBeNext 60 = .ok (.if_icmp .eq 7, 3) := by decide +kernel
theorem dX10_canBeNext_63 : decode cX10_canBeNext 63 = .ok (.iconst 1, 1) := by decide +kernel
theorem dX10_canBeNext_64 : decode cX10_canBeNext 64 = .ok (.goto 4, 3) := by decide +kernel
theorem dX10_canBeNext_67 : decode cX10_canBeNext 67 = .ok (.iconst 0, 1) := by decide +kernel
theorem dX10_canBeNext_68 : decode cX10_canBeNext 68 = .ok (.istore 7, 2) := by decide +kernel
theorem dX10_canBeNext_70 : decode cX10_canBeNext 70 = .ok (.iinc 8 1, 3) := by decide +kernel
theorem dX10_canBeNext_73 : decode cX10_canBeNext 73 = .ok (.goto (-32), 3) := by decide +kernel
theorem dX10_canBeNext_76 : decode cX10_canBeNext 76 = .ok (.iload 7, 2) := by decide +kernel
theorem dX10_canBeNext_78 : decode cX10_canBeNext 78 = .ok (.ireturn, 1) := by decide +kernel
theorem dX10_readsMap_0 : decode cX10_readsMap 0 = .ok (.aload_n 0, 1) := by decide +kernel
theorem dX10_readsMap_1 : decode cX10_readsMap 1 = .ok (.getfield 25, 3) := by decide +kernel
theorem dX10_readsMap_4 : decode cX10_readsMap 4 = .ok (.bipush 6, 2) := by decide +kernel
theorem dX10_readsMap_6 : decode cX10_readsMap 6 = .ok (.iaload, 1) := by decide +kernel
theorem dX10_readsMap_7 : decode cX10_readsMap 7 = .ok (.istore_n 1, 1) := by decide +kernel
theorem dX10_readsMap_8 : decode cX10_readsMap 8 = .ok (.iconst 0, 1) := by decide +kernel
theorem dX10_readsMap_9 : decode cX10_readsMap 9 = .ok (.istore_n 2, 1) := by decide +kernel
theorem dX10_readsMap_10 : decode cX10_readsMap 10 = .ok (.aload_n 0, 1) := by decide +kernel
theorem dX10_readsMap_11 : decode cX10_readsMap 11 = .ok (.invokevirtual 119, 3) := by decide +kernel
theorem dX10_readsMap_14 : decode cX10_readsMap 14 = .ok (.ifCond .eq 122, 3) := by decide +kernel
theorem dX10_readsMap_17 : decode cX10_readsMap 17 = .ok (.iload_n 2, 1) := by decide +kernel
theorem dX10_readsMap_18 : decode cX10_readsMap 18 = .ok (.iconst 2, 1) := by decide +kernel
theorem dX10_readsMap_19 : decode cX10_readsMap 19 = .ok (.if_icmp .lt 11, 3) := by decide +kernel
theorem dX10_readsMap_22 : decode cX10_readsMap 22 = .ok (.aload_n 0, 1) := by decide +kernel
theorem dX10_readsMap_23 : decode cX10_readsMap 23 = .ok (.getfield 110, 3) := by decide +kernel
theorem dX10_readsMap_26 : decode cX10_readsMap 26 = .ok (.iconst 3, 1) := by decide +kernel
theorem dX10_readsMap_27 : decode cX10_readsMap 27 = .ok (.if_icmp .eq 109, 3) := by decide +kernel
theorem dX10_readsMap_30 : decode cX10_readsMap 30 = .ok (.aload_n 0, 1) := by decide +kernel
theorem dX10_readsMap_31 : decode cX10_readsMap 31 = .ok (.getfield 110, 3) := by decide +kernel
theorem dX10_readsMap_34 : decode cX10_readsMap 34 = .ok (.iconst 2, 1) := by decide +kernel
theorem dX10_readsMap_35 : decode cX10_readsMap 35 = .ok (.if_icmp .ne 26, 3) := by decide +kernel
theorem dX10_readsMap_38 : decode cX10_readsMap 38 = .ok (.aload_n 0, 1) := by decide +kernel
theorem dX10_readsMap_39 : decode cX10_readsMap 39 = .ok (.getfield 113, 3) := by decide +kernel
theorem dX10_readsMap_42 : decode cX10_readsMap 42 = .ok (.iconst 0, 1) := by decide +kernel
theorem dX10_readsMap_43 : decode cX10_readsMap 43 = .ok (.aload_n 0, 1) := by decide +kernel
theorem dX10_readsMap_44 : decode cX10_readsMap 44 = .ok (.getfield 13, 3) := by decide +kernel
theorem dX10_readsMap_47 : decode cX10_readsMap 47 = .ok (.iconst 2, 1) := by decide +kernel
theorem dX10_readsMap_48 : decode cX10_readsMap 48 = .ok (.iaload, 1) := by decide +kernel
theorem dX10_readsMap_49 : decode cX10_readsMap 49 = .ok (.iconst 1, 1) := by decide +kernel
theorem dX10_readsMap_50 : decode cX10_readsMap 50 = .ok (.isub, 1) := by decide +kernel
theorem dX10_readsMap_51 : decode cX10_readsMap 51 = .ok (.invokestatic 93, 3) := by decide +kernel
theorem dX10_readsMap_54 : decode cX10_readsMap 54 = .ok (.ifCond .eq 7, 3) := by decide +kernel
theorem dX10_readsMap_57 : decode cX10_readsMap 57 = .ok (.iconst 1, 1) := by decide +kernel
theorem dX10_readsMap_58 : decode cX10_readsMap 58 = .ok (.goto 4, 3) := by decide +kernel
theorem dX10_readsMap_61 : decode cX10_readsMap 61 = .ok (.iconst 0, 1) := by decide +kernel
theorem dX10_readsMap_62 : decode cX10_readsMap 62 = .ok (.istore_n 3, 1) := by decide +kernel
theorem dX10_readsMap_63 : decode cX10_readsMap 63 = .ok (.aload_n 0, 1) := by decide +kernel
theorem dX10_readsMap_64 : decode cX10_readsMap 64 = .ok (.iload_n 3, 1) := by decide +kernel
theorem dX10_readsMap_65 : decode cX10_readsMap 65 = .ok (.ifCond .eq 37, 3) := by decide +kernel
theorem dX10_readsMap_68 : decode cX10_readsMap 68 = .ok (.aload_n 0, 1) := by decide +kernel
theorem dX10_readsMap_69 : decode cX10_readsMap 69 = .ok (.aload_n 0, 1) := by decide +kernel
theorem dX10_readsMap_70 : decode cX10_readsMap 70 = .ok (.getfield 25, 3) := by decide +kernel
theorem dX10_readsMap_73 : decode cX10_readsMap 73 = .ok (.bipush 11, 2) := by decide +kernel
theorem dX10_readsMap_75 : decode cX10_readsMap 75 = .ok (.iconst 5, 1) := by decide +kernel
theorem dX10_readsMap_76 : decode cX10_readsMap 76 = .ok (.iload_n 1, 1) := by decide +kernel
theorem dX10_readsMap_77 : decode cX10_readsMap 77 = .ok (.imul, 1) := by decide +kernel
theorem dX10_readsMap_78 : decode cX10_readsMap 78 = .ok (.iadd, 1) := by decide +kernel
theorem dX10_readsMap_79 : decode cX10_readsMap 79 = .ok (.iload_n 2, 1) := by decide +kernel
theorem dX10_readsMap_80 : decode cX10_readsMap 80 = .ok (.aload_n 0, 1) := by decide +kernel
theorem dX10_readsMap_81 : decode cX10_readsMap 81 = .ok (.getfield 113, 3) := by decide +kernel
theorem dX10_readsMap_84 : decode cX10_readsMap 84 = .ok (.bipush 6, 2) := by decide +kernel
theorem dX10_readsMap_86 : decode cX10_readsMap 86 = .ok (.aload_n 0, 1) := by decide +kernel
theorem dX10_readsMap_87 : decode cX10_readsMap 87 = .ok (.getfield 13, 3) := by decide +kernel
theorem dX10_readsMap_90 : decode cX10_readsMap 90 = .ok (.iconst 3, 1) := by decide +kernel
theorem dX10_readsMap_91 : decode cX10_readsMap 91 = .ok (.iaload, 1) := by decide +kernel
theorem dX10_readsMap_92 : decode cX10_readsMap 92 = .ok (.invokevirtual 138, 3) := by decide +kernel
theorem dX10_readsMap_95 : decode cX10_readsMap 95 = .ok (.ifCond .eq 7, 3) := by decide +kernel
theorem dX10_readsMap_98 : decode cX10_readsMap 98 = .ok (.iconst 1, 1) := by decide +kernel
theorem dX10_readsMap_99 : decode cX10_readsMap 99 = .ok (.goto 4, 3) := by decide +kernel
theorem dX10_readsMap_102 : decode cX10_readsMap 102 = .ok (.iconst 0, 1) := by decide +kernel
theorem dX10_readsMap_103 : decode cX10_readsMap 103 = .ok (.invokevirtual 126, 3) := by decide +kernel
theorem dX10_readsMap_106 : decode cX10_readsMap 106 = .ok (.istore 4, 2) := by decide +kernel
theorem dX10_readsMap_108 : decode cX10_readsMap 108 = .ok (.aload_n 0, 1) := by decide +kernel
theorem dX10_readsMap_109 : decode cX10_readsMap 109 = .ok (.invokevirtual 119, 3) := by decide +kernel
theorem dX10_readsMap_112 : decode cX10_readsMap 112 = .ok (.ifCond .eq 21, 3) := by decide +kernel
theorem dX10_readsMap_115 : decode cX10_readsMap 115 = .ok (.aload_n 0, 1) := by decide +kernel
theorem dX10_readsMap_116 : decode cX10_readsMap 116 = .ok (.getfield 25, 3) := by decide +kernel
theorem dX10_readsMap_119 : decode cX10_readsMap 119 = .ok (.bipush 11, 2) := by decide +kernel
theorem dX10_readsMap_121 : decode cX10_readsMap 121 = .ok (.iconst 5, 1) := by decide +kernel
theorem dX10_readsMap_122 : decode cX10_readsMap 122 = .ok (.iload_n 1, 1) := by decide +kernel
theorem dX10_readsMap_123 : decode cX10_readsMap 123 = .ok (.imul, 1) := by decide +kernel
theorem dX10_readsMap_124 : decode cX10_readsMap 124 = .ok (.iadd, 1) := by decide +kernel
theorem dX10_readsMap_125 : decode cX10_readsMap 125 = .ok (.iload_n 2, 1) := by decide +kernel
theorem dX10_readsMap_126 : decode cX10_readsMap 126 = .ok (.iadd, 1) := by decide +kernel
theorem dX10_readsMap_127 : decode cX10_readsMap 127 = .ok (.iload 4, 2) := by decide +kernel
theorem dX10_readsMap_129 : decode cX10_readsMap 129 = .ok (.iastore, 1) := by decide +kernel
theorem dX10_readsMap_130 : decode cX10_readsMap 130 = .ok (.iinc 2 1, 3) := by decide +kernel
theorem dX10_readsMap_133 : decode cX10_readsMap 133 = .ok (.goto (-123), 3) := by decide +kernel
theorem dX10_readsMap_136 : decode cX10_readsMap 136 = .ok (.aload_n 0, 1) := by decide +kernel
theorem dX10_readsMap_137 : decode cX10_readsMap 137 = .ok (.getfield 25, 3) := by decide +kernel
theorem dX10_readsMap_140 : decode cX10_readsMap 140 = .ok (.bipush 7, 2) := by decide +kernel
theorem dX10_readsMap_142 : decode cX10_readsMap 142 = .ok (.iload_n 1, 1) := by decide +kernel
theorem dX10_readsMap_143 : decode cX10_readsMap 143 = .ok (.iadd, 1) := by decide +kernel
theorem dX10_readsMap_144 : decode cX10_readsMap 144 = .ok (.iload_n 2, 1) := by decide +kernel
theorem dX10_readsMap_145 : decode cX10_readsMap 145 = .ok (.iastore, 1) := by decide +kernel
theorem dX10_readsMap_146 : decode cX10_readsMap 146 = .ok (.aload_n 0, 1) := by decide +kernel
theorem dX10_readsMap_147 : decode cX10_readsMap 147 = .ok (.getfield 25, 3) := by decide +kernel
theorem dX10_readsMap_150 : decode cX10_readsMap 150 = .ok (.bipush 6, 2) := by decide +kernel
theorem dX10_readsMap_152 : decode cX10_readsMap 152 = .ok (.dup2, 1) := by decide +kernel
theorem dX10_readsMap_153 : decode cX10_readsMap 153 = .ok (.iaload, 1) := by decide +kernel
theorem dX10_readsMap_154 : decode cX10_readsMap 154 = .ok (.iconst 1, 1) := by decide +kernel
theorem dX10_readsMap_155 : decode cX10_readsMap 155 = .ok (.iadd, 1) := by decide +kernel
theorem dX10_readsMap_156 : decode cX10_readsMap 156 = .ok (.iastore, 1) := by decide +kernel
theorem dX10_readsMap_157 : decode cX10_readsMap 157 = .ok (.return_, 1) := by decide +kernel
theorem dX10_readsItem_0 : decode cX10_readsItem 0 = .ok (.iload_n 1, 1) := by decide +kernel
theorem dX10_readsItem_1 : decode cX10_readsItem 1 = .ok (.bipush 110, 2) := by decide +kernel
theorem dX10_readsItem_3 : decode cX10_readsItem 3 = .ok (.if_icmp .ne 18, 3) := by decide +kernel
theorem dX10_readsItem_6 : decode cX10_readsItem 6 = .ok (.aload_n 0, 1) := by decide +kernel
theorem dX10_readsItem_7 : decode cX10_readsItem 7 = .ok (.getfield 13, 3) := by decide +kernel
theorem dX10_readsItem_10 : decode cX10_readsItem 10 = .ok (.iconst 2, 1) := by decide +kernel
theorem dX10_readsItem_11 : decode cX10_readsItem 11 = .ok (.aload_n 0, 1) := by decide +kernel
theorem dX10_readsItem_12 : decode cX10_readsItem 12 = .ok (.iconst 2, 1) := by decide +kernel
theorem dX10_readsItem_13 : decode cX10_readsItem 13 = .ok (.iconst 5, 1) := by decide +kernel
theorem dX10_readsItem_14 : decode cX10_readsItem 14 = .ok (.invokevirtual 130, 3) := by decide +kernel
theorem dX10_readsItem_17 : decode cX10_readsItem 17 = .ok (.iastore, 1) := by decide +kernel
theorem dX10_readsItem_18 : decode cX10_readsItem 18 = .ok (.goto 20, 3) := by decide +kernel
theorem dX10_readsItem_21 : decode cX10_readsItem 21 = .ok (.iload_n 1, 1) := by decide +kernel
theorem dX10_readsItem_22 : decode cX10_readsItem 22 = .ok (.bipush 108, 2) := by decide +kernel
theorem dX10_readsItem_24 : decode cX10_readsItem 24 = .ok (.if_icmp .ne 10, 3) := by decide +kernel
theorem dX10_readsItem_27 : decode cX10_readsItem 27 = .ok (.aload_n 0, 1) := by decide +kernel
theorem dX10_readsItem_28 : decode cX10_readsItem 28 = .ok (.invokevirtual 142, 3) := by decide +kernel
theorem dX10_readsItem_31 : decode cX10_readsItem 31 = .ok (.goto 7, 3) := by decide +kernel
theorem dX10_readsItem_34 : decode cX10_readsItem 34 = .ok (.aload_n 0, 1) := by decide +kernel
theorem dX10_readsItem_35 : decode cX10_readsItem 35 = .ok (.invokevirtual 145, 3) := by decide +kernel
theorem dX10_readsItem_38 : decode cX10_readsItem 38 = .ok (.return_, 1) := by decide +kernel
theorem dX10_land_0 : decode cX10_land 0 = .ok (.aload_n 0, 1) := by decide +kernel
theorem dX10_land_1 : decode cX10_land 1 = .ok (.iconst 0, 1) := by decide +kernel
theorem dX10_land_2 : decode cX10_land 2 = .ok (.putfield 89, 3) := by decide +kernel
theorem dX10_land_5 : decode cX10_land 5 = .ok (.aload_n 0, 1) := by decide +kernel
theorem dX10_land_6 : decode cX10_land 6 = .ok (.iconst (-1), 1) := by decide +kernel
theorem dX10_land_7 : decode cX10_land 7 = .ok (.putfield 116, 3) := by decide +kernel
theorem dX10_land_10 : decode cX10_land 10 = .ok (.aload_n 0, 1) := by decide +kernel
theorem dX10_land_11 : decode cX10_land 11 = .ok (.iconst 0, 1) := by decide +kernel
theorem dX10_land_12 : decode cX10_land 12 = .ok (.putfield 100, 3) := by decide +kernel
theorem dX10_land_15 : decode cX10_land 15 = .ok (.aload_n 0, 1) := by decide +kernel
theorem dX10_land_16 : decode cX10_land 16 = .ok (.invokevirtual 83, 3) := by decide +kernel
theorem dX10_land_19 : decode cX10_land 19 = .ok (.iconst 0, 1) := by decide +kernel
theorem dX10_land_20 : decode cX10_land 20 = .ok (.istore_n 1, 1) := by decide +kernel
theorem dX10_land_21 : decode cX10_land 21 = .ok (.aload_n 0, 1) := by decide +kernel
theorem dX10_land_22 : decode cX10_land 22 = .ok (.invokevirtual 123, 3) := by decide +kernel
theorem dX10_land_25 : decode cX10_land 25 = .ok (.aload_n 0, 1) := by decide +kernel
theorem dX10_land_26 : decode cX10_land 26 = .ok (.invokevirtual 119, 3) := by decide +kernel
theorem dX10_land_29 : decode cX10_land 29 = .ok (.ifCond .eq 134, 3) := by decide +kernel
theorem dX10_land_32 : decode cX10_land 32 = .ok (.aload_n 0, 1) := by decide +kernel
theorem dX10_land_33 : decode cX10_land 33 = .ok (.getfield 110, 3) := by decide +kernel
theorem dX10_land_36 : decode cX10_land 36 = .ok (.ifCond .eq 127, 3) := by decide +kernel
theorem dX10_land_39 : decode cX10_land 39 = .ok (.aload_n 0, 1) := by decide +kernel
theorem dX10_land_40 : decode cX10_land 40 = .ok (.getfield 113, 3) := by decide +kernel
theorem dX10_land_43 : decode cX10_land 43 = .ok (.bipush 110, 2) := by decide +kernel
theorem dX10_land_45 : decode cX10_land 45 = .ok (.if_icmp .ne 15, 3) := by decide +kernel
theorem dX10_land_48 : decode cX10_land 48 = .ok (.iload_n 1, 1) := by decide +kernel
theorem dX10_land_49 : decode cX10_land 49 = .ok (.ifCond .ne 7, 3) := by decide +kernel
theorem dX10_land_52 : decode cX10_land 52 = .ok (.iconst 1, 1) := by decide +kernel
theorem dX10_land_53 : decode cX10_land 53 = .ok (.goto 51, 3) := by decide +kernel
theorem dX10_land_56 : decode cX10_land 56 = .ok (.iconst 0, 1) := by decide +kernel
theorem dX10_land_57 : decode cX10_land 57 = .ok (.goto 47, 3) := by decide +kernel
theorem dX10_land_60 : decode cX10_land 60 = .ok (.aload_n 0, 1) := by decide +kernel
theorem dX10_land_61 : decode cX10_land 61 = .ok (.getfield 113, 3) := by decide +kernel
theorem dX10_land_64 : decode cX10_land 64 = .ok (.bipush 108, 2) := by decide +kernel
theorem dX10_land_66 : decode cX10_land 66 = .ok (.if_icmp .ne 22, 3) := by decide +kernel
theorem dX10_land_69 : decode cX10_land 69 = .ok (.aload_n 0, 1) := by decide +kernel
theorem dX10_land_70 : decode cX10_land 70 = .ok (.getfield 13, 3) := by decide +kernel
theorem dX10_land_73 : decode cX10_land 73 = .ok (.iconst 3, 1) := by decide +kernel
theorem dX10_land_74 : decode cX10_land 74 = .ok (.iaload, 1) := by decide +kernel
theorem dX10_land_75 : decode cX10_land 75 = .ok (.bipush 6, 2) := by decide +kernel
theorem dX10_land_77 : decode cX10_land 77 = .ok (.if_icmp .ge 7, 3) := by decide +kernel
theorem dX10_land_80 : decode cX10_land 80 = .ok (.iconst 1, 1) := by decide +kernel
theorem dX10_land_81 : decode cX10_land 81 = .ok (.goto 23, 3) := by decide +kernel
theorem dX10_land_84 : decode cX10_land 84 = .ok (.iconst 0, 1) := by decide +kernel
theorem dX10_land_85 : decode cX10_land 85 = .ok (.goto 19, 3) := by decide +kernel
theorem dX10_land_88 : decode cX10_land 88 = .ok (.aload_n 0, 1) := by decide +kernel
theorem dX10_land_89 : decode cX10_land 89 = .ok (.getfield 25, 3) := by decide +kernel
theorem dX10_land_92 : decode cX10_land 92 = .ok (.bipush 6, 2) := by decide +kernel
theorem dX10_land_94 : decode cX10_land 94 = .ok (.iaload, 1) := by decide +kernel
theorem dX10_land_95 : decode cX10_land 95 = .ok (.iconst 4, 1) := by decide +kernel
theorem dX10_land_96 : decode cX10_land 96 = .ok (.if_icmp .ge 7, 3) := by decide +kernel
theorem dX10_land_99 : decode cX10_land 99 = .ok (.iconst 1, 1) := by decide +kernel
theorem dX10_land_100 : decode cX10_land 100 = .ok (.goto 4, 3) := by decide +kernel
theorem dX10_land_103 : decode cX10_land 103 = .ok (.iconst 0, 1) := by decide +kernel
theorem dX10_land_104 : decode cX10_land 104 = .ok (.istore_n 2, 1) := by decide +kernel
theorem dX10_land_105 : decode cX10_land 105 = .ok (.aload_n 0, 1) := by decide +kernel
theorem dX10_land_106 : decode cX10_land 106 = .ok (.aload_n 0, 1) := by decide +kernel
theorem dX10_land_107 : decode cX10_land 107 = .ok (.getfield 110, 3) := by decide +kernel
theorem dX10_land_110 : decode cX10_land 110 = .ok (.iconst 1, 1) := by decide +kernel
theorem dX10_land_111 : decode cX10_land 111 = .ok (.if_icmp .ne 11, 3) := by decide +kernel
theorem dX10_land_114 : decode cX10_land 114 = .ok (.iload_n 2, 1) := by decide +kernel
theorem dX10_land_115 : decode cX10_land 115 = .ok (.ifCond .eq 7, 3) := by decide +kernel
theorem dX10_land_118 : decode cX10_land 118 = .ok (.iconst 1, 1) := by decide +kernel
theorem dX10_land_119 : decode cX10_land 119 = .ok (.goto 4, 3) := by decide +kernel
theorem dX10_land_122 : decode cX10_land 122 = .ok (.iconst 0, 1) := by decide +kernel
theorem dX10_land_123 : decode cX10_land 123 = .ok (.invokevirtual 126, 3) := by decide +kernel
theorem dX10_land_126 : decode cX10_land 126 = .ok (.istore_n 3, 1) := by decide +kernel
theorem dX10_land_127 : decode cX10_land 127 = .ok (.aload_n 0, 1) := by decide +kernel
theorem dX10_land_128 : decode cX10_land 128 = .ok (.invokevirtual 119, 3) := by decide +kernel
theorem dX10_land_131 : decode cX10_land 131 = .ok (.ifCond .eq 8, 3) := by decide +kernel
theorem dX10_land_134 : decode cX10_land 134 = .ok (.aload_n 0, 1) := by decide +kernel
theorem dX10_land_135 : decode cX10_land 135 = .ok (.iload_n 3, 1) := by decide +kernel
theorem dX10_land_136 : decode cX10_land 136 = .ok (.invokevirtual 148, 3) := by decide +kernel
theorem dX10_land_139 : decode cX10_land 139 = .ok (.aload_n 0, 1) := by decide +kernel
theorem dX10_land_140 : decode cX10_land 140 = .ok (.aload_n 0, 1) := by decide +kernel
theorem dX10_land_141 : decode cX10_land 141 = .ok (.getfield 110, 3) := by decide +kernel
theorem dX10_land_144 : decode cX10_land 144 = .ok (.iconst 3, 1) := by decide +kernel
theorem dX10_land_145 : decode cX10_land 145 = .ok (.if_icmp .ne 7, 3) := by decide +kernel
theorem dX10_land_148 : decode cX10_land 148 = .ok (.iconst 1, 1) := by decide +kernel
theorem dX10_land_149 : decode cX10_land 149 = .ok (.goto 4, 3) := by decide +kernel
theorem dX10_land_152 : decode cX10_land 152 = .ok (.iconst 0, 1) := by decide +kernel
theorem dX10_land_153 : decode cX10_land 153 = .ok (.invokevirtual 126, 3) := by decide +kernel
theorem dX10_land_156 : decode cX10_land 156 = .ok (.pop, 1) := by decide +kernel
theorem dX10_land_157 : decode cX10_land 157 = .ok (.iinc 1 1, 3) := by decide +kernel
theorem dX10_land_160 : decode cX10_land 160 = .ok (.goto (-135), 3) := by decide +kernel
theorem dX10_land_163 : decode cX10_land 163 = .ok (.aload_n 0, 1) := by decide +kernel
theorem dX10_land_164 : decode cX10_land 164 = .ok (.invokevirtual 119, 3) := by decide +kernel
theorem dX10_land_167 : decode cX10_land 167 = .ok (.ifCond .ne 11, 3) := by decide +kernel
theorem dX10_land_170 : decode cX10_land 170 = .ok (.bipush (-10), 2) := by decide +kernel
theorem dX10_land_172 : decode cX10_land 172 = .ok (.aload_n 0, 1) := by decide +kernel
theorem dX10_land_173 : decode cX10_land 173 = .ok (.getfield 116, 3) := by decide +kernel
theorem dX10_land_176 : decode cX10_land 176 = .ok (.isub, 1) := by decide +kernel
theorem dX10_land_177 : decode cX10_land 177 = .ok (.ireturn, 1) := by decide +kernel
theorem dX10_land_178 : decode cX10_land 178 = .ok (.aload_n 0, 1) := by decide +kernel
theorem dX10_land_179 : decode cX10_land 179 = .ok (.invokevirtual 86, 3) := by decide +kernel
theorem dX10_land_182 : decode cX10_land 182 = .ok (.iload_n 1, 1) := by decide +kernel
theorem dX10_land_183 : decode cX10_land 183 = .ok (.ireturn, 1) := by decide +kernel
theorem dX10_settles_0 : decode cX10_settles 0 = .ok (.iconst 0, 1) := by decide +kernel
theorem dX10_settles_1 : decode cX10_settles 1 = .ok (.istore_n 1, 1) := by decide +kernel
theorem dX10_settles_2 : decode cX10_settles 2 = .ok (.iload_n 1, 1) := by decide +kernel
theorem dX10_settles_3 : decode cX10_settles 3 = .ok (.iconst 2, 1) := by decide +kernel
theorem dX10_settles_4 : decode cX10_settles 4 = .ok (.if_icmp .ge 23, 3) := by decide +kernel
theorem dX10_settles_7 : decode cX10_settles 7 = .ok (.aload_n 0, 1) := by decide +kernel
theorem dX10_settles_8 : decode cX10_settles 8 = .ok (.getfield 13, 3) := by decide +kernel
theorem dX10_settles_11 : decode cX10_settles 11 = .ok (.iload_n 1, 1) := by decide +kernel
theorem dX10_settles_12 : decode cX10_settles 12 = .ok (.aload_n 0, 1) := by decide +kernel
theorem dX10_settles_13 : decode cX10_settles 13 = .ok (.getfield 13, 3) := by decide +kernel
theorem dX10_settles_16 : decode cX10_settles 16 = .ok (.iconst 2, 1) := by decide +kernel
theorem dX10_settles_17 : decode cX10_settles 17 = .ok (.iload_n 1, 1) := by decide +kernel
theorem dX10_settles_18 : decode cX10_settles 18 = .ok (.iadd, 1) := by decide +kernel
theorem dX10_settles_19 : decode cX10_settles 19 = .ok (.iaload, 1) := by decide +kernel
theorem dX10_settles_20 : decode cX10_settles 20 = .ok (.iastore, 1) := by decide +kernel
theorem dX10_settles_21 : decode cX10_settles 21 = .ok (.iinc 1 1, 3) := by decide +kernel
theorem dX10_settles_24 : decode cX10_settles 24 = .ok (.goto (-22), 3) := by decide +kernel
theorem dX10_settles_27 : decode cX10_settles 27 = .ok (.iconst 0, 1) := by decide +kernel
theorem dX10_settles_28 : decode cX10_settles 28 = .ok (.istore_n 1, 1) := by decide +kernel
theorem dX10_settles_29 : decode cX10_settles 29 = .ok (.iload_n 1, 1) := by decide +kernel
theorem dX10_settles_30 : decode cX10_settles 30 = .ok (.bipush 6, 2) := by decide +kernel
theorem dX10_settles_32 : decode cX10_settles 32 = .ok (.if_icmp .ge 54, 3) := by decide +kernel
theorem dX10_settles_35 : decode cX10_settles 35 = .ok (.aload_n 0, 1) := by decide +kernel
theorem dX10_settles_36 : decode cX10_settles 36 = .ok (.getfield 16, 3) := by decide +kernel
theorem dX10_settles_39 : decode cX10_settles 39 = .ok (.iload_n 1, 1) := by decide +kernel
theorem dX10_settles_40 : decode cX10_settles 40 = .ok (.aload_n 0, 1) := by decide +kernel
theorem dX10_settles_41 : decode cX10_settles 41 = .ok (.getfield 16, 3) := by decide +kernel
theorem dX10_settles_44 : decode cX10_settles 44 = .ok (.bipush 6, 2) := by decide +kernel
theorem dX10_settles_46 : decode cX10_settles 46 = .ok (.iload_n 1, 1) := by decide +kernel
theorem dX10_settles_47 : decode cX10_settles 47 = .ok (.iadd, 1) := by decide +kernel
theorem dX10_settles_48 : decode cX10_settles 48 = .ok (.iaload, 1) := by decide +kernel
theorem dX10_settles_49 : decode cX10_settles 49 = .ok (.iastore, 1) := by decide +kernel
theorem dX10_settles_50 : decode cX10_settles 50 = .ok (.aload_n 0, 1) := by decide +kernel
theorem dX10_settles_51 : decode cX10_settles 51 = .ok (.getfield 19, 3) := by decide +kernel
theorem dX10_settles_54 : decode cX10_settles 54 = .ok (.iload_n 1, 1) := by decide +kernel
theorem dX10_settles_55 : decode cX10_settles 55 = .ok (.aload_n 0, 1) := by decide +kernel
theorem dX10_settles_56 : decode cX10_settles 56 = .ok (.getfield 19, 3) := by decide +kernel
theorem dX10_settles_59 : decode cX10_settles 59 = .ok (.bipush 6, 2) := by decide +kernel
theorem dX10_settles_61 : decode cX10_settles 61 = .ok (.iload_n 1, 1) := by decide +kernel
theorem dX10_settles_62 : decode cX10_settles 62 = .ok (.iadd, 1) := by decide +kernel
theorem dX10_settles_63 : decode cX10_settles 63 = .ok (.iaload, 1) := by decide +kernel
theorem dX10_settles_64 : decode cX10_settles 64 = .ok (.iastore, 1) := by decide +kernel
theorem dX10_settles_65 : decode cX10_settles 65 = .ok (.aload_n 0, 1) := by decide +kernel
theorem dX10_settles_66 : decode cX10_settles 66 = .ok (.getfield 22, 3) := by decide +kernel
theorem dX10_settles_69 : decode cX10_settles 69 = .ok (.iload_n 1, 1) := by decide +kernel
theorem dX10_settles_70 : decode cX10_settles 70 = .ok (.aload_n 0, 1) := by decide +kernel
theorem dX10_settles_71 : decode cX10_settles 71 = .ok (.getfield 22, 3) := by decide +kernel
theorem dX10_settles_74 : decode cX10_settles 74 = .ok (.bipush 6, 2) := by decide +kernel
theorem dX10_settles_76 : decode cX10_settles 76 = .ok (.iload_n 1, 1) := by decide +kernel
theorem dX10_settles_77 : decode cX10_settles 77 = .ok (.iadd, 1) := by decide +kernel
theorem dX10_settles_78 : decode cX10_settles 78 = .ok (.iaload, 1) := by decide +kernel
theorem dX10_settles_79 : decode cX10_settles 79 = .ok (.iastore, 1) := by decide +kernel
theorem dX10_settles_80 : decode cX10_settles 80 = .ok (.iinc 1 1, 3) := by decide +kernel
theorem dX10_settles_83 : decode cX10_settles 83 = .ok (.goto (-54), 3) := by decide +kernel
theorem dX10_settles_86 : decode cX10_settles 86 = .ok (.iconst 0, 1) := by decide +kernel
theorem dX10_settles_87 : decode cX10_settles 87 = .ok (.istore_n 1, 1) := by decide +kernel
theorem dX10_settles_88 : decode cX10_settles 88 = .ok (.iload_n 1, 1) := by decide +kernel
theorem dX10_settles_89 : decode cX10_settles 89 = .ok (.bipush 38, 2) := by decide +kernel
theorem dX10_settles_91 : decode cX10_settles 91 = .ok (.if_icmp .ge 21, 3) := by decide +kernel
theorem dX10_settles_94 : decode cX10_settles 94 = .ok (.aload_n 0, 1) := by decide +kernel
theorem dX10_settles_95 : decode cX10_settles 95 = .ok (.getfield 28, 3) := by decide +kernel
theorem dX10_settles_98 : decode cX10_settles 98 = .ok (.iload_n 1, 1) := by decide +kernel
theorem dX10_settles_99 : decode cX10_settles 99 = .ok (.aload_n 0, 1) := by decide +kernel
theorem dX10_settles_100 : decode cX10_settles 100 = .ok (.getfield 25, 3) := by decide +kernel
theorem dX10_settles_103 : decode cX10_settles 103 = .ok (.iload_n 1, 1) := by decide +kernel
theorem dX10_settles_104 : decode cX10_settles 104 = .ok (.iaload, 1) := by decide +kernel
theorem dX10_settles_105 : decode cX10_settles 105 = .ok (.iastore, 1) := by decide +kernel
theorem dX10_settles_106 : decode cX10_settles 106 = .ok (.iinc 1 1, 3) := by decide +kernel
theorem dX10_settles_109 : decode cX10_settles 109 = .ok (.goto (-21), 3) := by decide +kernel
theorem dX10_settles_112 : decode cX10_settles 112 = .ok (.aload_n 0, 1) := by decide +kernel
theorem dX10_settles_113 : decode cX10_settles 113 = .ok (.iconst 0, 1) := by decide +kernel
theorem dX10_settles_114 : decode cX10_settles 114 = .ok (.putfield 152, 3) := by decide +kernel
theorem dX10_settles_117 : decode cX10_settles 117 = .ok (.iconst 1, 1) := by decide +kernel
theorem dX10_settles_118 : decode cX10_settles 118 = .ok (.istore_n 1, 1) := by decide +kernel
theorem dX10_settles_119 : decode cX10_settles 119 = .ok (.iload_n 1, 1) := by decide +kernel
theorem dX10_settles_120 : decode cX10_settles 120 = .ok (.bipush 64, 2) := by decide +kernel
theorem dX10_settles_122 : decode cX10_settles 122 = .ok (.if_icmp .ge 96, 3) := by decide +kernel
theorem dX10_settles_125 : decode cX10_settles 125 = .ok (.aload_n 0, 1) := by decide +kernel
theorem dX10_settles_126 : decode cX10_settles 126 = .ok (.getfield 47, 3) := by decide +kernel
theorem dX10_settles_129 : decode cX10_settles 129 = .ok (.iload_n 1, 1) := by decide +kernel
theorem dX10_settles_130 : decode cX10_settles 130 = .ok (.iload_n 1, 1) := by decide +kernel
theorem dX10_settles_131 : decode cX10_settles 131 = .ok (.iconst 1, 1) := by decide +kernel
theorem dX10_settles_132 : decode cX10_settles 132 = .ok (.aload_n 0, 1) := by decide +kernel
theorem dX10_settles_133 : decode cX10_settles 133 = .ok (.getfield 13, 3) := by decide +kernel
theorem dX10_settles_136 : decode cX10_settles 136 = .ok (.iconst 1, 1) := by decide +kernel
theorem dX10_settles_137 : decode cX10_settles 137 = .ok (.iaload, 1) := by decide +kernel
theorem dX10_settles_138 : decode cX10_settles 138 = .ok (.ishl, 1) := by decide +kernel
theorem dX10_settles_139 : decode cX10_settles 139 = .ok (.if_icmp .ge 11, 3) := by decide +kernel
theorem dX10_settles_142 : decode cX10_settles 142 = .ok (.aload_n 0, 1) := by decide +kernel
theorem dX10_settles_143 : decode cX10_settles 143 = .ok (.iload_n 1, 1) := by decide +kernel
theorem dX10_settles_144 : decode cX10_settles 144 = .ok (.invokevirtual 155, 3) := by decide +kernel
theorem dX10_settles_147 : decode cX10_settles 147 = .ok (.goto 4, 3) := by decide +kernel
theorem dX10_settles_150 : decode cX10_settles 150 = .ok (.iconst 0, 1) := by decide +kernel
theorem dX10_settles_151 : decode cX10_settles 151 = .ok (.iastore, 1) := by decide +kernel
theorem dX10_settles_152 : decode cX10_settles 152 = .ok (.aload_n 0, 1) := by decide +kernel
theorem dX10_settles_153 : decode cX10_settles 153 = .ok (.getfield 53, 3) := by decide +kernel
theorem dX10_settles_156 : decode cX10_settles 156 = .ok (.iload_n 1, 1) := by decide +kernel
theorem dX10_settles_157 : decode cX10_settles 157 = .ok (.iload_n 1, 1) := by decide +kernel
theorem dX10_settles_158 : decode cX10_settles 158 = .ok (.iconst 1, 1) := by decide +kernel
theorem dX10_settles_159 : decode cX10_settles 159 = .ok (.iand, 1) := by decide +kernel
theorem dX10_settles_160 : decode cX10_settles 160 = .ok (.iconst 1, 1) := by decide +kernel
theorem dX10_settles_161 : decode cX10_settles 161 = .ok (.if_icmp .ne 7, 3) := by decide +kernel
theorem dX10_settles_164 : decode cX10_settles 164 = .ok (.iconst 0, 1) := by decide +kernel
theorem dX10_settles_165 : decode cX10_settles 165 = .ok (.goto 13, 3) := by decide +kernel
theorem dX10_settles_168 : decode cX10_settles 168 = .ok (.iconst 1, 1) := by decide +kernel
theorem dX10_settles_169 : decode cX10_settles 169 = .ok (.aload_n 0, 1) := by decide +kernel
theorem dX10_settles_170 : decode cX10_settles 170 = .ok (.getfield 53, 3) := by decide +kernel
theorem dX10_settles_173 : decode cX10_settles 173 = .ok (.iload_n 1, 1) := by decide +kernel
theorem dX10_settles_174 : decode cX10_settles 174 = .ok (.iconst 1, 1) := by decide +kernel
theorem dX10_settles_175 : decode cX10_settles 175 = .ok (.ishr, 1) := by decide +kernel
theorem dX10_settles_176 : decode cX10_settles 176 = .ok (.iaload, 1) := by decide +kernel
theorem dX10_settles_177 : decode cX10_settles 177 = .ok (.iadd, 1) := by decide +kernel
theorem dX10_settles_178 : decode cX10_settles 178 = .ok (.iastore, 1) := by decide +kernel
theorem dX10_settles_179 : decode cX10_settles 179 = .ok (.aload_n 0, 1) := by decide +kernel
theorem dX10_settles_180 : decode cX10_settles 180 = .ok (.getfield 56, 3) := by decide +kernel
theorem dX10_settles_183 : decode cX10_settles 183 = .ok (.aload_n 0, 1) := by decide +kernel
theorem dX10_settles_184 : decode cX10_settles 184 = .ok (.getfield 152, 3) := by decide +kernel
theorem dX10_settles_187 : decode cX10_settles 187 = .ok (.iload_n 1, 1) := by decide +kernel
theorem dX10_settles_188 : decode cX10_settles 188 = .ok (.iastore, 1) := by decide +kernel
theorem dX10_settles_189 : decode cX10_settles 189 = .ok (.aload_n 0, 1) := by decide +kernel
theorem dX10_settles_190 : decode cX10_settles 190 = .ok (.dup, 1) := by decide +kernel
theorem dX10_settles_191 : decode cX10_settles 191 = .ok (.getfield 152, 3) := by decide +kernel
theorem dX10_settles_194 : decode cX10_settles 194 = .ok (.aload_n 0, 1) := by decide +kernel
theorem dX10_settles_195 : decode cX10_settles 195 = .ok (.getfield 47, 3) := by decide +kernel
theorem dX10_settles_198 : decode cX10_settles 198 = .ok (.iload_n 1, 1) := by decide +kernel
theorem dX10_settles_199 : decode cX10_settles 199 = .ok (.iaload, 1) := by decide +kernel
theorem dX10_settles_200 : decode cX10_settles 200 = .ok (.ifCond .eq 7, 3) := by decide +kernel
theorem dX10_settles_203 : decode cX10_settles 203 = .ok (.iconst 1, 1) := by decide +kernel
theorem dX10_settles_204 : decode cX10_settles 204 = .ok (.goto 4, 3) := by decide +kernel
theorem dX10_settles_207 : decode cX10_settles 207 = .ok (.iconst 0, 1) := by decide +kernel
theorem dX10_settles_208 : decode cX10_settles 208 = .ok (.iadd, 1) := by decide +kernel
theorem dX10_settles_209 : decode cX10_settles 209 = .ok (.putfield 152, 3) := by decide +kernel
theorem dX10_settles_212 : decode cX10_settles 212 = .ok (.iinc 1 1, 3) := by decide +kernel
theorem dX10_settles_215 : decode cX10_settles 215 = .ok (.goto (-96), 3) := by decide +kernel
theorem dX10_settles_218 : decode cX10_settles 218 = .ok (.aload_n 0, 1) := by decide +kernel
theorem dX10_settles_219 : decode cX10_settles 219 = .ok (.iconst 0, 1) := by decide +kernel
theorem dX10_settles_220 : decode cX10_settles 220 = .ok (.putfield 97, 3) := by decide +kernel
theorem dX10_settles_223 : decode cX10_settles 223 = .ok (.aload_n 0, 1) := by decide +kernel
theorem dX10_settles_224 : decode cX10_settles 224 = .ok (.iconst 0, 1) := by decide +kernel
theorem dX10_settles_225 : decode cX10_settles 225 = .ok (.putfield 158, 3) := by decide +kernel
theorem dX10_settles_228 : decode cX10_settles 228 = .ok (.aload_n 0, 1) := by decide +kernel
theorem dX10_settles_229 : decode cX10_settles 229 = .ok (.iconst 0, 1) := by decide +kernel
theorem dX10_settles_230 : decode cX10_settles 230 = .ok (.putfield 161, 3) := by decide +kernel
theorem dX10_settles_233 : decode cX10_settles 233 = .ok (.aload_n 0, 1) := by decide +kernel
theorem dX10_settles_234 : decode cX10_settles 234 = .ok (.getfield 34, 3) := by decide +kernel
theorem dX10_settles_237 : decode cX10_settles 237 = .ok (.iconst 0, 1) := by decide +kernel
theorem dX10_settles_238 : decode cX10_settles 238 = .ok (.iconst 0, 1) := by decide +kernel
theorem dX10_settles_239 : decode cX10_settles 239 = .ok (.bastore, 1) := by decide +kernel
theorem dX10_settles_240 : decode cX10_settles 240 = .ok (.aload_n 0, 1) := by decide +kernel
theorem dX10_settles_241 : decode cX10_settles 241 = .ok (.getfield 34, 3) := by decide +kernel
theorem dX10_settles_244 : decode cX10_settles 244 = .ok (.iconst 1, 1) := by decide +kernel
theorem dX10_settles_245 : decode cX10_settles 245 = .ok (.iconst 0, 1) := by decide +kernel
theorem dX10_settles_246 : decode cX10_settles 246 = .ok (.bastore, 1) := by decide +kernel
theorem dX10_settles_247 : decode cX10_settles 247 = .ok (.return_, 1) := by decide +kernel
theorem dX10_endsOf_0 : decode cX10_endsOf 0 = .ok (.bipush (-9), 2) := by decide +kernel
theorem dX10_endsOf_2 : decode cX10_endsOf 2 = .ok (.istore_n 2, 1) := by decide +kernel
theorem dX10_endsOf_3 : decode cX10_endsOf 3 = .ok (.bipush (-9), 2) := by decide +kernel
theorem dX10_endsOf_5 : decode cX10_endsOf 5 = .ok (.istore_n 3, 1) := by decide +kernel
theorem dX10_endsOf_6 : decode cX10_endsOf 6 = .ok (.iload_n 1, 1) := by decide +kernel
theorem dX10_endsOf_7 : decode cX10_endsOf 7 = .ok (.ifCond .eq 7, 3) := by decide +kernel
theorem dX10_endsOf_10 : decode cX10_endsOf 10 = .ok (.iconst 1, 1) := by decide +kernel
theorem dX10_endsOf_11 : decode cX10_endsOf 11 = .ok (.goto 4, 3) := by decide +kernel
theorem dX10_endsOf_14 : decode cX10_endsOf 14 = .ok (.iconst 0, 1) := by decide +kernel
theorem dX10_endsOf_15 : decode cX10_endsOf 15 = .ok (.istore 4, 2) := by decide +kernel
theorem dX10_endsOf_17 : decode cX10_endsOf 17 = .ok (.iconst 0, 1) := by decide +kernel
theorem dX10_endsOf_18 : decode cX10_endsOf 18 = .ok (.istore 5, 2) := by decide +kernel
theorem dX10_endsOf_20 : decode cX10_endsOf 20 = .ok (.iload 5, 2) := by decide +kernel
theorem dX10_endsOf_22 : decode cX10_endsOf 22 = .ok (.iconst 5, 1) := by decide +kernel
theorem dX10_endsOf_23 : decode cX10_endsOf 23 = .ok (.if_icmp .ge 146, 3) := by decide +kernel
theorem dX10_endsOf_26 : decode cX10_endsOf 26 = .ok (.iconst 0, 1) := by decide +kernel
theorem dX10_endsOf_27 : decode cX10_endsOf 27 = .ok (.istore 6, 2) := by decide +kernel
theorem dX10_endsOf_29 : decode cX10_endsOf 29 = .ok (.iconst 0, 1) := by decide +kernel
theorem dX10_endsOf_30 : decode cX10_endsOf 30 = .ok (.istore 7, 2) := by decide +kernel
theorem dX10_endsOf_32 : decode cX10_endsOf 32 = .ok (.iload 7, 2) := by decide +kernel
theorem dX10_endsOf_34 : decode cX10_endsOf 34 = .ok (.bipush 6, 2) := by decide +kernel
theorem dX10_endsOf_36 : decode cX10_endsOf 36 = .ok (.if_icmp .ge 53, 3) := by decide +kernel
theorem dX10_endsOf_39 : decode cX10_endsOf 39 = .ok (.iload 6, 2) := by decide +kernel
theorem dX10_endsOf_41 : decode cX10_endsOf 41 = .ok (.iload_n 1, 1) := by decide +kernel
theorem dX10_endsOf_42 : decode cX10_endsOf 42 = .ok (.iload 7, 2) := by decide +kernel
theorem dX10_endsOf_44 : decode cX10_endsOf 44 = .ok (.ishr, 1) := by decide +kernel
theorem dX10_endsOf_45 : decode cX10_endsOf 45 = .ok (.iconst 1, 1) := by decide +kernel
theorem dX10_endsOf_46 : decode cX10_endsOf 46 = .ok (.iand, 1) := by decide +kernel
theorem dX10_endsOf_47 : decode cX10_endsOf 47 = .ok (.iconst 1, 1) := by decide +kernel
theorem dX10_endsOf_48 : decode cX10_endsOf 48 = .ok (.if_icmp .ne 31, 3) := by decide +kernel
theorem dX10_endsOf_51 : decode cX10_endsOf 51 = .ok (.aload_n 0, 1) := by decide +kernel
theorem dX10_endsOf_52 : decode cX10_endsOf 52 = .ok (.getfield 16, 3) := by decide +kernel
theorem dX10_endsOf_55 : decode cX10_endsOf 55 = .ok (.iload 7, 2) := by decide +kernel
theorem dX10_endsOf_57 : decode cX10_endsOf 57 = .ok (.iaload, 1) := by decide +kernel
theorem dX10_endsOf_58 : decode cX10_endsOf 58 = .ok (.iload 5, 2) := by decide +kernel
theorem dX10_endsOf_60 : decode cX10_endsOf 60 = .ok (.if_icmp .eq 15, 3) := by decide +kernel
theorem dX10_endsOf_63 : decode cX10_endsOf 63 = .ok (.aload_n 0, 1) := by decide +kernel
theorem dX10_endsOf_64 : decode cX10_endsOf 64 = .ok (.getfield 19, 3) := by decide +kernel
theorem dX10_endsOf_67 : decode cX10_endsOf 67 = .ok (.iload 7, 2) := by decide +kernel
theorem dX10_endsOf_69 : decode cX10_endsOf 69 = .ok (.iaload, 1) := by decide +kernel
theorem dX10_endsOf_70 : decode cX10_endsOf 70 = .ok (.iload 5, 2) := by decide +kernel
theorem dX10_endsOf_72 : decode cX10_endsOf 72 = .ok (.if_icmp .ne 7, 3) := by decide +kernel
theorem dX10_endsOf_75 : decode cX10_endsOf 75 = .ok (.iconst 1, 1) := by decide +kernel
theorem dX10_endsOf_76 : decode cX10_endsOf 76 = .ok (.goto 4, 3) := by decide +kernel
theorem dX10_endsOf_79 : decode cX10_endsOf 79 = .ok (.iconst 0, 1) := by decide +kernel
theorem dX10_endsOf_80 : decode cX10_endsOf 80 = .ok (.iadd, 1) := by decide +kernel
theorem dX10_endsOf_81 : decode cX10_endsOf 81 = .ok (.istore 6, 2) := by decide +kernel
theorem dX10_endsOf_83 : decode cX10_endsOf 83 = .ok (.iinc 7 1, 3) := by decide +kernel
theorem dX10_endsOf_86 : decode cX10_endsOf 86 = .ok (.goto (-54), 3) := by decide +kernel
theorem dX10_endsOf_89 : decode cX10_endsOf 89 = .ok (.iload 4, 2) := by decide +kernel
theorem dX10_endsOf_91 : decode cX10_endsOf 91 = .ok (.ifCond .eq 25, 3) := by decide +kernel
