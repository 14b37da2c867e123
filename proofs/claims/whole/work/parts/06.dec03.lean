theorem dX8_shortestBetween_43 : decode cX8_shortestBetween 43 = .ok (.invokevirtual 76, 3) := by decide +kernel
theorem dX8_shortestBetween_46 : decode cX8_shortestBetween 46 = .ok (.ifCond .eq 6, 3) := by decide +kernel
theorem dX8_shortestBetween_49 : decode cX8_shortestBetween 49 = .ok (.iinc 4 1, 3) := by decide +kernel
theorem dX8_shortestBetween_52 : decode cX8_shortestBetween 52 = .ok (.iinc 5 1, 3) := by decide +kernel
theorem dX8_shortestBetween_55 : decode cX8_shortestBetween 55 = .ok (.goto (-35), 3) := by decide +kernel
theorem dX8_shortestBetween_58 : decode cX8_shortestBetween 58 = .ok (.iload 4, 2) := by decide +kernel
theorem dX8_shortestBetween_60 : decode cX8_shortestBetween 60 = .ok (.ireturn, 1) := by decide +kernel
theorem dX8_placeAt_0 : decode cX8_placeAt 0 = .ok (.iload_n 1, 1) := by decide +kernel
theorem dX8_placeAt_1 : decode cX8_placeAt 1 = .ok (.ifCond .lt 38, 3) := by decide +kernel
theorem dX8_placeAt_4 : decode cX8_placeAt 4 = .ok (.iload_n 1, 1) := by decide +kernel
theorem dX8_placeAt_5 : decode cX8_placeAt 5 = .ok (.aload_n 0, 1) := by decide +kernel
theorem dX8_placeAt_6 : decode cX8_placeAt 6 = .ok (.getfield 9, 3) := by decide +kernel
theorem dX8_placeAt_9 : decode cX8_placeAt 9 = .ok (.if_icmp .ge 30, 3) := by decide +kernel
theorem dX8_placeAt_12 : decode cX8_placeAt 12 = .ok (.iload_n 2, 1) := by decide +kernel
theorem dX8_placeAt_13 : decode cX8_placeAt 13 = .ok (.ifCond .lt 26, 3) := by decide +kernel
theorem dX8_placeAt_16 : decode cX8_placeAt 16 = .ok (.iload_n 2, 1) := by decide +kernel
theorem dX8_placeAt_17 : decode cX8_placeAt 17 = .ok (.aload_n 0, 1) := by decide +kernel
theorem dX8_placeAt_18 : decode cX8_placeAt 18 = .ok (.getfield 19, 3) := by decide +kernel
theorem dX8_placeAt_21 : decode cX8_placeAt 21 = .ok (.iload_n 1, 1) := by decide +kernel
theorem dX8_placeAt_22 : decode cX8_placeAt 22 = .ok (.iaload, 1) := by decide +kernel
theorem dX8_placeAt_23 : decode cX8_placeAt 23 = .ok (.if_icmp .ge 16, 3) := by decide +kernel
theorem dX8_placeAt_26 : decode cX8_placeAt 26 = .ok (.aload_n 0, 1) := by decide +kernel
theorem dX8_placeAt_27 : decode cX8_placeAt 27 = .ok (.getfield 15, 3) := by decide +kernel
theorem dX8_placeAt_30 : decode cX8_placeAt 30 = .ok (.iload_n 1, 1) := by decide +kernel
theorem dX8_placeAt_31 : decode cX8_placeAt 31 = .ok (.iconst 5, 1) := by decide +kernel
theorem dX8_placeAt_32 : decode cX8_placeAt 32 = .ok (.imul, 1) := by decide +kernel
theorem dX8_placeAt_33 : decode cX8_placeAt 33 = .ok (.iload_n 2, 1) := by decide +kernel
theorem dX8_placeAt_34 : decode cX8_placeAt 34 = .ok (.iadd, 1) := by decide +kernel
theorem dX8_placeAt_35 : decode cX8_placeAt 35 = .ok (.iaload, 1) := by decide +kernel
theorem dX8_placeAt_36 : decode cX8_placeAt 36 = .ok (.goto 5, 3) := by decide +kernel
theorem dX8_placeAt_39 : decode cX8_placeAt 39 = .ok (.bipush (-9), 2) := by decide +kernel
theorem dX8_placeAt_41 : decode cX8_placeAt 41 = .ok (.ireturn, 1) := by decide +kernel
theorem dX8_wayBy_0 : decode cX8_wayBy 0 = .ok (.iconst 0, 1) := by decide +kernel
theorem dX8_wayBy_1 : decode cX8_wayBy 1 = .ok (.istore_n 2, 1) := by decide +kernel
theorem dX8_wayBy_2 : decode cX8_wayBy 2 = .ok (.iload_n 2, 1) := by decide +kernel
theorem dX8_wayBy_3 : decode cX8_wayBy 3 = .ok (.aload_n 0, 1) := by decide +kernel
theorem dX8_wayBy_4 : decode cX8_wayBy 4 = .ok (.getfield 9, 3) := by decide +kernel
theorem dX8_wayBy_7 : decode cX8_wayBy 7 = .ok (.if_icmp .ge 21, 3) := by decide +kernel
theorem dX8_wayBy_10 : decode cX8_wayBy 10 = .ok (.aload_n 0, 1) := by decide +kernel
theorem dX8_wayBy_11 : decode cX8_wayBy 11 = .ok (.getfield 25, 3) := by decide +kernel
theorem dX8_wayBy_14 : decode cX8_wayBy 14 = .ok (.iload_n 2, 1) := by decide +kernel
theorem dX8_wayBy_15 : decode cX8_wayBy 15 = .ok (.iaload, 1) := by decide +kernel
theorem dX8_wayBy_16 : decode cX8_wayBy 16 = .ok (.iload_n 1, 1) := by decide +kernel
theorem dX8_wayBy_17 : decode cX8_wayBy 17 = .ok (.if_icmp .ne 5, 3) := by decide +kernel
theorem dX8_wayBy_20 : decode cX8_wayBy 20 = .ok (.iload_n 2, 1) := by decide +kernel
theorem dX8_wayBy_21 : decode cX8_wayBy 21 = .ok (.ireturn, 1) := by decide +kernel
theorem dX8_wayBy_22 : decode cX8_wayBy 22 = .ok (.iinc 2 1, 3) := by decide +kernel
theorem dX8_wayBy_25 : decode cX8_wayBy 25 = .ok (.goto (-23), 3) := by decide +kernel
theorem dX8_wayBy_28 : decode cX8_wayBy 28 = .ok (.bipush (-9), 2) := by decide +kernel
theorem dX8_wayBy_30 : decode cX8_wayBy 30 = .ok (.ireturn, 1) := by decide +kernel
theorem dX8_bitBy_0 : decode cX8_bitBy 0 = .ok (.aload_n 0, 1) := by decide +kernel
theorem dX8_bitBy_1 : decode cX8_bitBy 1 = .ok (.iload_n 1, 1) := by decide +kernel
theorem dX8_bitBy_2 : decode cX8_bitBy 2 = .ok (.invokevirtual 80, 3) := by decide +kernel
theorem dX8_bitBy_5 : decode cX8_bitBy 5 = .ok (.istore_n 2, 1) := by decide +kernel
theorem dX8_bitBy_6 : decode cX8_bitBy 6 = .ok (.iload_n 2, 1) := by decide +kernel
theorem dX8_bitBy_7 : decode cX8_bitBy 7 = .ok (.bipush (-9), 2) := by decide +kernel
theorem dX8_bitBy_9 : decode cX8_bitBy 9 = .ok (.if_icmp .ne 7, 3) := by decide +kernel
theorem dX8_bitBy_12 : decode cX8_bitBy 12 = .ok (.lconst 0, 1) := by decide +kernel
theorem dX8_bitBy_13 : decode cX8_bitBy 13 = .ok (.goto 6, 3) := by decide +kernel
theorem dX8_bitBy_16 : decode cX8_bitBy 16 = .ok (.lconst 1, 1) := by decide +kernel
theorem dX8_bitBy_17 : decode cX8_bitBy 17 = .ok (.iload_n 2, 1) := by decide +kernel
theorem dX8_bitBy_18 : decode cX8_bitBy 18 = .ok (.lshl, 1) := by decide +kernel
theorem dX8_bitBy_19 : decode cX8_bitBy 19 = .ok (.lreturn, 1) := by decide +kernel
theorem dX9_init_0 : decode cX9_init 0 = .ok (.aload_n 0, 1) := by decide +kernel
theorem dX9_init_1 : decode cX9_init 1 = .ok (.invokespecial 3, 3) := by decide +kernel
theorem dX9_init_4 : decode cX9_init 4 = .ok (.aload_n 0, 1) := by decide +kernel
theorem dX9_init_5 : decode cX9_init 5 = .ok (.new 9, 3) := by decide +kernel
theorem dX9_init_8 : decode cX9_init 8 = .ok (.dup, 1) := by decide +kernel
theorem dX9_init_9 : decode cX9_init 9 = .ok (.invokespecial 11, 3) := by decide +kernel
theorem dX9_init_12 : decode cX9_init 12 = .ok (.putfield 12, 3) := by decide +kernel
theorem dX9_init_15 : decode cX9_init 15 = .ok (.aload_n 0, 1) := by decide +kernel
theorem dX9_init_16 : decode cX9_init 16 = .ok (.new 16, 3) := by decide +kernel
theorem dX9_init_19 : decode cX9_init 19 = .ok (.dup, 1) := by decide +kernel
theorem dX9_init_20 : decode cX9_init 20 = .ok (.invokespecial 18, 3) := by decide +kernel
theorem dX9_init_23 : decode cX9_init 23 = .ok (.putfield 19, 3) := by decide +kernel
theorem dX9_init_26 : decode cX9_init 26 = .ok (.aload_n 0, 1) := by decide +kernel
theorem dX9_init_27 : decode cX9_init 27 = .ok (.new 16, 3) := by decide +kernel
theorem dX9_init_30 : decode cX9_init 30 = .ok (.dup, 1) := by decide +kernel
theorem dX9_init_31 : decode cX9_init 31 = .ok (.invokespecial 18, 3) := by decide +kernel
theorem dX9_init_34 : decode cX9_init 34 = .ok (.putfield 23, 3) := by decide +kernel
theorem dX9_init_37 : decode cX9_init 37 = .ok (.aload_n 0, 1) := by decide +kernel
theorem dX9_init_38 : decode cX9_init 38 = .ok (.new 26, 3) := by decide +kernel
theorem dX9_init_41 : decode cX9_init 41 = .ok (.dup, 1) := by decide +kernel
theorem dX9_init_42 : decode cX9_init 42 = .ok (.invokespecial 28, 3) := by decide +kernel
theorem dX9_init_45 : decode cX9_init 45 = .ok (.putfield 29, 3) := by decide +kernel
theorem dX9_init_48 : decode cX9_init 48 = .ok (.aload_n 0, 1) := by decide +kernel
theorem dX9_init_49 : decode cX9_init 49 = .ok (.new 26, 3) := by decide +kernel
theorem dX9_init_52 : decode cX9_init 52 = .ok (.dup, 1) := by decide +kernel
theorem dX9_init_53 : decode cX9_init 53 = .ok (.invokespecial 28, 3) := by decide +kernel
theorem dX9_init_56 : decode cX9_init 56 = .ok (.putfield 33, 3) := by decide +kernel
theorem dX9_init_59 : decode cX9_init 59 = .ok (.aload_n 0, 1) := by decide +kernel
theorem dX9_init_60 : decode cX9_init 60 = .ok (.new 36, 3) := by decide +kernel
theorem dX9_init_63 : decode cX9_init 63 = .ok (.dup, 1) := by decide +kernel
theorem dX9_init_64 : decode cX9_init 64 = .ok (.invokespecial 38, 3) := by decide +kernel
theorem dX9_init_67 : decode cX9_init 67 = .ok (.putfield 39, 3) := by decide +kernel
theorem dX9_init_70 : decode cX9_init 70 = .ok (.aload_n 0, 1) := by decide +kernel
theorem dX9_init_71 : decode cX9_init 71 = .ok (.new 43, 3) := by decide +kernel
theorem dX9_init_74 : decode cX9_init 74 = .ok (.dup, 1) := by decide +kernel
theorem dX9_init_75 : decode cX9_init 75 = .ok (.invokespecial 45, 3) := by decide +kernel
theorem dX9_init_78 : decode cX9_init 78 = .ok (.putfield 46, 3) := by decide +kernel
theorem dX9_init_81 : decode cX9_init 81 = .ok (.aload_n 0, 1) := by decide +kernel
theorem dX9_init_82 : decode cX9_init 82 = .ok (.iconst 2, 1) := by decide +kernel
theorem dX9_init_83 : decode cX9_init 83 = .ok (.anewarray 26, 3) := by decide +kernel
theorem dX9_init_86 : decode cX9_init 86 = .ok (.putfield 50, 3) := by decide +kernel
theorem dX9_init_89 : decode cX9_init 89 = .ok (.aload_n 0, 1) := by decide +kernel
theorem dX9_init_90 : decode cX9_init 90 = .ok (.iconst 0, 1) := by decide +kernel
theorem dX9_init_91 : decode cX9_init 91 = .ok (.putfield 54, 3) := by decide +kernel
theorem dX9_init_94 : decode cX9_init 94 = .ok (.aload_n 0, 1) := by decide +kernel
theorem dX9_init_95 : decode cX9_init 95 = .ok (.new 58, 3) := by decide +kernel
theorem dX9_init_98 : decode cX9_init 98 = .ok (.dup, 1) := by decide +kernel
theorem dX9_init_99 : decode cX9_init 99 = .ok (.invokespecial 60, 3) := by decide +kernel
theorem dX9_init_102 : decode cX9_init 102 = .ok (.putfield 61, 3) := by decide +kernel
theorem dX9_init_105 : decode cX9_init 105 = .ok (.aload_n 0, 1) := by decide +kernel
theorem dX9_init_106 : decode cX9_init 106 = .ok (.new 65, 3) := by decide +kernel
theorem dX9_init_109 : decode cX9_init 109 = .ok (.dup, 1) := by decide +kernel
theorem dX9_init_110 : decode cX9_init 110 = .ok (.invokespecial 67, 3) := by decide +kernel
theorem dX9_init_113 : decode cX9_init 113 = .ok (.putfield 68, 3) := by decide +kernel
theorem dX9_init_116 : decode cX9_init 116 = .ok (.aload_n 0, 1) := by decide +kernel
theorem dX9_init_117 : decode cX9_init 117 = .ok (.new 72, 3) := by decide +kernel
theorem dX9_init_120 : decode cX9_init 120 = .ok (.dup, 1) := by decide +kernel
theorem dX9_init_121 : decode cX9_init 121 = .ok (.invokespecial 74, 3) := by decide +kernel
theorem dX9_init_124 : decode cX9_init 124 = .ok (.putfield 75, 3) := by decide +kernel
theorem dX9_init_127 : decode cX9_init 127 = .ok (.aload_n 0, 1) := by decide +kernel
theorem dX9_init_128 : decode cX9_init 128 = .ok (.new 79, 3) := by decide +kernel
theorem dX9_init_131 : decode cX9_init 131 = .ok (.dup, 1) := by decide +kernel
theorem dX9_init_132 : decode cX9_init 132 = .ok (.invokespecial 81, 3) := by decide +kernel
theorem dX9_init_135 : decode cX9_init 135 = .ok (.putfield 82, 3) := by decide +kernel
theorem dX9_init_138 : decode cX9_init 138 = .ok (.aload_n 0, 1) := by decide +kernel
theorem dX9_init_139 : decode cX9_init 139 = .ok (.lconst 0, 1) := by decide +kernel
theorem dX9_init_140 : decode cX9_init 140 = .ok (.putfield 86, 3) := by decide +kernel
theorem dX9_init_143 : decode cX9_init 143 = .ok (.iconst 0, 1) := by decide +kernel
theorem dX9_init_144 : decode cX9_init 144 = .ok (.istore_n 1, 1) := by decide +kernel
theorem dX9_init_145 : decode cX9_init 145 = .ok (.iload_n 1, 1) := by decide +kernel
theorem dX9_init_146 : decode cX9_init 146 = .ok (.iconst 2, 1) := by decide +kernel
theorem dX9_init_147 : decode cX9_init 147 = .ok (.if_icmp .ge 22, 3) := by decide +kernel
theorem dX9_init_150 : decode cX9_init 150 = .ok (.aload_n 0, 1) := by decide +kernel
theorem dX9_init_151 : decode cX9_init 151 = .ok (.getfield 50, 3) := by decide +kernel
theorem dX9_init_154 : decode cX9_init 154 = .ok (.iload_n 1, 1) := by decide +kernel
theorem dX9_init_155 : decode cX9_init 155 = .ok (.new 26, 3) := by decide +kernel
theorem dX9_init_158 : decode cX9_init 158 = .ok (.dup, 1) := by decide +kernel
theorem dX9_init_159 : decode cX9_init 159 = .ok (.invokespecial 28, 3) := by decide +kernel
theorem dX9_init_162 : decode cX9_init 162 = .ok (.aastore, 1) := by decide +kernel
theorem dX9_init_163 : decode cX9_init 163 = .ok (.iinc 1 1, 3) := by decide +kernel
theorem dX9_init_166 : decode cX9_init 166 = .ok (.goto (-21), 3) := by decide +kernel
theorem dX9_init_169 : decode cX9_init 169 = .ok (.return_, 1) := by decide +kernel
theorem dX9_type_0 : decode cX9_type 0 = .ok (.iload_n 1, 1) := by decide +kernel
theorem dX9_type_1 : decode cX9_type 1 = .ok (.ifCond .lt 10, 3) := by decide +kernel
theorem dX9_type_4 : decode cX9_type 4 = .ok (.iload_n 1, 1) := by decide +kernel
theorem dX9_type_5 : decode cX9_type 5 = .ok (.sipush 255, 3) := by decide +kernel
theorem dX9_type_8 : decode cX9_type 8 = .ok (.if_icmp .le 5, 3) := by decide +kernel
theorem dX9_type_11 : decode cX9_type 11 = .ok (.iconst (-1), 1) := by decide +kernel
theorem dX9_type_12 : decode cX9_type 12 = .ok (.ireturn, 1) := by decide +kernel
theorem dX9_type_13 : decode cX9_type 13 = .ok (.aload_n 0, 1) := by decide +kernel
theorem dX9_type_14 : decode cX9_type 14 = .ok (.getfield 12, 3) := by decide +kernel
theorem dX9_type_17 : decode cX9_type 17 = .ok (.iload_n 1, 1) := by decide +kernel
theorem dX9_type_18 : decode cX9_type 18 = .ok (.invokevirtual 90, 3) := by decide +kernel
theorem dX9_type_21 : decode cX9_type 21 = .ok (.ifCond .eq 13, 3) := by decide +kernel
theorem dX9_type_24 : decode cX9_type 24 = .ok (.aload_n 0, 1) := by decide +kernel
theorem dX9_type_25 : decode cX9_type 25 = .ok (.getfield 12, 3) := by decide +kernel
theorem dX9_type_28 : decode cX9_type 28 = .ok (.getfield 94, 3) := by decide +kernel
theorem dX9_type_31 : decode cX9_type 31 = .ok (.goto 5, 3) := by decide +kernel
theorem dX9_type_34 : decode cX9_type 34 = .ok (.bipush (-3), 2) := by decide +kernel
theorem dX9_type_36 : decode cX9_type 36 = .ok (.ireturn, 1) := by decide +kernel
theorem dX9_clear_0 : decode cX9_clear 0 = .ok (.aload_n 0, 1) := by decide +kernel
theorem dX9_clear_1 : decode cX9_clear 1 = .ok (.getfield 12, 3) := by decide +kernel
theorem dX9_clear_4 : decode cX9_clear 4 = .ok (.invokevirtual 97, 3) := by decide +kernel
theorem dX9_clear_7 : decode cX9_clear 7 = .ok (.ireturn, 1) := by decide +kernel
theorem dX9_land_0 : decode cX9_land 0 = .ok (.aload_n 0, 1) := by decide +kernel
theorem dX9_land_1 : decode cX9_land 1 = .ok (.getfield 23, 3) := by decide +kernel
theorem dX9_land_4 : decode cX9_land 4 = .ok (.invokevirtual 101, 3) := by decide +kernel
theorem dX9_land_7 : decode cX9_land 7 = .ok (.aload_n 0, 1) := by decide +kernel
theorem dX9_land_8 : decode cX9_land 8 = .ok (.getfield 33, 3) := by decide +kernel
theorem dX9_land_11 : decode cX9_land 11 = .ok (.invokevirtual 103, 3) := by decide +kernel
theorem dX9_land_14 : decode cX9_land 14 = .ok (.aload_n 0, 1) := by decide +kernel
theorem dX9_land_15 : decode cX9_land 15 = .ok (.getfield 12, 3) := by decide +kernel
theorem dX9_land_18 : decode cX9_land 18 = .ok (.aload_n 0, 1) := by decide +kernel
theorem dX9_land_19 : decode cX9_land 19 = .ok (.getfield 23, 3) := by decide +kernel
theorem dX9_land_22 : decode cX9_land 22 = .ok (.aload_n 0, 1) := by decide +kernel
theorem dX9_land_23 : decode cX9_land 23 = .ok (.getfield 33, 3) := by decide +kernel
theorem dX9_land_26 : decode cX9_land 26 = .ok (.invokevirtual 104, 3) := by decide +kernel
theorem dX9_land_29 : decode cX9_land 29 = .ok (.istore_n 1, 1) := by decide +kernel
theorem dX9_land_30 : decode cX9_land 30 = .ok (.iload_n 1, 1) := by decide +kernel
theorem dX9_land_31 : decode cX9_land 31 = .ok (.ifCond .ge 5, 3) := by decide +kernel
theorem dX9_land_34 : decode cX9_land 34 = .ok (.iload_n 1, 1) := by decide +kernel
theorem dX9_land_35 : decode cX9_land 35 = .ok (.ireturn, 1) := by decide +kernel
theorem dX9_land_36 : decode cX9_land 36 = .ok (.aload_n 0, 1) := by decide +kernel
theorem dX9_land_37 : decode cX9_land 37 = .ok (.getfield 12, 3) := by decide +kernel
theorem dX9_land_40 : decode cX9_land 40 = .ok (.invokevirtual 97, 3) := by decide +kernel
theorem dX9_land_43 : decode cX9_land 43 = .ok (.pop, 1) := by decide +kernel
theorem dX9_land_44 : decode cX9_land 44 = .ok (.aload_n 0, 1) := by decide +kernel
theorem dX9_land_45 : decode cX9_land 45 = .ok (.getfield 19, 3) := by decide +kernel
theorem dX9_land_48 : decode cX9_land 48 = .ok (.astore_n 2, 1) := by decide +kernel
theorem dX9_land_49 : decode cX9_land 49 = .ok (.aload_n 0, 1) := by decide +kernel
theorem dX9_land_50 : decode cX9_land 50 = .ok (.aload_n 0, 1) := by decide +kernel
theorem dX9_land_51 : decode cX9_land 51 = .ok (.getfield 23, 3) := by decide +kernel
theorem dX9_land_54 : decode cX9_land 54 = .ok (.putfield 19, 3) := by decide +kernel
theorem dX9_land_57 : decode cX9_land 57 = .ok (.aload_n 0, 1) := by decide +kernel
theorem dX9_land_58 : decode cX9_land 58 = .ok (.aload_n 2, 1) := by decide +kernel
theorem dX9_land_59 : decode cX9_land 59 = .ok (.putfield 23, 3) := by decide +kernel
theorem dX9_land_62 : decode cX9_land 62 = .ok (.aload_n 0, 1) := by decide +kernel
theorem dX9_land_63 : decode cX9_land 63 = .ok (.getfield 39, 3) := by decide +kernel
theorem dX9_land_66 : decode cX9_land 66 = .ok (.aload_n 0, 1) := by decide +kernel
theorem dX9_land_67 : decode cX9_land 67 = .ok (.getfield 19, 3) := by decide +kernel
theorem dX9_land_70 : decode cX9_land 70 = .ok (.invokevirtual 108, 3) := by decide +kernel
theorem dX9_land_73 : decode cX9_land 73 = .ok (.aload_n 0, 1) := by decide +kernel
theorem dX9_land_74 : decode cX9_land 74 = .ok (.getfield 29, 3) := by decide +kernel
theorem dX9_land_77 : decode cX9_land 77 = .ok (.aload_n 0, 1) := by decide +kernel
theorem dX9_land_78 : decode cX9_land 78 = .ok (.getfield 33, 3) := by decide +kernel
theorem dX9_land_81 : decode cX9_land 81 = .ok (.invokevirtual 112, 3) := by decide +kernel
theorem dX9_land_84 : decode cX9_land 84 = .ok (.aload_n 0, 1) := by decide +kernel
theorem dX9_land_85 : decode cX9_land 85 = .ok (.getfield 46, 3) := by decide +kernel
theorem dX9_land_88 : decode cX9_land 88 = .ok (.invokevirtual 116, 3) := by decide +kernel
theorem dX9_land_91 : decode cX9_land 91 = .ok (.aload_n 0, 1) := by decide +kernel
theorem dX9_land_92 : decode cX9_land 92 = .ok (.iconst 0, 1) := by decide +kernel
theorem dX9_land_93 : decode cX9_land 93 = .ok (.putfield 54, 3) := by decide +kernel
theorem dX9_land_96 : decode cX9_land 96 = .ok (.aload_n 0, 1) := by decide +kernel
theorem dX9_land_97 : decode cX9_land 97 = .ok (.getfield 82, 3) := by decide +kernel
theorem dX9_land_100 : decode cX9_land 100 = .ok (.invokevirtual 117, 3) := by decide +kernel
theorem dX9_land_103 : decode cX9_land 103 = .ok (.pop, 1) := by decide +kernel
theorem dX9_land_104 : decode cX9_land 104 = .ok (.aload_n 0, 1) := by decide +kernel
theorem dX9_land_105 : decode cX9_land 105 = .ok (.invokevirtual 118, 3) := by decide +kernel
theorem dX9_land_108 : decode cX9_land 108 = .ok (.iload_n 1, 1) := by decide +kernel
theorem dX9_land_109 : decode cX9_land 109 = .ok (.ireturn, 1) := by decide +kernel
theorem dX9_lane_0 : decode cX9_lane 0 = .ok (.aload_n 0, 1) := by decide +kernel
theorem dX9_lane_1 : decode cX9_lane 1 = .ok (.iload_n 1, 1) := by decide +kernel
theorem dX9_lane_2 : decode cX9_lane 2 = .ok (.invokevirtual 121, 3) := by decide +kernel
theorem dX9_lane_5 : decode cX9_lane 5 = .ok (.ifCond .ne 5, 3) := by decide +kernel
theorem dX9_lane_8 : decode cX9_lane 8 = .ok (.iconst (-1), 1) := by decide +kernel
theorem dX9_lane_9 : decode cX9_lane 9 = .ok (.ireturn, 1) := by decide +kernel
theorem dX9_lane_10 : decode cX9_lane 10 = .ok (.iload_n 2, 1) := by decide +kernel
theorem dX9_lane_11 : decode cX9_lane 11 = .ok (.tableswitch 79 0 4 #[33, 43, 53, 63, 73], 33) := by decide +kernel
theorem dX9_lane_44 : decode cX9_lane 44 = .ok (.aload_n 0, 1) := by decide +kernel
theorem dX9_lane_45 : decode cX9_lane 45 = .ok (.getfield 19, 3) := by decide +kernel
theorem dX9_lane_48 : decode cX9_lane 48 = .ok (.getfield 124, 3) := by decide +kernel
theorem dX9_lane_51 : decode cX9_lane 51 = .ok (.iload_n 1, 1) := by decide +kernel
theorem dX9_lane_52 : decode cX9_lane 52 = .ok (.iaload, 1) := by decide +kernel
theorem dX9_lane_53 : decode cX9_lane 53 = .ok (.ireturn, 1) := by decide +kernel
theorem dX9_lane_54 : decode cX9_lane 54 = .ok (.aload_n 0, 1) := by decide +kernel
theorem dX9_lane_55 : decode cX9_lane 55 = .ok (.getfield 19, 3) := by decide +kernel
theorem dX9_lane_58 : decode cX9_lane 58 = .ok (.getfield 128, 3) := by decide +kernel
theorem dX9_lane_61 : decode cX9_lane 61 = .ok (.iload_n 1, 1) := by decide +kernel
theorem dX9_lane_62 : decode cX9_lane 62 = .ok (.iaload, 1) := by decide +kernel
theorem dX9_lane_63 : decode cX9_lane 63 = .ok (.ireturn, 1) := by decide +kernel
theorem dX9_lane_64 : decode cX9_lane 64 = .ok (.aload_n 0, 1) := by decide +kernel
theorem dX9_lane_65 : decode cX9_lane 65 = .ok (.getfield 29, 3) := by decide +kernel
theorem dX9_lane_68 : decode cX9_lane 68 = .ok (.getfield 131, 3) := by decide +kernel
theorem dX9_lane_71 : decode cX9_lane 71 = .ok (.iload_n 1, 1) := by decide +kernel
theorem dX9_lane_72 : decode cX9_lane 72 = .ok (.iaload, 1) := by decide +kernel
theorem dX9_lane_73 : decode cX9_lane 73 = .ok (.ireturn, 1) := by decide +kernel
theorem dX9_lane_74 : decode cX9_lane 74 = .ok (.aload_n 0, 1) := by decide +kernel
theorem dX9_lane_75 : decode cX9_lane 75 = .ok (.getfield 19, 3) := by decide +kernel
theorem dX9_lane_78 : decode cX9_lane 78 = .ok (.getfield 134, 3) := by decide +kernel
theorem dX9_lane_81 : decode cX9_lane 81 = .ok (.iload_n 1, 1) := by decide +kernel
theorem dX9_lane_82 : decode cX9_lane 82 = .ok (.iaload, 1) := by decide +kernel
theorem dX9_lane_83 : decode cX9_lane 83 = .ok (.ireturn, 1) := by decide +kernel
theorem dX9_lane_84 : decode cX9_lane 84 = .ok (.aload_n 0, 1) := by decide +kernel
theorem dX9_lane_85 : decode cX9_lane 85 = .ok (.iload_n 1, 1) := by decide +kernel
theorem dX9_lane_86 : decode cX9_lane 86 = .ok (.invokevirtual 137, 3) := by decide +kernel
theorem dX9_lane_89 : decode cX9_lane 89 = .ok (.ireturn, 1) := by decide +kernel
theorem dX9_lane_90 : decode cX9_lane 90 = .ok (.iconst (-1), 1) := by decide +kernel
theorem dX9_lane_91 : decode cX9_lane 91 = .ok (.ireturn, 1) := by decide +kernel
theorem dX9_map_0 : decode cX9_map 0 = .ok (.aload_n 0, 1) := by decide +kernel
theorem dX9_map_1 : decode cX9_map 1 = .ok (.iload_n 1, 1) := by decide +kernel
theorem dX9_map_2 : decode cX9_map 2 = .ok (.invokevirtual 141, 3) := by decide +kernel
theorem dX9_map_5 : decode cX9_map 5 = .ok (.ifCond .ne 5, 3) := by decide +kernel
theorem dX9_map_8 : decode cX9_map 8 = .ok (.iconst (-1), 1) := by decide +kernel
theorem dX9_map_9 : decode cX9_map 9 = .ok (.ireturn, 1) := by decide +kernel
theorem dX9_map_10 : decode cX9_map 10 = .ok (.iload_n 2, 1) := by decide +kernel
theorem dX9_map_11 : decode cX9_map 11 = .ok (.tableswitch 71 0 2 #[25, 35, 62], 25) := by decide +kernel
theorem dX9_map_36 : decode cX9_map 36 = .ok (.aload_n 0, 1) := by decide +kernel
theorem dX9_map_37 : decode cX9_map 37 = .ok (.getfield 29, 3) := by decide +kernel
theorem dX9_map_40 : decode cX9_map 40 = .ok (.getfield 144, 3) := by decide +kernel
theorem dX9_map_43 : decode cX9_map 43 = .ok (.iload_n 1, 1) := by decide +kernel
theorem dX9_map_44 : decode cX9_map 44 = .ok (.iaload, 1) := by decide +kernel
theorem dX9_map_45 : decode cX9_map 45 = .ok (.ireturn, 1) := by decide +kernel
theorem dX9_map_46 : decode cX9_map 46 = .ok (.aload_n 0, 1) := by decide +kernel
theorem dX9_map_47 : decode cX9_map 47 = .ok (.getfield 19, 3) := by decide +kernel
theorem dX9_map_50 : decode cX9_map 50 = .ok (.aload_n 0, 1) := by decide +kernel
theorem dX9_map_51 : decode cX9_map 51 = .ok (.getfield 29, 3) := by decide +kernel
theorem dX9_map_54 : decode cX9_map 54 = .ok (.aload_n 0, 1) := by decide +kernel
theorem dX9_map_55 : decode cX9_map 55 = .ok (.getfield 19, 3) := by decide +kernel
theorem dX9_map_58 : decode cX9_map 58 = .ok (.iload_n 1, 1) := by decide +kernel
theorem dX9_map_59 : decode cX9_map 59 = .ok (.invokevirtual 147, 3) := by decide +kernel
theorem dX9_map_62 : decode cX9_map 62 = .ok (.aload_n 0, 1) := by decide +kernel
theorem dX9_map_63 : decode cX9_map 63 = .ok (.getfield 29, 3) := by decide +kernel
theorem dX9_map_66 : decode cX9_map 66 = .ok (.getfield 131, 3) := by decide +kernel
theorem dX9_map_69 : decode cX9_map 69 = .ok (.invokevirtual 151, 3) := by decide +kernel
theorem dX9_map_72 : decode cX9_map 72 = .ok (.ireturn, 1) := by decide +kernel
theorem dX9_map_73 : decode cX9_map 73 = .ok (.aload_n 0, 1) := by decide +kernel
theorem dX9_map_74 : decode cX9_map 74 = .ok (.invokevirtual 155, 3) := by decide +kernel
theorem dX9_map_77 : decode cX9_map 77 = .ok (.iload_n 1, 1) := by decide +kernel
theorem dX9_map_78 : decode cX9_map 78 = .ok (.ishr, 1) := by decide +kernel
theorem dX9_map_79 : decode cX9_map 79 = .ok (.iconst 1, 1) := by decide +kernel
theorem dX9_map_80 : decode cX9_map 80 = .ok (.iand, 1) := by decide +kernel
theorem dX9_map_81 : decode cX9_map 81 = .ok (.ireturn, 1) := by decide +kernel
theorem dX9_map_82 : decode cX9_map 82 = .ok (.iconst (-1), 1) := by decide +kernel
theorem dX9_map_83 : decode cX9_map 83 = .ok (.ireturn, 1) := by decide +kernel
theorem dX9_place_0 : decode cX9_place 0 = .ok (.iload_n 1, 1) := by decide +kernel
theorem dX9_place_1 : decode cX9_place 1 = .ok (.iconst (-1), 1) := by decide +kernel
theorem dX9_place_2 : decode cX9_place 2 = .ok (.if_icmp .eq 11, 3) := by decide +kernel
theorem dX9_place_5 : decode cX9_place 5 = .ok (.aload_n 0, 1) := by decide +kernel
theorem dX9_place_6 : decode cX9_place 6 = .ok (.iload_n 1, 1) := by decide +kernel
theorem dX9_place_7 : decode cX9_place 7 = .ok (.invokevirtual 141, 3) := by decide +kernel
theorem dX9_place_10 : decode cX9_place 10 = .ok (.ifCond .eq 12, 3) := by decide +kernel
theorem dX9_place_13 : decode cX9_place 13 = .ok (.iload_n 2, 1) := by decide +kernel
theorem dX9_place_14 : decode cX9_place 14 = .ok (.ifCond .lt 8, 3) := by decide +kernel
theorem dX9_place_17 : decode cX9_place 17 = .ok (.iload_n 2, 1) := by decide +kernel
theorem dX9_place_18 : decode cX9_place 18 = .ok (.iconst 5, 1) := by decide +kernel
theorem dX9_place_19 : decode cX9_place 19 = .ok (.if_icmp .lt 5, 3) := by decide +kernel
theorem dX9_place_22 : decode cX9_place 22 = .ok (.iconst (-1), 1) := by decide +kernel
theorem dX9_place_23 : decode cX9_place 23 = .ok (.ireturn, 1) := by decide +kernel
theorem dX9_place_24 : decode cX9_place 24 = .ok (.aload_n 0, 1) := by decide +kernel
theorem dX9_place_25 : decode cX9_place 25 = .ok (.getfield 29, 3) := by decide +kernel
theorem dX9_place_28 : decode cX9_place 28 = .ok (.iload_n 1, 1) := by decide +kernel
theorem dX9_place_29 : decode cX9_place 29 = .ok (.iconst (-1), 1) := by decide +kernel
theorem dX9_place_30 : decode cX9_place 30 = .ok (.if_icmp .ne 7, 3) := by decide +kernel
theorem dX9_place_33 : decode cX9_place 33 = .ok (.iconst 4, 1) := by decide +kernel
theorem dX9_place_34 : decode cX9_place 34 = .ok (.goto 4, 3) := by decide +kernel
theorem dX9_place_37 : decode cX9_place 37 = .ok (.iload_n 1, 1) := by decide +kernel
theorem dX9_place_38 : decode cX9_place 38 = .ok (.iload_n 2, 1) := by decide +kernel
theorem dX9_place_39 : decode cX9_place 39 = .ok (.invokevirtual 158, 3) := by decide +kernel
theorem dX9_place_42 : decode cX9_place 42 = .ok (.ireturn, 1) := by decide +kernel
theorem dX9_now_0 : decode cX9_now 0 = .ok (.iload_n 1, 1) := by decide +kernel
theorem dX9_now_1 : decode cX9_now 1 = .ok (.tableswitch 62 0 3 #[31, 36, 46, 54], 31) := by decide +kernel
theorem dX9_now_32 : decode cX9_now 32 = .ok (.aload_n 0, 1) := by decide +kernel
theorem dX9_now_33 : decode cX9_now 33 = .ok (.invokevirtual 155, 3) := by decide +kernel
theorem dX9_now_36 : decode cX9_now 36 = .ok (.ireturn, 1) := by decide +kernel
theorem dX9_now_37 : decode cX9_now 37 = .ok (.aload_n 0, 1) := by decide +kernel
theorem dX9_now_38 : decode cX9_now 38 = .ok (.getfield 29, 3) := by decide +kernel
theorem dX9_now_41 : decode cX9_now 41 = .ok (.getfield 144, 3) := by decide +kernel
theorem dX9_now_44 : decode cX9_now 44 = .ok (.iconst 4, 1) := by decide +kernel
theorem dX9_now_45 : decode cX9_now 45 = .ok (.iaload, 1) := by decide +kernel
theorem dX9_now_46 : decode cX9_now 46 = .ok (.ireturn, 1) := by decide +kernel
theorem dX9_now_47 : decode cX9_now 47 = .ok (.aload_n 0, 1) := by decide +kernel
theorem dX9_now_48 : decode cX9_now 48 = .ok (.getfield 29, 3) := by decide +kernel
theorem dX9_now_51 : decode cX9_now 51 = .ok (.getfield 162, 3) := by decide +kernel
theorem dX9_now_54 : decode cX9_now 54 = .ok (.ireturn, 1) := by decide +kernel
theorem dX9_now_55 : decode cX9_now 55 = .ok (.aload_n 0, 1) := by decide +kernel
theorem dX9_now_56 : decode cX9_now 56 = .ok (.getfield 46, 3) := by decide +kernel
theorem dX9_now_59 : decode cX9_now 59 = .ok (.getfield 165, 3) := by decide +kernel
theorem dX9_now_62 : decode cX9_now 62 = .ok (.ireturn, 1) := by decide +kernel
theorem dX9_now_63 : decode cX9_now 63 = .ok (.iconst (-1), 1) := by decide +kernel
theorem dX9_now_64 : decode cX9_now 64 = .ok (.ireturn, 1) := by decide +kernel
theorem dX9_isPlace_0 : decode cX9_isPlace 0 = .ok (.iload_n 1, 1) := by decide +kernel
theorem dX9_isPlace_1 : decode cX9_isPlace 1 = .ok (.ifCond .lt 18, 3) := by decide +kernel
theorem dX9_isPlace_4 : decode cX9_isPlace 4 = .ok (.iload_n 1, 1) := by decide +kernel
theorem dX9_isPlace_5 : decode cX9_isPlace 5 = .ok (.aload_n 0, 1) := by decide +kernel
theorem dX9_isPlace_6 : decode cX9_isPlace 6 = .ok (.getfield 19, 3) := by decide +kernel
theorem dX9_isPlace_9 : decode cX9_isPlace 9 = .ok (.getfield 168, 3) := by decide +kernel
theorem dX9_isPlace_12 : decode cX9_isPlace 12 = .ok (.if_icmp .ge 7, 3) := by decide +kernel
theorem dX9_isPlace_15 : decode cX9_isPlace 15 = .ok (.iconst 1, 1) := by decide +kernel
theorem dX9_isPlace_16 : decode cX9_isPlace 16 = .ok (.goto 4, 3) := by decide +kernel
theorem dX9_isPlace_19 : decode cX9_isPlace 19 = .ok (.iconst 0, 1) := by decide +kernel
theorem dX9_isPlace_20 : decode cX9_isPlace 20 = .ok (.ireturn, 1) := by decide +kernel
theorem dX9_isLane_0 : decode cX9_isLane 0 = .ok (.iload_n 1, 1) := by decide +kernel
theorem dX9_isLane_1 : decode cX9_isLane 1 = .ok (.ifCond .lt 18, 3) := by decide +kernel
theorem dX9_isLane_4 : decode cX9_isLane 4 = .ok (.iload_n 1, 1) := by decide +kernel
theorem dX9_isLane_5 : decode cX9_isLane 5 = .ok (.aload_n 0, 1) := by decide +kernel
theorem dX9_isLane_6 : decode cX9_isLane 6 = .ok (.getfield 19, 3) := by decide +kernel
theorem dX9_isLane_9 : decode cX9_isLane 9 = .ok (.getfield 171, 3) := by decide +kernel
theorem dX9_isLane_12 : decode cX9_isLane 12 = .ok (.if_icmp .ge 7, 3) := by decide +kernel
theorem dX9_isLane_15 : decode cX9_isLane 15 = .ok (.iconst 1, 1) := by decide +kernel
theorem dX9_isLane_16 : decode cX9_isLane 16 = .ok (.goto 4, 3) := by decide +kernel
theorem dX9_isLane_19 : decode cX9_isLane 19 = .ok (.iconst 0, 1) := by decide +kernel
theorem dX9_isLane_20 : decode cX9_isLane 20 = .ok (.ireturn, 1) := by decide +kernel
theorem dX9_isMap_0 : decode cX9_isMap 0 = .ok (.iload_n 1, 1) := by decide +kernel
theorem dX9_isMap_1 : decode cX9_isMap 1 = .ok (.ifCond .lt 18, 3) := by decide +kernel
theorem dX9_isMap_4 : decode cX9_isMap 4 = .ok (.iload_n 1, 1) := by decide +kernel
theorem dX9_isMap_5 : decode cX9_isMap 5 = .ok (.aload_n 0, 1) := by decide +kernel
theorem dX9_isMap_6 : decode cX9_isMap 6 = .ok (.getfield 29, 3) := by decide +kernel
theorem dX9_isMap_9 : decode cX9_isMap 9 = .ok (.getfield 174, 3) := by decide +kernel
theorem dX9_isMap_12 : decode cX9_isMap 12 = .ok (.if_icmp .ge 7, 3) := by decide +kernel
theorem dX9_isMap_15 : decode cX9_isMap 15 = .ok (.iconst 1, 1) := by decide +kernel
theorem dX9_isMap_16 : decode cX9_isMap 16 = .ok (.goto 4, 3) := by decide +kernel
theorem dX9_isMap_19 : decode cX9_isMap 19 = .ok (.iconst 0, 1) := by decide +kernel
theorem dX9_isMap_20 : decode cX9_isMap 20 = .ok (.ireturn, 1) := by decide +kernel
theorem dX9_mapsBy_0 : decode cX9_mapsBy 0 = .ok (.iconst 0, 1) := by decide +kernel
theorem dX9_mapsBy_1 : decode cX9_mapsBy 1 = .ok (.istore_n 2, 1) := by decide +kernel
theorem dX9_mapsBy_2 : decode cX9_mapsBy 2 = .ok (.iconst 0, 1) := by decide +kernel
theorem dX9_mapsBy_3 : decode cX9_mapsBy 3 = .ok (.istore_n 3, 1) := by decide +kernel
theorem dX9_mapsBy_4 : decode cX9_mapsBy 4 = .ok (.iload_n 3, 1) := by decide +kernel
theorem dX9_mapsBy_5 : decode cX9_mapsBy 5 = .ok (.aload_n 0, 1) := by decide +kernel
theorem dX9_mapsBy_6 : decode cX9_mapsBy 6 = .ok (.getfield 29, 3) := by decide +kernel
theorem dX9_mapsBy_9 : decode cX9_mapsBy 9 = .ok (.getfield 174, 3) := by decide +kernel
theorem dX9_mapsBy_12 : decode cX9_mapsBy 12 = .ok (.if_icmp .ge 28, 3) := by decide +kernel
theorem dX9_mapsBy_15 : decode cX9_mapsBy 15 = .ok (.iload_n 2, 1) := by decide +kernel
theorem dX9_mapsBy_16 : decode cX9_mapsBy 16 = .ok (.aload_n 0, 1) := by decide +kernel
theorem dX9_mapsBy_17 : decode cX9_mapsBy 17 = .ok (.getfield 29, 3) := by decide +kernel
theorem dX9_mapsBy_20 : decode cX9_mapsBy 20 = .ok (.aload_n 0, 1) := by decide +kernel
theorem dX9_mapsBy_21 : decode cX9_mapsBy 21 = .ok (.getfield 19, 3) := by decide +kernel
theorem dX9_mapsBy_24 : decode cX9_mapsBy 24 = .ok (.iload_n 3, 1) := by decide +kernel
theorem dX9_mapsBy_25 : decode cX9_mapsBy 25 = .ok (.invokevirtual 147, 3) := by decide +kernel
theorem dX9_mapsBy_28 : decode cX9_mapsBy 28 = .ok (.iload_n 1, 1) := by decide +kernel
theorem dX9_mapsBy_29 : decode cX9_mapsBy 29 = .ok (.ishr, 1) := by decide +kernel
theorem dX9_mapsBy_30 : decode cX9_mapsBy 30 = .ok (.iconst 1, 1) := by decide +kernel
theorem dX9_mapsBy_31 : decode cX9_mapsBy 31 = .ok (.iand, 1) := by decide +kernel
theorem dX9_mapsBy_32 : decode cX9_mapsBy 32 = .ok (.iadd, 1) := by decide +kernel
theorem dX9_mapsBy_33 : decode cX9_mapsBy 33 = .ok (.istore_n 2, 1) := by decide +kernel
theorem dX9_mapsBy_34 : decode cX9_mapsBy 34 = .ok (.iinc 3 1, 3) := by decide +kernel
theorem dX9_mapsBy_37 : decode cX9_mapsBy 37 = .ok (.goto (-33), 3) := by decide +kernel
theorem dX9_mapsBy_40 : decode cX9_mapsBy 40 = .ok (.iload_n 2, 1) := by decide +kernel
theorem dX9_mapsBy_41 : decode cX9_mapsBy 41 = .ok (.ireturn, 1) := by decide +kernel
theorem dX9_heldMaps_0 : decode cX9_heldMaps 0 = .ok (.aload_n 0, 1) := by decide +kernel
theorem dX9_heldMaps_1 : decode cX9_heldMaps 1 = .ok (.getfield 39, 3) := by decide +kernel
theorem dX9_heldMaps_4 : decode cX9_heldMaps 4 = .ok (.aload_n 0, 1) := by decide +kernel
theorem dX9_heldMaps_5 : decode cX9_heldMaps 5 = .ok (.getfield 19, 3) := by decide +kernel
theorem dX9_heldMaps_8 : decode cX9_heldMaps 8 = .ok (.aload_n 0, 1) := by decide +kernel
theorem dX9_heldMaps_9 : decode cX9_heldMaps 9 = .ok (.getfield 29, 3) := by decide +kernel
theorem dX9_heldMaps_12 : decode cX9_heldMaps 12 = .ok (.getfield 131, 3) := by decide +kernel
theorem dX9_heldMaps_15 : decode cX9_heldMaps 15 = .ok (.invokevirtual 177, 3) := by decide +kernel
theorem dX9_heldMaps_18 : decode cX9_heldMaps 18 = .ok (.iconst 0, 1) := by decide +kernel
theorem dX9_heldMaps_19 : decode cX9_heldMaps 19 = .ok (.istore_n 1, 1) := by decide +kernel
theorem dX9_heldMaps_20 : decode cX9_heldMaps 20 = .ok (.iconst 0, 1) := by decide +kernel
theorem dX9_heldMaps_21 : decode cX9_heldMaps 21 = .ok (.istore_n 2, 1) := by decide +kernel
theorem dX9_heldMaps_22 : decode cX9_heldMaps 22 = .ok (.iload_n 2, 1) := by decide +kernel
theorem dX9_heldMaps_23 : decode cX9_heldMaps 23 = .ok (.aload_n 0, 1) := by decide +kernel
theorem dX9_heldMaps_24 : decode cX9_heldMaps 24 = .ok (.getfield 29, 3) := by decide +kernel
theorem dX9_heldMaps_27 : decode cX9_heldMaps 27 = .ok (.getfield 174, 3) := by decide +kernel
theorem dX9_heldMaps_30 : decode cX9_heldMaps 30 = .ok (.if_icmp .ge 44, 3) := by decide +kernel
theorem dX9_heldMaps_33 : decode cX9_heldMaps 33 = .ok (.aload_n 0, 1) := by decide +kernel
theorem dX9_heldMaps_34 : decode cX9_heldMaps 34 = .ok (.getfield 39, 3) := by decide +kernel
theorem dX9_heldMaps_37 : decode cX9_heldMaps 37 = .ok (.aload_n 0, 1) := by decide +kernel
theorem dX9_heldMaps_38 : decode cX9_heldMaps 38 = .ok (.getfield 39, 3) := by decide +kernel
theorem dX9_heldMaps_41 : decode cX9_heldMaps 41 = .ok (.aload_n 0, 1) := by decide +kernel
theorem dX9_heldMaps_42 : decode cX9_heldMaps 42 = .ok (.getfield 29, 3) := by decide +kernel
theorem dX9_heldMaps_45 : decode cX9_heldMaps 45 = .ok (.aload_n 0, 1) := by decide +kernel
theorem dX9_heldMaps_46 : decode cX9_heldMaps 46 = .ok (.getfield 19, 3) := by decide +kernel
theorem dX9_heldMaps_49 : decode cX9_heldMaps 49 = .ok (.iload_n 2, 1) := by decide +kernel
theorem dX9_heldMaps_50 : decode cX9_heldMaps 50 = .ok (.invokevirtual 147, 3) := by decide +kernel
theorem dX9_heldMaps_53 : decode cX9_heldMaps 53 = .ok (.invokevirtual 181, 3) := by decide +kernel
theorem dX9_heldMaps_56 : decode cX9_heldMaps 56 = .ok (.invokevirtual 184, 3) := by decide +kernel
theorem dX9_heldMaps_59 : decode cX9_heldMaps 59 = .ok (.ifCond .eq 9, 3) := by decide +kernel
theorem dX9_heldMaps_62 : decode cX9_heldMaps 62 = .ok (.iload_n 1, 1) := by decide +kernel
theorem dX9_heldMaps_63 : decode cX9_heldMaps 63 = .ok (.iconst 1, 1) := by decide +kernel
theorem dX9_heldMaps_64 : decode cX9_heldMaps 64 = .ok (.iload_n 2, 1) := by decide +kernel
theorem dX9_heldMaps_65 : decode cX9_heldMaps 65 = .ok (.ishl, 1) := by decide +kernel
theorem dX9_heldMaps_66 : decode cX9_heldMaps 66 = .ok (.ior, 1) := by decide +kernel
theorem dX9_heldMaps_67 : decode cX9_heldMaps 67 = .ok (.istore_n 1, 1) := by decide +kernel
theorem dX9_heldMaps_68 : decode cX9_heldMaps 68 = .ok (.iinc 2 1, 3) := by decide +kernel
theorem dX9_heldMaps_71 : decode cX9_heldMaps 71 = .ok (.goto (-49), 3) := by decide +kernel
theorem dX9_heldMaps_74 : decode cX9_heldMaps 74 = .ok (.iload_n 1, 1) := by decide +kernel
theorem dX9_heldMaps_75 : decode cX9_heldMaps 75 = .ok (.ireturn, 1) := by decide +kernel
theorem dX9_names_0 : decode cX9_names 0 = .ok (.aload_n 0, 1) := by decide +kernel
theorem dX9_names_1 : decode cX9_names 1 = .ok (.iload_n 1, 1) := by decide +kernel
theorem dX9_names_2 : decode cX9_names 2 = .ok (.invokevirtual 187, 3) := by decide +kernel
theorem dX9_names_5 : decode cX9_names 5 = .ok (.ifCond .ne 5, 3) := by decide +kernel
theorem dX9_names_8 : decode cX9_names 8 = .ok (.iconst (-1), 1) := by decide +kernel
theorem dX9_names_9 : decode cX9_names 9 = .ok (.ireturn, 1) := by decide +kernel
theorem dX9_names_10 : decode cX9_names 10 = .ok (.aload_n 0, 1) := by decide +kernel
theorem dX9_names_11 : decode cX9_names 11 = .ok (.getfield 29, 3) := by decide +kernel
theorem dX9_names_14 : decode cX9_names 14 = .ok (.aload_n 0, 1) := by decide +kernel
theorem dX9_names_15 : decode cX9_names 15 = .ok (.getfield 19, 3) := by decide +kernel
theorem dX9_names_18 : decode cX9_names 18 = .ok (.iconst 4, 1) := by decide +kernel
theorem dX9_names_19 : decode cX9_names 19 = .ok (.iload_n 1, 1) := by decide +kernel
theorem dX9_names_20 : decode cX9_names 20 = .ok (.invokevirtual 190, 3) := by decide +kernel
theorem dX9_names_23 : decode cX9_names 23 = .ok (.ifCond .ne 6, 3) := by decide +kernel
theorem dX9_names_26 : decode cX9_names 26 = .ok (.bipush (-2), 2) := by decide +kernel
theorem dX9_names_28 : decode cX9_names 28 = .ok (.ireturn, 1) := by decide +kernel
theorem dX9_names_29 : decode cX9_names 29 = .ok (.aload_n 0, 1) := by decide +kernel
theorem dX9_names_30 : decode cX9_names 30 = .ok (.invokevirtual 194, 3) := by decide +kernel
theorem dX9_names_33 : decode cX9_names 33 = .ok (.aload_n 0, 1) := by decide +kernel
theorem dX9_names_34 : decode cX9_names 34 = .ok (.getfield 29, 3) := by decide +kernel
theorem dX9_names_37 : decode cX9_names 37 = .ok (.iconst 4, 1) := by decide +kernel
theorem dX9_names_38 : decode cX9_names 38 = .ok (.iload_n 1, 1) := by decide +kernel
theorem dX9_names_39 : decode cX9_names 39 = .ok (.invokevirtual 197, 3) := by decide +kernel
theorem dX9_names_42 : decode cX9_names 42 = .ok (.aload_n 0, 1) := by decide +kernel
theorem dX9_names_43 : decode cX9_names 43 = .ok (.getfield 29, 3) := by decide +kernel
theorem dX9_names_46 : decode cX9_names 46 = .ok (.getfield 144, 3) := by decide +kernel
theorem dX9_names_49 : decode cX9_names 49 = .ok (.iconst 4, 1) := by decide +kernel
theorem dX9_names_50 : decode cX9_names 50 = .ok (.iaload, 1) := by decide +kernel
theorem dX9_names_51 : decode cX9_names 51 = .ok (.ireturn, 1) := by decide +kernel
theorem dX9_asks_0 : decode cX9_asks 0 = .ok (.aload_n 0, 1) := by decide +kernel
theorem dX9_asks_1 : decode cX9_asks 1 = .ok (.invokevirtual 201, 3) := by decide +kernel
theorem dX9_asks_4 : decode cX9_asks 4 = .ok (.ifCond .eq 23, 3) := by decide +kernel
theorem dX9_asks_7 : decode cX9_asks 7 = .ok (.aload_n 0, 1) := by decide +kernel
theorem dX9_asks_8 : decode cX9_asks 8 = .ok (.getfield 29, 3) := by decide +kernel
theorem dX9_asks_11 : decode cX9_asks 11 = .ok (.getfield 174, 3) := by decide +kernel
theorem dX9_asks_14 : decode cX9_asks 14 = .ok (.iconst 4, 1) := by decide +kernel
theorem dX9_asks_15 : decode cX9_asks 15 = .ok (.if_icmp .ge 12, 3) := by decide +kernel
theorem dX9_asks_18 : decode cX9_asks 18 = .ok (.aload_n 0, 1) := by decide +kernel
theorem dX9_asks_19 : decode cX9_asks 19 = .ok (.invokevirtual 205, 3) := by decide +kernel
theorem dX9_asks_22 : decode cX9_asks 22 = .ok (.bipush (-9), 2) := by decide +kernel
theorem dX9_asks_24 : decode cX9_asks 24 = .ok (.if_icmp .ne 6, 3) := by decide +kernel
theorem dX9_asks_27 : decode cX9_asks 27 = .ok (.bipush (-2), 2) := by decide +kernel
theorem dX9_asks_29 : decode cX9_asks 29 = .ok (.ireturn, 1) := by decide +kernel
theorem dX9_asks_30 : decode cX9_asks 30 = .ok (.aload_n 0, 1) := by decide +kernel
theorem dX9_asks_31 : decode cX9_asks 31 = .ok (.invokevirtual 205, 3) := by decide +kernel
theorem dX9_asks_34 : decode cX9_asks 34 = .ok (.istore_n 1, 1) := by decide +kernel
theorem dX9_asks_35 : decode cX9_asks 35 = .ok (.aload_n 0, 1) := by decide +kernel
theorem dX9_asks_36 : decode cX9_asks 36 = .ok (.invokevirtual 194, 3) := by decide +kernel
theorem dX9_asks_39 : decode cX9_asks 39 = .ok (.aload_n 0, 1) := by decide +kernel
theorem dX9_asks_40 : decode cX9_asks 40 = .ok (.getfield 68, 3) := by decide +kernel
theorem dX9_asks_43 : decode cX9_asks 43 = .ok (.getfield 208, 3) := by decide +kernel
theorem dX9_asks_46 : decode cX9_asks 46 = .ok (.iconst 0, 1) := by decide +kernel
theorem dX9_asks_47 : decode cX9_asks 47 = .ok (.aload_n 0, 1) := by decide +kernel
theorem dX9_asks_48 : decode cX9_asks 48 = .ok (.getfield 29, 3) := by decide +kernel
theorem dX9_asks_51 : decode cX9_asks 51 = .ok (.getfield 131, 3) := by decide +kernel
theorem dX9_asks_54 : decode cX9_asks 54 = .ok (.iconst 0, 1) := by decide +kernel
theorem dX9_asks_55 : decode cX9_asks 55 = .ok (.aload_n 0, 1) := by decide +kernel
theorem dX9_asks_56 : decode cX9_asks 56 = .ok (.getfield 19, 3) := by decide +kernel
theorem dX9_asks_59 : decode cX9_asks 59 = .ok (.getfield 171, 3) := by decide +kernel
theorem dX9_asks_62 : decode cX9_asks 62 = .ok (.invokestatic 209, 3) := by decide +kernel
theorem dX9_asks_65 : decode cX9_asks 65 = .ok (.aload_n 0, 1) := by decide +kernel
theorem dX9_asks_66 : decode cX9_asks 66 = .ok (.iload_n 1, 1) := by decide +kernel
theorem dX9_asks_67 : decode cX9_asks 67 = .ok (.invokevirtual 215, 3) := by decide +kernel
theorem dX9_asks_70 : decode cX9_asks 70 = .ok (.aload_n 0, 1) := by decide +kernel
theorem dX9_asks_71 : decode cX9_asks 71 = .ok (.getfield 29, 3) := by decide +kernel
theorem dX9_asks_74 : decode cX9_asks 74 = .ok (.invokevirtual 219, 3) := by decide +kernel
theorem dX9_asks_77 : decode cX9_asks 77 = .ok (.iload_n 1, 1) := by decide +kernel
theorem dX9_asks_78 : decode cX9_asks 78 = .ok (.ireturn, 1) := by decide +kernel
theorem dX9_digs_0 : decode cX9_digs 0 = .ok (.aload_n 0, 1) := by decide +kernel
theorem dX9_digs_1 : decode cX9_digs 1 = .ok (.iload_n 1, 1) := by decide +kernel
theorem dX9_digs_2 : decode cX9_digs 2 = .ok (.invokevirtual 121, 3) := by decide +kernel
theorem dX9_digs_5 : decode cX9_digs 5 = .ok (.ifCond .eq 13, 3) := by decide +kernel
theorem dX9_digs_8 : decode cX9_digs 8 = .ok (.iload_n 2, 1) := by decide +kernel
theorem dX9_digs_9 : decode cX9_digs 9 = .ok (.iconst 1, 1) := by decide +kernel
theorem dX9_digs_10 : decode cX9_digs 10 = .ok (.if_icmp .lt 8, 3) := by decide +kernel
theorem dX9_digs_13 : decode cX9_digs 13 = .ok (.iload_n 2, 1) := by decide +kernel
theorem dX9_digs_14 : decode cX9_digs 14 = .ok (.iconst 5, 1) := by decide +kernel
theorem dX9_digs_15 : decode cX9_digs 15 = .ok (.if_icmp .le 5, 3) := by decide +kernel
theorem dX9_digs_18 : decode cX9_digs 18 = .ok (.iconst (-1), 1) := by decide +kernel
theorem dX9_digs_19 : decode cX9_digs 19 = .ok (.ireturn, 1) := by decide +kernel
theorem dX9_digs_20 : decode cX9_digs 20 = .ok (.aload_n 0, 1) := by decide +kernel
theorem dX9_digs_21 : decode cX9_digs 21 = .ok (.getfield 29, 3) := by decide +kernel
theorem dX9_digs_24 : decode cX9_digs 24 = .ok (.getfield 131, 3) := by decide +kernel
theorem dX9_digs_27 : decode cX9_digs 27 = .ok (.iload_n 1, 1) := by decide +kernel
theorem dX9_digs_28 : decode cX9_digs 28 = .ok (.iaload, 1) := by decide +kernel
theorem dX9_digs_29 : decode cX9_digs 29 = .ok (.istore_n 3, 1) := by decide +kernel
theorem dX9_digs_30 : decode cX9_digs 30 = .ok (.iload_n 3, 1) := by decide +kernel
theorem dX9_digs_31 : decode cX9_digs 31 = .ok (.iload_n 2, 1) := by decide +kernel
theorem dX9_digs_32 : decode cX9_digs 32 = .ok (.if_icmp .ne 6, 3) := by decide +kernel
theorem dX9_digs_35 : decode cX9_digs 35 = .ok (.bipush (-2), 2) := by decide +kernel
theorem dX9_digs_37 : decode cX9_digs 37 = .ok (.ireturn, 1) := by decide +kernel
theorem dX9_digs_38 : decode cX9_digs 38 = .ok (.aload_n 0, 1) := by decide +kernel
theorem dX9_digs_39 : decode cX9_digs 39 = .ok (.invokevirtual 194, 3) := by decide +kernel
theorem dX9_digs_42 : decode cX9_digs 42 = .ok (.aload_n 0, 1) := by decide +kernel
theorem dX9_digs_43 : decode cX9_digs 43 = .ok (.getfield 29, 3) := by decide +kernel
theorem dX9_digs_46 : decode cX9_digs 46 = .ok (.getfield 131, 3) := by decide +kernel
theorem dX9_digs_49 : decode cX9_digs 49 = .ok (.iload_n 1, 1) := by decide +kernel
theorem dX9_digs_50 : decode cX9_digs 50 = .ok (.iload_n 2, 1) := by decide +kernel
theorem dX9_digs_51 : decode cX9_digs 51 = .ok (.iastore, 1) := by decide +kernel
theorem dX9_digs_52 : decode cX9_digs 52 = .ok (.aload_n 0, 1) := by decide +kernel
theorem dX9_digs_53 : decode cX9_digs 53 = .ok (.aload_n 0, 1) := by decide +kernel
theorem dX9_digs_54 : decode cX9_digs 54 = .ok (.getfield 19, 3) := by decide +kernel
theorem dX9_digs_57 : decode cX9_digs 57 = .ok (.getfield 134, 3) := by decide +kernel
theorem dX9_digs_60 : decode cX9_digs 60 = .ok (.iload_n 1, 1) := by decide +kernel
theorem dX9_digs_61 : decode cX9_digs 61 = .ok (.iaload, 1) := by decide +kernel
theorem dX9_digs_62 : decode cX9_digs 62 = .ok (.iload_n 2, 1) := by decide +kernel
theorem dX9_digs_63 : decode cX9_digs 63 = .ok (.iload_n 3, 1) := by decide +kernel
theorem dX9_digs_64 : decode cX9_digs 64 = .ok (.isub, 1) := by decide +kernel
theorem dX9_digs_65 : decode cX9_digs 65 = .ok (.invokestatic 222, 3) := by decide +kernel
theorem dX9_digs_68 : decode cX9_digs 68 = .ok (.imul, 1) := by decide +kernel
theorem dX9_digs_69 : decode cX9_digs 69 = .ok (.invokevirtual 215, 3) := by decide +kernel
theorem dX9_digs_72 : decode cX9_digs 72 = .ok (.iload_n 3, 1) := by decide +kernel
theorem dX9_digs_73 : decode cX9_digs 73 = .ok (.ireturn, 1) := by decide +kernel
theorem dX9_burns_0 : decode cX9_burns 0 = .ok (.aload_n 0, 1) := by decide +kernel
theorem dX9_burns_1 : decode cX9_burns 1 = .ok (.iload_n 1, 1) := by decide +kernel
theorem dX9_burns_2 : decode cX9_burns 2 = .ok (.invokevirtual 141, 3) := by decide +kernel
theorem dX9_burns_5 : decode cX9_burns 5 = .ok (.ifCond .ne 5, 3) := by decide +kernel
theorem dX9_burns_8 : decode cX9_burns 8 = .ok (.iconst (-1), 1) := by decide +kernel
theorem dX9_burns_9 : decode cX9_burns 9 = .ok (.ireturn, 1) := by decide +kernel
theorem dX9_burns_10 : decode cX9_burns 10 = .ok (.aload_n 0, 1) := by decide +kernel
theorem dX9_burns_11 : decode cX9_burns 11 = .ok (.invokevirtual 194, 3) := by decide +kernel
theorem dX9_burns_14 : decode cX9_burns 14 = .ok (.aload_n 0, 1) := by decide +kernel
theorem dX9_burns_15 : decode cX9_burns 15 = .ok (.getfield 29, 3) := by decide +kernel
theorem dX9_burns_18 : decode cX9_burns 18 = .ok (.iload_n 1, 1) := by decide +kernel
theorem dX9_burns_19 : decode cX9_burns 19 = .ok (.invokevirtual 227, 3) := by decide +kernel
theorem dX9_burns_22 : decode cX9_burns 22 = .ok (.aload_n 0, 1) := by decide +kernel
theorem dX9_burns_23 : decode cX9_burns 23 = .ok (.getfield 29, 3) := by decide +kernel
theorem dX9_burns_26 : decode cX9_burns 26 = .ok (.getfield 174, 3) := by decide +kernel
theorem dX9_burns_29 : decode cX9_burns 29 = .ok (.ireturn, 1) := by decide +kernel
theorem dX9_wipes_0 : decode cX9_wipes 0 = .ok (.aload_n 0, 1) := by decide +kernel
theorem dX9_wipes_1 : decode cX9_wipes 1 = .ok (.getfield 29, 3) := by decide +kernel
theorem dX9_wipes_4 : decode cX9_wipes 4 = .ok (.getfield 144, 3) := by decide +kernel
theorem dX9_wipes_7 : decode cX9_wipes 7 = .ok (.iconst 4, 1) := by decide +kernel
theorem dX9_wipes_8 : decode cX9_wipes 8 = .ok (.iaload, 1) := by decide +kernel
theorem dX9_wipes_9 : decode cX9_wipes 9 = .ok (.istore_n 1, 1) := by decide +kernel
theorem dX9_wipes_10 : decode cX9_wipes 10 = .ok (.iload_n 1, 1) := by decide +kernel
theorem dX9_wipes_11 : decode cX9_wipes 11 = .ok (.ifCond .ne 6, 3) := by decide +kernel
theorem dX9_wipes_14 : decode cX9_wipes 14 = .ok (.bipush (-2), 2) := by decide +kernel
theorem dX9_wipes_16 : decode cX9_wipes 16 = .ok (.ireturn, 1) := by decide +kernel
theorem dX9_wipes_17 : decode cX9_wipes 17 = .ok (.aload_n 0, 1) := by decide +kernel
theorem dX9_wipes_18 : decode cX9_wipes 18 = .ok (.invokevirtual 194, 3) := by decide +kernel
theorem dX9_wipes_21 : decode cX9_wipes 21 = .ok (.aload_n 0, 1) := by decide +kernel
theorem dX9_wipes_22 : decode cX9_wipes 22 = .ok (.getfield 29, 3) := by decide +kernel
theorem dX9_wipes_25 : decode cX9_wipes 25 = .ok (.getfield 144, 3) := by decide +kernel
theorem dX9_wipes_28 : decode cX9_wipes 28 = .ok (.iconst 4, 1) := by decide +kernel
theorem dX9_wipes_29 : decode cX9_wipes 29 = .ok (.iconst 0, 1) := by decide +kernel
theorem dX9_wipes_30 : decode cX9_wipes 30 = .ok (.iastore, 1) := by decide +kernel
theorem dX9_wipes_31 : decode cX9_wipes 31 = .ok (.iload_n 1, 1) := by decide +kernel
theorem dX9_wipes_32 : decode cX9_wipes 32 = .ok (.ireturn, 1) := by decide +kernel
theorem dX9_undo_0 : decode cX9_undo 0 = .ok (.aload_n 0, 1) := by decide +kernel
theorem dX9_undo_1 : decode cX9_undo 1 = .ok (.getfield 46, 3) := by decide +kernel
theorem dX9_undo_4 : decode cX9_undo 4 = .ok (.getfield 165, 3) := by decide +kernel
theorem dX9_undo_7 : decode cX9_undo 7 = .ok (.ifCond .ne 6, 3) := by decide +kernel
theorem dX9_undo_10 : decode cX9_undo 10 = .ok (.bipush (-2), 2) := by decide +kernel
theorem dX9_undo_12 : decode cX9_undo 12 = .ok (.ireturn, 1) := by decide +kernel
theorem dX9_undo_13 : decode cX9_undo 13 = .ok (.aload_n 0, 1) := by decide +kernel
theorem dX9_undo_14 : decode cX9_undo 14 = .ok (.getfield 46, 3) := by decide +kernel
theorem dX9_undo_17 : decode cX9_undo 17 = .ok (.aload_n 0, 1) := by decide +kernel
theorem dX9_undo_18 : decode cX9_undo 18 = .ok (.getfield 29, 3) := by decide +kernel
theorem dX9_undo_21 : decode cX9_undo 21 = .ok (.invokevirtual 230, 3) := by decide +kernel
theorem dX9_undo_24 : decode cX9_undo 24 = .ok (.aload_n 0, 1) := by decide +kernel
theorem dX9_undo_25 : decode cX9_undo 25 = .ok (.invokevirtual 118, 3) := by decide +kernel
theorem dX9_undo_28 : decode cX9_undo 28 = .ok (.aload_n 0, 1) := by decide +kernel
theorem dX9_undo_29 : decode cX9_undo 29 = .ok (.getfield 46, 3) := by decide +kernel
theorem dX9_undo_32 : decode cX9_undo 32 = .ok (.getfield 165, 3) := by decide +kernel
theorem dX9_undo_35 : decode cX9_undo 35 = .ok (.ireturn, 1) := by decide +kernel
theorem dX9_draftIsWay_0 : decode cX9_draftIsWay 0 = .ok (.aload_n 0, 1) := by decide +kernel
theorem dX9_draftIsWay_1 : decode cX9_draftIsWay 1 = .ok (.getfield 29, 3) := by decide +kernel
theorem dX9_draftIsWay_4 : decode cX9_draftIsWay 4 = .ok (.getfield 144, 3) := by decide +kernel
theorem dX9_draftIsWay_7 : decode cX9_draftIsWay 7 = .ok (.iconst 4, 1) := by decide +kernel
theorem dX9_draftIsWay_8 : decode cX9_draftIsWay 8 = .ok (.iaload, 1) := by decide +kernel
theorem dX9_draftIsWay_9 : decode cX9_draftIsWay 9 = .ok (.iconst 2, 1) := by decide +kernel
theorem dX9_draftIsWay_10 : decode cX9_draftIsWay 10 = .ok (.if_icmp .lt 7, 3) := by decide +kernel
theorem dX9_draftIsWay_13 : decode cX9_draftIsWay 13 = .ok (.iconst 1, 1) := by decide +kernel
theorem dX9_draftIsWay_14 : decode cX9_draftIsWay 14 = .ok (.goto 4, 3) := by decide +kernel
theorem dX9_draftIsWay_17 : decode cX9_draftIsWay 17 = .ok (.iconst 0, 1) := by decide +kernel
theorem dX9_draftIsWay_18 : decode cX9_draftIsWay 18 = .ok (.ireturn, 1) := by decide +kernel
theorem dX9_addDug_0 : decode cX9_addDug 0 = .ok (.aload_n 0, 1) := by decide +kernel
theorem dX9_addDug_1 : decode cX9_addDug 1 = .ok (.getfield 29, 3) := by decide +kernel
theorem dX9_addDug_4 : decode cX9_addDug 4 = .ok (.ldc 233, 2) := by decide +kernel
theorem dX9_addDug_6 : decode cX9_addDug 6 = .ok (.aload_n 0, 1) := by decide +kernel
theorem dX9_addDug_7 : decode cX9_addDug 7 = .ok (.getfield 29, 3) := by decide +kernel
theorem dX9_addDug_10 : decode cX9_addDug 10 = .ok (.getfield 162, 3) := by decide +kernel
theorem dX9_addDug_13 : decode cX9_addDug 13 = .ok (.iload_n 1, 1) := by decide +kernel
theorem dX9_addDug_14 : decode cX9_addDug 14 = .ok (.iadd, 1) := by decide +kernel
theorem dX9_addDug_15 : decode cX9_addDug 15 = .ok (.invokestatic 234, 3) := by decide +kernel
theorem dX9_addDug_18 : decode cX9_addDug 18 = .ok (.putfield 162, 3) := by decide +kernel
theorem dX9_addDug_21 : decode cX9_addDug 21 = .ok (.return_, 1) := by decide +kernel
theorem dX9_beforeChange_0 : decode cX9_beforeChange 0 = .ok (.aload_n 0, 1) := by decide +kernel
theorem dX9_beforeChange_1 : decode cX9_beforeChange 1 = .ok (.getfield 46, 3) := by decide +kernel
theorem dX9_beforeChange_4 : decode cX9_beforeChange 4 = .ok (.aload_n 0, 1) := by decide +kernel
theorem dX9_beforeChange_5 : decode cX9_beforeChange 5 = .ok (.getfield 29, 3) := by decide +kernel
theorem dX9_beforeChange_8 : decode cX9_beforeChange 8 = .ok (.invokevirtual 237, 3) := by decide +kernel
theorem dX9_beforeChange_11 : decode cX9_beforeChange 11 = .ok (.aload_n 0, 1) := by decide +kernel
theorem dX9_beforeChange_12 : decode cX9_beforeChange 12 = .ok (.invokevirtual 118, 3) := by decide +kernel
theorem dX9_beforeChange_15 : decode cX9_beforeChange 15 = .ok (.return_, 1) := by decide +kernel
theorem dX9_forgetAnswers_0 : decode cX9_forgetAnswers 0 = .ok (.aload_n 0, 1) := by decide +kernel
theorem dX9_forgetAnswers_1 : decode cX9_forgetAnswers 1 = .ok (.getfield 68, 3) := by decide +kernel
theorem dX9_forgetAnswers_4 : decode cX9_forgetAnswers 4 = .ok (.iconst 0, 1) := by decide +kernel
theorem dX9_forgetAnswers_5 : decode cX9_forgetAnswers 5 = .ok (.putfield 240, 3) := by decide +kernel
theorem dX9_forgetAnswers_8 : decode cX9_forgetAnswers 8 = .ok (.aload_n 0, 1) := by decide +kernel
theorem dX9_forgetAnswers_9 : decode cX9_forgetAnswers 9 = .ok (.getfield 75, 3) := by decide +kernel
theorem dX9_forgetAnswers_12 : decode cX9_forgetAnswers 12 = .ok (.iconst 0, 1) := by decide +kernel
theorem dX9_forgetAnswers_13 : decode cX9_forgetAnswers 13 = .ok (.putfield 243, 3) := by decide +kernel
theorem dX9_forgetAnswers_16 : decode cX9_forgetAnswers 16 = .ok (.return_, 1) := by decide +kernel
theorem dX9_far_0 : decode cX9_far 0 = .ok (.aload_n 0, 1) := by decide +kernel
theorem dX9_far_1 : decode cX9_far 1 = .ok (.iload_n 1, 1) := by decide +kernel
theorem dX9_far_2 : decode cX9_far 2 = .ok (.invokevirtual 187, 3) := by decide +kernel
