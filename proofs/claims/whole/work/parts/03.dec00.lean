theorem dX0_init_0 : decode cX0_init 0 = .ok (.aload_n 0, 1) := by decide +kernel
theorem dX0_init_1 : decode cX0_init 1 = .ok (.invokespecial 3, 3) := by decide +kernel
theorem dX0_init_4 : decode cX0_init 4 = .ok (.aload_n 0, 1) := by decide +kernel
theorem dX0_init_5 : decode cX0_init 5 = .ok (.iconst 0, 1) := by decide +kernel
theorem dX0_init_6 : decode cX0_init 6 = .ok (.putfield 9, 3) := by decide +kernel
theorem dX0_init_9 : decode cX0_init 9 = .ok (.aload_n 0, 1) := by decide +kernel
theorem dX0_init_10 : decode cX0_init 10 = .ok (.bipush (-9), 2) := by decide +kernel
theorem dX0_init_12 : decode cX0_init 12 = .ok (.putfield 15, 3) := by decide +kernel
theorem dX0_init_15 : decode cX0_init 15 = .ok (.aload_n 0, 1) := by decide +kernel
theorem dX0_init_16 : decode cX0_init 16 = .ok (.bipush 6, 2) := by decide +kernel
theorem dX0_init_18 : decode cX0_init 18 = .ok (.newarray .int, 2) := by decide +kernel
theorem dX0_init_20 : decode cX0_init 20 = .ok (.putfield 19, 3) := by decide +kernel
theorem dX0_init_23 : decode cX0_init 23 = .ok (.return_, 1) := by decide +kernel
theorem dX1_init_0 : decode cX1_init 0 = .ok (.aload_n 0, 1) := by decide +kernel
theorem dX1_init_1 : decode cX1_init 1 = .ok (.invokespecial 3, 3) := by decide +kernel
theorem dX1_init_4 : decode cX1_init 4 = .ok (.aload_n 0, 1) := by decide +kernel
theorem dX1_init_5 : decode cX1_init 5 = .ok (.bipush 6, 2) := by decide +kernel
theorem dX1_init_7 : decode cX1_init 7 = .ok (.newarray .int, 2) := by decide +kernel
theorem dX1_init_9 : decode cX1_init 9 = .ok (.putfield 9, 3) := by decide +kernel
theorem dX1_init_12 : decode cX1_init 12 = .ok (.aload_n 0, 1) := by decide +kernel
theorem dX1_init_13 : decode cX1_init 13 = .ok (.bipush 6, 2) := by decide +kernel
theorem dX1_init_15 : decode cX1_init 15 = .ok (.newarray .int, 2) := by decide +kernel
theorem dX1_init_17 : decode cX1_init 17 = .ok (.putfield 15, 3) := by decide +kernel
theorem dX1_init_20 : decode cX1_init 20 = .ok (.aload_n 0, 1) := by decide +kernel
theorem dX1_init_21 : decode cX1_init 21 = .ok (.bipush 6, 2) := by decide +kernel
theorem dX1_init_23 : decode cX1_init 23 = .ok (.newarray .int, 2) := by decide +kernel
theorem dX1_init_25 : decode cX1_init 25 = .ok (.putfield 18, 3) := by decide +kernel
theorem dX1_init_28 : decode cX1_init 28 = .ok (.aload_n 0, 1) := by decide +kernel
theorem dX1_init_29 : decode cX1_init 29 = .ok (.bipush 25, 2) := by decide +kernel
theorem dX1_init_31 : decode cX1_init 31 = .ok (.newarray .int, 2) := by decide +kernel
theorem dX1_init_33 : decode cX1_init 33 = .ok (.putfield 21, 3) := by decide +kernel
theorem dX1_init_36 : decode cX1_init 36 = .ok (.aload_n 0, 1) := by decide +kernel
theorem dX1_init_37 : decode cX1_init 37 = .ok (.invokevirtual 24, 3) := by decide +kernel
theorem dX1_init_40 : decode cX1_init 40 = .ok (.return_, 1) := by decide +kernel
theorem dX1_empty_0 : decode cX1_empty 0 = .ok (.aload_n 0, 1) := by decide +kernel
theorem dX1_empty_1 : decode cX1_empty 1 = .ok (.iconst 2, 1) := by decide +kernel
theorem dX1_empty_2 : decode cX1_empty 2 = .ok (.putfield 27, 3) := by decide +kernel
theorem dX1_empty_5 : decode cX1_empty 5 = .ok (.aload_n 0, 1) := by decide +kernel
theorem dX1_empty_6 : decode cX1_empty 6 = .ok (.iconst 0, 1) := by decide +kernel
theorem dX1_empty_7 : decode cX1_empty 7 = .ok (.putfield 31, 3) := by decide +kernel
theorem dX1_empty_10 : decode cX1_empty 10 = .ok (.iconst 0, 1) := by decide +kernel
theorem dX1_empty_11 : decode cX1_empty 11 = .ok (.istore_n 1, 1) := by decide +kernel
theorem dX1_empty_12 : decode cX1_empty 12 = .ok (.iload_n 1, 1) := by decide +kernel
theorem dX1_empty_13 : decode cX1_empty 13 = .ok (.aload_n 0, 1) := by decide +kernel
theorem dX1_empty_14 : decode cX1_empty 14 = .ok (.getfield 21, 3) := by decide +kernel
theorem dX1_empty_17 : decode cX1_empty 17 = .ok (.arraylength, 1) := by decide +kernel
theorem dX1_empty_18 : decode cX1_empty 18 = .ok (.if_icmp .ge 17, 3) := by decide +kernel
theorem dX1_empty_21 : decode cX1_empty 21 = .ok (.aload_n 0, 1) := by decide +kernel
theorem dX1_empty_22 : decode cX1_empty 22 = .ok (.getfield 21, 3) := by decide +kernel
theorem dX1_empty_25 : decode cX1_empty 25 = .ok (.iload_n 1, 1) := by decide +kernel
theorem dX1_empty_26 : decode cX1_empty 26 = .ok (.bipush (-9), 2) := by decide +kernel
theorem dX1_empty_28 : decode cX1_empty 28 = .ok (.iastore, 1) := by decide +kernel
theorem dX1_empty_29 : decode cX1_empty 29 = .ok (.iinc 1 1, 3) := by decide +kernel
theorem dX1_empty_32 : decode cX1_empty 32 = .ok (.goto (-20), 3) := by decide +kernel
theorem dX1_empty_35 : decode cX1_empty 35 = .ok (.return_, 1) := by decide +kernel
theorem dX1_laneBetween_0 : decode cX1_laneBetween 0 = .ok (.iload_n 1, 1) := by decide +kernel
theorem dX1_laneBetween_1 : decode cX1_laneBetween 1 = .ok (.ifCond .lt 23, 3) := by decide +kernel
theorem dX1_laneBetween_4 : decode cX1_laneBetween 4 = .ok (.iload_n 1, 1) := by decide +kernel
theorem dX1_laneBetween_5 : decode cX1_laneBetween 5 = .ok (.aload_n 0, 1) := by decide +kernel
theorem dX1_laneBetween_6 : decode cX1_laneBetween 6 = .ok (.getfield 27, 3) := by decide +kernel
theorem dX1_laneBetween_9 : decode cX1_laneBetween 9 = .ok (.if_icmp .ge 15, 3) := by decide +kernel
theorem dX1_laneBetween_12 : decode cX1_laneBetween 12 = .ok (.iload_n 2, 1) := by decide +kernel
theorem dX1_laneBetween_13 : decode cX1_laneBetween 13 = .ok (.ifCond .lt 11, 3) := by decide +kernel
theorem dX1_laneBetween_16 : decode cX1_laneBetween 16 = .ok (.iload_n 2, 1) := by decide +kernel
theorem dX1_laneBetween_17 : decode cX1_laneBetween 17 = .ok (.aload_n 0, 1) := by decide +kernel
theorem dX1_laneBetween_18 : decode cX1_laneBetween 18 = .ok (.getfield 27, 3) := by decide +kernel
theorem dX1_laneBetween_21 : decode cX1_laneBetween 21 = .ok (.if_icmp .lt 6, 3) := by decide +kernel
theorem dX1_laneBetween_24 : decode cX1_laneBetween 24 = .ok (.bipush (-9), 2) := by decide +kernel
theorem dX1_laneBetween_26 : decode cX1_laneBetween 26 = .ok (.ireturn, 1) := by decide +kernel
theorem dX1_laneBetween_27 : decode cX1_laneBetween 27 = .ok (.aload_n 0, 1) := by decide +kernel
theorem dX1_laneBetween_28 : decode cX1_laneBetween 28 = .ok (.getfield 21, 3) := by decide +kernel
theorem dX1_laneBetween_31 : decode cX1_laneBetween 31 = .ok (.iload_n 1, 1) := by decide +kernel
theorem dX1_laneBetween_32 : decode cX1_laneBetween 32 = .ok (.iconst 5, 1) := by decide +kernel
theorem dX1_laneBetween_33 : decode cX1_laneBetween 33 = .ok (.imul, 1) := by decide +kernel
theorem dX1_laneBetween_34 : decode cX1_laneBetween 34 = .ok (.iload_n 2, 1) := by decide +kernel
theorem dX1_laneBetween_35 : decode cX1_laneBetween 35 = .ok (.iadd, 1) := by decide +kernel
theorem dX1_laneBetween_36 : decode cX1_laneBetween 36 = .ok (.iaload, 1) := by decide +kernel
theorem dX1_laneBetween_37 : decode cX1_laneBetween 37 = .ok (.ireturn, 1) := by decide +kernel
theorem dX1_addLane_0 : decode cX1_addLane 0 = .ok (.aload_n 0, 1) := by decide +kernel
theorem dX1_addLane_1 : decode cX1_addLane 1 = .ok (.getfield 31, 3) := by decide +kernel
theorem dX1_addLane_4 : decode cX1_addLane 4 = .ok (.bipush 6, 2) := by decide +kernel
theorem dX1_addLane_6 : decode cX1_addLane 6 = .ok (.if_icmp .ge 27, 3) := by decide +kernel
theorem dX1_addLane_9 : decode cX1_addLane 9 = .ok (.iload_n 1, 1) := by decide +kernel
theorem dX1_addLane_10 : decode cX1_addLane 10 = .ok (.ifCond .lt 23, 3) := by decide +kernel
theorem dX1_addLane_13 : decode cX1_addLane 13 = .ok (.iload_n 1, 1) := by decide +kernel
theorem dX1_addLane_14 : decode cX1_addLane 14 = .ok (.aload_n 0, 1) := by decide +kernel
theorem dX1_addLane_15 : decode cX1_addLane 15 = .ok (.getfield 27, 3) := by decide +kernel
theorem dX1_addLane_18 : decode cX1_addLane 18 = .ok (.if_icmp .ge 15, 3) := by decide +kernel
theorem dX1_addLane_21 : decode cX1_addLane 21 = .ok (.iload_n 2, 1) := by decide +kernel
theorem dX1_addLane_22 : decode cX1_addLane 22 = .ok (.ifCond .lt 11, 3) := by decide +kernel
theorem dX1_addLane_25 : decode cX1_addLane 25 = .ok (.iload_n 2, 1) := by decide +kernel
theorem dX1_addLane_26 : decode cX1_addLane 26 = .ok (.aload_n 0, 1) := by decide +kernel
theorem dX1_addLane_27 : decode cX1_addLane 27 = .ok (.getfield 27, 3) := by decide +kernel
theorem dX1_addLane_30 : decode cX1_addLane 30 = .ok (.if_icmp .lt 4, 3) := by decide +kernel
theorem dX1_addLane_33 : decode cX1_addLane 33 = .ok (.return_, 1) := by decide +kernel
theorem dX1_addLane_34 : decode cX1_addLane 34 = .ok (.aload_n 0, 1) := by decide +kernel
theorem dX1_addLane_35 : decode cX1_addLane 35 = .ok (.getfield 9, 3) := by decide +kernel
theorem dX1_addLane_38 : decode cX1_addLane 38 = .ok (.aload_n 0, 1) := by decide +kernel
theorem dX1_addLane_39 : decode cX1_addLane 39 = .ok (.getfield 31, 3) := by decide +kernel
theorem dX1_addLane_42 : decode cX1_addLane 42 = .ok (.iload_n 1, 1) := by decide +kernel
theorem dX1_addLane_43 : decode cX1_addLane 43 = .ok (.iastore, 1) := by decide +kernel
theorem dX1_addLane_44 : decode cX1_addLane 44 = .ok (.aload_n 0, 1) := by decide +kernel
theorem dX1_addLane_45 : decode cX1_addLane 45 = .ok (.getfield 15, 3) := by decide +kernel
theorem dX1_addLane_48 : decode cX1_addLane 48 = .ok (.aload_n 0, 1) := by decide +kernel
theorem dX1_addLane_49 : decode cX1_addLane 49 = .ok (.getfield 31, 3) := by decide +kernel
theorem dX1_addLane_52 : decode cX1_addLane 52 = .ok (.iload_n 2, 1) := by decide +kernel
theorem dX1_addLane_53 : decode cX1_addLane 53 = .ok (.iastore, 1) := by decide +kernel
theorem dX1_addLane_54 : decode cX1_addLane 54 = .ok (.aload_n 0, 1) := by decide +kernel
theorem dX1_addLane_55 : decode cX1_addLane 55 = .ok (.getfield 18, 3) := by decide +kernel
theorem dX1_addLane_58 : decode cX1_addLane 58 = .ok (.aload_n 0, 1) := by decide +kernel
theorem dX1_addLane_59 : decode cX1_addLane 59 = .ok (.getfield 31, 3) := by decide +kernel
theorem dX1_addLane_62 : decode cX1_addLane 62 = .ok (.iload_n 3, 1) := by decide +kernel
theorem dX1_addLane_63 : decode cX1_addLane 63 = .ok (.iastore, 1) := by decide +kernel
theorem dX1_addLane_64 : decode cX1_addLane 64 = .ok (.aload_n 0, 1) := by decide +kernel
theorem dX1_addLane_65 : decode cX1_addLane 65 = .ok (.getfield 21, 3) := by decide +kernel
theorem dX1_addLane_68 : decode cX1_addLane 68 = .ok (.iload_n 1, 1) := by decide +kernel
theorem dX1_addLane_69 : decode cX1_addLane 69 = .ok (.iconst 5, 1) := by decide +kernel
theorem dX1_addLane_70 : decode cX1_addLane 70 = .ok (.imul, 1) := by decide +kernel
theorem dX1_addLane_71 : decode cX1_addLane 71 = .ok (.iload_n 2, 1) := by decide +kernel
theorem dX1_addLane_72 : decode cX1_addLane 72 = .ok (.iadd, 1) := by decide +kernel
theorem dX1_addLane_73 : decode cX1_addLane 73 = .ok (.aload_n 0, 1) := by decide +kernel
theorem dX1_addLane_74 : decode cX1_addLane 74 = .ok (.getfield 31, 3) := by decide +kernel
theorem dX1_addLane_77 : decode cX1_addLane 77 = .ok (.iastore, 1) := by decide +kernel
theorem dX1_addLane_78 : decode cX1_addLane 78 = .ok (.aload_n 0, 1) := by decide +kernel
theorem dX1_addLane_79 : decode cX1_addLane 79 = .ok (.getfield 21, 3) := by decide +kernel
theorem dX1_addLane_82 : decode cX1_addLane 82 = .ok (.iload_n 2, 1) := by decide +kernel
theorem dX1_addLane_83 : decode cX1_addLane 83 = .ok (.iconst 5, 1) := by decide +kernel
theorem dX1_addLane_84 : decode cX1_addLane 84 = .ok (.imul, 1) := by decide +kernel
theorem dX1_addLane_85 : decode cX1_addLane 85 = .ok (.iload_n 1, 1) := by decide +kernel
theorem dX1_addLane_86 : decode cX1_addLane 86 = .ok (.iadd, 1) := by decide +kernel
theorem dX1_addLane_87 : decode cX1_addLane 87 = .ok (.aload_n 0, 1) := by decide +kernel
theorem dX1_addLane_88 : decode cX1_addLane 88 = .ok (.getfield 31, 3) := by decide +kernel
theorem dX1_addLane_91 : decode cX1_addLane 91 = .ok (.iastore, 1) := by decide +kernel
theorem dX1_addLane_92 : decode cX1_addLane 92 = .ok (.aload_n 0, 1) := by decide +kernel
theorem dX1_addLane_93 : decode cX1_addLane 93 = .ok (.dup, 1) := by decide +kernel
theorem dX1_addLane_94 : decode cX1_addLane 94 = .ok (.getfield 31, 3) := by decide +kernel
theorem dX1_addLane_97 : decode cX1_addLane 97 = .ok (.iconst 1, 1) := by decide +kernel
theorem dX1_addLane_98 : decode cX1_addLane 98 = .ok (.iadd, 1) := by decide +kernel
theorem dX1_addLane_99 : decode cX1_addLane 99 = .ok (.putfield 31, 3) := by decide +kernel
theorem dX1_addLane_102 : decode cX1_addLane 102 = .ok (.return_, 1) := by decide +kernel
theorem dX1_lengthOf_0 : decode cX1_lengthOf 0 = .ok (.iconst 0, 1) := by decide +kernel
theorem dX1_lengthOf_1 : decode cX1_lengthOf 1 = .ok (.istore_n 3, 1) := by decide +kernel
theorem dX1_lengthOf_2 : decode cX1_lengthOf 2 = .ok (.iconst 0, 1) := by decide +kernel
theorem dX1_lengthOf_3 : decode cX1_lengthOf 3 = .ok (.istore 4, 2) := by decide +kernel
theorem dX1_lengthOf_5 : decode cX1_lengthOf 5 = .ok (.iload 4, 2) := by decide +kernel
theorem dX1_lengthOf_7 : decode cX1_lengthOf 7 = .ok (.aload_n 0, 1) := by decide +kernel
theorem dX1_lengthOf_8 : decode cX1_lengthOf 8 = .ok (.getfield 31, 3) := by decide +kernel
theorem dX1_lengthOf_11 : decode cX1_lengthOf 11 = .ok (.if_icmp .ge 26, 3) := by decide +kernel
theorem dX1_lengthOf_14 : decode cX1_lengthOf 14 = .ok (.iload_n 1, 1) := by decide +kernel
theorem dX1_lengthOf_15 : decode cX1_lengthOf 15 = .ok (.iload 4, 2) := by decide +kernel
theorem dX1_lengthOf_17 : decode cX1_lengthOf 17 = .ok (.ishr, 1) := by decide +kernel
theorem dX1_lengthOf_18 : decode cX1_lengthOf 18 = .ok (.iconst 1, 1) := by decide +kernel
theorem dX1_lengthOf_19 : decode cX1_lengthOf 19 = .ok (.iand, 1) := by decide +kernel
theorem dX1_lengthOf_20 : decode cX1_lengthOf 20 = .ok (.iconst 1, 1) := by decide +kernel
theorem dX1_lengthOf_21 : decode cX1_lengthOf 21 = .ok (.if_icmp .ne 10, 3) := by decide +kernel
theorem dX1_lengthOf_24 : decode cX1_lengthOf 24 = .ok (.iload_n 3, 1) := by decide +kernel
theorem dX1_lengthOf_25 : decode cX1_lengthOf 25 = .ok (.aload_n 2, 1) := by decide +kernel
theorem dX1_lengthOf_26 : decode cX1_lengthOf 26 = .ok (.iload 4, 2) := by decide +kernel
theorem dX1_lengthOf_28 : decode cX1_lengthOf 28 = .ok (.iaload, 1) := by decide +kernel
theorem dX1_lengthOf_29 : decode cX1_lengthOf 29 = .ok (.iadd, 1) := by decide +kernel
theorem dX1_lengthOf_30 : decode cX1_lengthOf 30 = .ok (.istore_n 3, 1) := by decide +kernel
theorem dX1_lengthOf_31 : decode cX1_lengthOf 31 = .ok (.iinc 4 1, 3) := by decide +kernel
theorem dX1_lengthOf_34 : decode cX1_lengthOf 34 = .ok (.goto (-29), 3) := by decide +kernel
theorem dX1_lengthOf_37 : decode cX1_lengthOf 37 = .ok (.iload_n 3, 1) := by decide +kernel
theorem dX1_lengthOf_38 : decode cX1_lengthOf 38 = .ok (.ireturn, 1) := by decide +kernel
theorem dX2_init_0 : decode cX2_init 0 = .ok (.aload_n 0, 1) := by decide +kernel
theorem dX2_init_1 : decode cX2_init 1 = .ok (.invokespecial 3, 3) := by decide +kernel
theorem dX2_init_4 : decode cX2_init 4 = .ok (.aload_n 0, 1) := by decide +kernel
theorem dX2_init_5 : decode cX2_init 5 = .ok (.bipush 6, 2) := by decide +kernel
theorem dX2_init_7 : decode cX2_init 7 = .ok (.newarray .int, 2) := by decide +kernel
theorem dX2_init_9 : decode cX2_init 9 = .ok (.putfield 9, 3) := by decide +kernel
theorem dX2_init_12 : decode cX2_init 12 = .ok (.aload_n 0, 1) := by decide +kernel
theorem dX2_init_13 : decode cX2_init 13 = .ok (.iconst 5, 1) := by decide +kernel
theorem dX2_init_14 : decode cX2_init 14 = .ok (.newarray .int, 2) := by decide +kernel
theorem dX2_init_16 : decode cX2_init 16 = .ok (.putfield 15, 3) := by decide +kernel
theorem dX2_init_19 : decode cX2_init 19 = .ok (.aload_n 0, 1) := by decide +kernel
theorem dX2_init_20 : decode cX2_init 20 = .ok (.bipush 25, 2) := by decide +kernel
theorem dX2_init_22 : decode cX2_init 22 = .ok (.newarray .int, 2) := by decide +kernel
theorem dX2_init_24 : decode cX2_init 24 = .ok (.putfield 18, 3) := by decide +kernel
theorem dX2_init_27 : decode cX2_init 27 = .ok (.aload_n 0, 1) := by decide +kernel
theorem dX2_init_28 : decode cX2_init 28 = .ok (.iconst 0, 1) := by decide +kernel
theorem dX2_init_29 : decode cX2_init 29 = .ok (.putfield 21, 3) := by decide +kernel
theorem dX2_init_32 : decode cX2_init 32 = .ok (.aload_n 0, 1) := by decide +kernel
theorem dX2_init_33 : decode cX2_init 33 = .ok (.iconst 0, 1) := by decide +kernel
theorem dX2_init_34 : decode cX2_init 34 = .ok (.putfield 25, 3) := by decide +kernel
theorem dX2_init_37 : decode cX2_init 37 = .ok (.return_, 1) := by decide +kernel
theorem dX2_empty_0 : decode cX2_empty 0 = .ok (.aload_n 0, 1) := by decide +kernel
theorem dX2_empty_1 : decode cX2_empty 1 = .ok (.iconst 0, 1) := by decide +kernel
theorem dX2_empty_2 : decode cX2_empty 2 = .ok (.putfield 21, 3) := by decide +kernel
theorem dX2_empty_5 : decode cX2_empty 5 = .ok (.aload_n 0, 1) := by decide +kernel
theorem dX2_empty_6 : decode cX2_empty 6 = .ok (.iconst 0, 1) := by decide +kernel
theorem dX2_empty_7 : decode cX2_empty 7 = .ok (.putfield 25, 3) := by decide +kernel
theorem dX2_empty_10 : decode cX2_empty 10 = .ok (.aload_n 0, 1) := by decide +kernel
theorem dX2_empty_11 : decode cX2_empty 11 = .ok (.getfield 15, 3) := by decide +kernel
theorem dX2_empty_14 : decode cX2_empty 14 = .ok (.iconst 4, 1) := by decide +kernel
theorem dX2_empty_15 : decode cX2_empty 15 = .ok (.iconst 0, 1) := by decide +kernel
theorem dX2_empty_16 : decode cX2_empty 16 = .ok (.iastore, 1) := by decide +kernel
theorem dX2_empty_17 : decode cX2_empty 17 = .ok (.return_, 1) := by decide +kernel
theorem dX2_become_0 : decode cX2_become 0 = .ok (.aload_n 1, 1) := by decide +kernel
theorem dX2_become_1 : decode cX2_become 1 = .ok (.getfield 9, 3) := by decide +kernel
theorem dX2_become_4 : decode cX2_become 4 = .ok (.iconst 0, 1) := by decide +kernel
theorem dX2_become_5 : decode cX2_become 5 = .ok (.aload_n 0, 1) := by decide +kernel
theorem dX2_become_6 : decode cX2_become 6 = .ok (.getfield 9, 3) := by decide +kernel
theorem dX2_become_9 : decode cX2_become 9 = .ok (.iconst 0, 1) := by decide +kernel
theorem dX2_become_10 : decode cX2_become 10 = .ok (.bipush 6, 2) := by decide +kernel
theorem dX2_become_12 : decode cX2_become 12 = .ok (.invokestatic 28, 3) := by decide +kernel
theorem dX2_become_15 : decode cX2_become 15 = .ok (.aload_n 1, 1) := by decide +kernel
theorem dX2_become_16 : decode cX2_become 16 = .ok (.getfield 15, 3) := by decide +kernel
theorem dX2_become_19 : decode cX2_become 19 = .ok (.iconst 0, 1) := by decide +kernel
theorem dX2_become_20 : decode cX2_become 20 = .ok (.aload_n 0, 1) := by decide +kernel
theorem dX2_become_21 : decode cX2_become 21 = .ok (.getfield 15, 3) := by decide +kernel
theorem dX2_become_24 : decode cX2_become 24 = .ok (.iconst 0, 1) := by decide +kernel
theorem dX2_become_25 : decode cX2_become 25 = .ok (.iconst 5, 1) := by decide +kernel
theorem dX2_become_26 : decode cX2_become 26 = .ok (.invokestatic 28, 3) := by decide +kernel
theorem dX2_become_29 : decode cX2_become 29 = .ok (.aload_n 1, 1) := by decide +kernel
theorem dX2_become_30 : decode cX2_become 30 = .ok (.getfield 18, 3) := by decide +kernel
theorem dX2_become_33 : decode cX2_become 33 = .ok (.iconst 0, 1) := by decide +kernel
theorem dX2_become_34 : decode cX2_become 34 = .ok (.aload_n 0, 1) := by decide +kernel
theorem dX2_become_35 : decode cX2_become 35 = .ok (.getfield 18, 3) := by decide +kernel
theorem dX2_become_38 : decode cX2_become 38 = .ok (.iconst 0, 1) := by decide +kernel
theorem dX2_become_39 : decode cX2_become 39 = .ok (.bipush 25, 2) := by decide +kernel
theorem dX2_become_41 : decode cX2_become 41 = .ok (.invokestatic 28, 3) := by decide +kernel
theorem dX2_become_44 : decode cX2_become 44 = .ok (.aload_n 0, 1) := by decide +kernel
theorem dX2_become_45 : decode cX2_become 45 = .ok (.aload_n 1, 1) := by decide +kernel
theorem dX2_become_46 : decode cX2_become 46 = .ok (.getfield 21, 3) := by decide +kernel
theorem dX2_become_49 : decode cX2_become 49 = .ok (.putfield 21, 3) := by decide +kernel
theorem dX2_become_52 : decode cX2_become 52 = .ok (.aload_n 0, 1) := by decide +kernel
theorem dX2_become_53 : decode cX2_become 53 = .ok (.aload_n 1, 1) := by decide +kernel
theorem dX2_become_54 : decode cX2_become 54 = .ok (.getfield 25, 3) := by decide +kernel
theorem dX2_become_57 : decode cX2_become 57 = .ok (.putfield 25, 3) := by decide +kernel
theorem dX2_become_60 : decode cX2_become 60 = .ok (.return_, 1) := by decide +kernel
theorem dX2_placeAt_0 : decode cX2_placeAt 0 = .ok (.iload_n 2, 1) := by decide +kernel
theorem dX2_placeAt_1 : decode cX2_placeAt 1 = .ok (.ifCond .lt 26, 3) := by decide +kernel
theorem dX2_placeAt_4 : decode cX2_placeAt 4 = .ok (.iload_n 2, 1) := by decide +kernel
theorem dX2_placeAt_5 : decode cX2_placeAt 5 = .ok (.aload_n 0, 1) := by decide +kernel
theorem dX2_placeAt_6 : decode cX2_placeAt 6 = .ok (.getfield 15, 3) := by decide +kernel
theorem dX2_placeAt_9 : decode cX2_placeAt 9 = .ok (.iload_n 1, 1) := by decide +kernel
theorem dX2_placeAt_10 : decode cX2_placeAt 10 = .ok (.iaload, 1) := by decide +kernel
theorem dX2_placeAt_11 : decode cX2_placeAt 11 = .ok (.if_icmp .ge 16, 3) := by decide +kernel
theorem dX2_placeAt_14 : decode cX2_placeAt 14 = .ok (.aload_n 0, 1) := by decide +kernel
theorem dX2_placeAt_15 : decode cX2_placeAt 15 = .ok (.getfield 18, 3) := by decide +kernel
theorem dX2_placeAt_18 : decode cX2_placeAt 18 = .ok (.iload_n 1, 1) := by decide +kernel
theorem dX2_placeAt_19 : decode cX2_placeAt 19 = .ok (.iconst 5, 1) := by decide +kernel
theorem dX2_placeAt_20 : decode cX2_placeAt 20 = .ok (.imul, 1) := by decide +kernel
theorem dX2_placeAt_21 : decode cX2_placeAt 21 = .ok (.iload_n 2, 1) := by decide +kernel
theorem dX2_placeAt_22 : decode cX2_placeAt 22 = .ok (.iadd, 1) := by decide +kernel
theorem dX2_placeAt_23 : decode cX2_placeAt 23 = .ok (.iaload, 1) := by decide +kernel
theorem dX2_placeAt_24 : decode cX2_placeAt 24 = .ok (.goto 5, 3) := by decide +kernel
theorem dX2_placeAt_27 : decode cX2_placeAt 27 = .ok (.bipush (-9), 2) := by decide +kernel
theorem dX2_placeAt_29 : decode cX2_placeAt 29 = .ok (.ireturn, 1) := by decide +kernel
theorem dX2_fits_0 : decode cX2_fits 0 = .ok (.aload_n 0, 1) := by decide +kernel
theorem dX2_fits_1 : decode cX2_fits 1 = .ok (.getfield 15, 3) := by decide +kernel
theorem dX2_fits_4 : decode cX2_fits 4 = .ok (.iload_n 2, 1) := by decide +kernel
theorem dX2_fits_5 : decode cX2_fits 5 = .ok (.iaload, 1) := by decide +kernel
theorem dX2_fits_6 : decode cX2_fits 6 = .ok (.istore 4, 2) := by decide +kernel
theorem dX2_fits_8 : decode cX2_fits 8 = .ok (.iload 4, 2) := by decide +kernel
theorem dX2_fits_10 : decode cX2_fits 10 = .ok (.ifCond .ne 5, 3) := by decide +kernel
theorem dX2_fits_13 : decode cX2_fits 13 = .ok (.iconst 1, 1) := by decide +kernel
theorem dX2_fits_14 : decode cX2_fits 14 = .ok (.ireturn, 1) := by decide +kernel
theorem dX2_fits_15 : decode cX2_fits 15 = .ok (.iload 4, 2) := by decide +kernel
theorem dX2_fits_17 : decode cX2_fits 17 = .ok (.iconst 5, 1) := by decide +kernel
theorem dX2_fits_18 : decode cX2_fits 18 = .ok (.if_icmp .ge 22, 3) := by decide +kernel
theorem dX2_fits_21 : decode cX2_fits 21 = .ok (.aload_n 1, 1) := by decide +kernel
theorem dX2_fits_22 : decode cX2_fits 22 = .ok (.aload_n 0, 1) := by decide +kernel
theorem dX2_fits_23 : decode cX2_fits 23 = .ok (.iload_n 2, 1) := by decide +kernel
theorem dX2_fits_24 : decode cX2_fits 24 = .ok (.iload 4, 2) := by decide +kernel
theorem dX2_fits_26 : decode cX2_fits 26 = .ok (.iconst 1, 1) := by decide +kernel
theorem dX2_fits_27 : decode cX2_fits 27 = .ok (.isub, 1) := by decide +kernel
theorem dX2_fits_28 : decode cX2_fits 28 = .ok (.invokevirtual 34, 3) := by decide +kernel
theorem dX2_fits_31 : decode cX2_fits 31 = .ok (.iload_n 3, 1) := by decide +kernel
theorem dX2_fits_32 : decode cX2_fits 32 = .ok (.invokevirtual 38, 3) := by decide +kernel
theorem dX2_fits_35 : decode cX2_fits 35 = .ok (.bipush (-9), 2) := by decide +kernel
theorem dX2_fits_37 : decode cX2_fits 37 = .ok (.if_icmp .ne 5, 3) := by decide +kernel
theorem dX2_fits_40 : decode cX2_fits 40 = .ok (.iconst 0, 1) := by decide +kernel
theorem dX2_fits_41 : decode cX2_fits 41 = .ok (.ireturn, 1) := by decide +kernel
theorem dX2_fits_42 : decode cX2_fits 42 = .ok (.iconst 0, 1) := by decide +kernel
theorem dX2_fits_43 : decode cX2_fits 43 = .ok (.istore 5, 2) := by decide +kernel
theorem dX2_fits_45 : decode cX2_fits 45 = .ok (.iload 5, 2) := by decide +kernel
theorem dX2_fits_47 : decode cX2_fits 47 = .ok (.iload 4, 2) := by decide +kernel
theorem dX2_fits_49 : decode cX2_fits 49 = .ok (.if_icmp .ge 22, 3) := by decide +kernel
theorem dX2_fits_52 : decode cX2_fits 52 = .ok (.aload_n 0, 1) := by decide +kernel
theorem dX2_fits_53 : decode cX2_fits 53 = .ok (.iload_n 2, 1) := by decide +kernel
theorem dX2_fits_54 : decode cX2_fits 54 = .ok (.iload 5, 2) := by decide +kernel
theorem dX2_fits_56 : decode cX2_fits 56 = .ok (.invokevirtual 34, 3) := by decide +kernel
theorem dX2_fits_59 : decode cX2_fits 59 = .ok (.iload_n 3, 1) := by decide +kernel
theorem dX2_fits_60 : decode cX2_fits 60 = .ok (.if_icmp .ne 5, 3) := by decide +kernel
theorem dX2_fits_63 : decode cX2_fits 63 = .ok (.iconst 0, 1) := by decide +kernel
theorem dX2_fits_64 : decode cX2_fits 64 = .ok (.ireturn, 1) := by decide +kernel
theorem dX2_fits_65 : decode cX2_fits 65 = .ok (.iinc 5 1, 3) := by decide +kernel
theorem dX2_fits_68 : decode cX2_fits 68 = .ok (.goto (-23), 3) := by decide +kernel
theorem dX2_fits_71 : decode cX2_fits 71 = .ok (.iconst 1, 1) := by decide +kernel
theorem dX2_fits_72 : decode cX2_fits 72 = .ok (.ireturn, 1) := by decide +kernel
theorem dX2_append_0 : decode cX2_append 0 = .ok (.aload_n 0, 1) := by decide +kernel
theorem dX2_append_1 : decode cX2_append 1 = .ok (.getfield 15, 3) := by decide +kernel
theorem dX2_append_4 : decode cX2_append 4 = .ok (.iload_n 1, 1) := by decide +kernel
theorem dX2_append_5 : decode cX2_append 5 = .ok (.iaload, 1) := by decide +kernel
theorem dX2_append_6 : decode cX2_append 6 = .ok (.iconst 5, 1) := by decide +kernel
theorem dX2_append_7 : decode cX2_append 7 = .ok (.if_icmp .lt 4, 3) := by decide +kernel
theorem dX2_append_10 : decode cX2_append 10 = .ok (.return_, 1) := by decide +kernel
theorem dX2_append_11 : decode cX2_append 11 = .ok (.aload_n 0, 1) := by decide +kernel
theorem dX2_append_12 : decode cX2_append 12 = .ok (.getfield 18, 3) := by decide +kernel
theorem dX2_append_15 : decode cX2_append 15 = .ok (.iload_n 1, 1) := by decide +kernel
theorem dX2_append_16 : decode cX2_append 16 = .ok (.iconst 5, 1) := by decide +kernel
theorem dX2_append_17 : decode cX2_append 17 = .ok (.imul, 1) := by decide +kernel
theorem dX2_append_18 : decode cX2_append 18 = .ok (.aload_n 0, 1) := by decide +kernel
theorem dX2_append_19 : decode cX2_append 19 = .ok (.getfield 15, 3) := by decide +kernel
theorem dX2_append_22 : decode cX2_append 22 = .ok (.iload_n 1, 1) := by decide +kernel
theorem dX2_append_23 : decode cX2_append 23 = .ok (.iaload, 1) := by decide +kernel
theorem dX2_append_24 : decode cX2_append 24 = .ok (.iadd, 1) := by decide +kernel
theorem dX2_append_25 : decode cX2_append 25 = .ok (.iload_n 2, 1) := by decide +kernel
theorem dX2_append_26 : decode cX2_append 26 = .ok (.iastore, 1) := by decide +kernel
theorem dX2_append_27 : decode cX2_append 27 = .ok (.aload_n 0, 1) := by decide +kernel
theorem dX2_append_28 : decode cX2_append 28 = .ok (.getfield 15, 3) := by decide +kernel
theorem dX2_append_31 : decode cX2_append 31 = .ok (.iload_n 1, 1) := by decide +kernel
theorem dX2_append_32 : decode cX2_append 32 = .ok (.dup2, 1) := by decide +kernel
theorem dX2_append_33 : decode cX2_append 33 = .ok (.iaload, 1) := by decide +kernel
theorem dX2_append_34 : decode cX2_append 34 = .ok (.iconst 1, 1) := by decide +kernel
theorem dX2_append_35 : decode cX2_append 35 = .ok (.iadd, 1) := by decide +kernel
theorem dX2_append_36 : decode cX2_append 36 = .ok (.iastore, 1) := by decide +kernel
theorem dX2_append_37 : decode cX2_append 37 = .ok (.return_, 1) := by decide +kernel
theorem dX2_lanesOf_0 : decode cX2_lanesOf 0 = .ok (.iconst 0, 1) := by decide +kernel
theorem dX2_lanesOf_1 : decode cX2_lanesOf 1 = .ok (.istore_n 3, 1) := by decide +kernel
theorem dX2_lanesOf_2 : decode cX2_lanesOf 2 = .ok (.iconst 1, 1) := by decide +kernel
theorem dX2_lanesOf_3 : decode cX2_lanesOf 3 = .ok (.istore 4, 2) := by decide +kernel
theorem dX2_lanesOf_5 : decode cX2_lanesOf 5 = .ok (.iload 4, 2) := by decide +kernel
theorem dX2_lanesOf_7 : decode cX2_lanesOf 7 = .ok (.aload_n 0, 1) := by decide +kernel
theorem dX2_lanesOf_8 : decode cX2_lanesOf 8 = .ok (.getfield 15, 3) := by decide +kernel
theorem dX2_lanesOf_11 : decode cX2_lanesOf 11 = .ok (.iload_n 2, 1) := by decide +kernel
theorem dX2_lanesOf_12 : decode cX2_lanesOf 12 = .ok (.iaload, 1) := by decide +kernel
theorem dX2_lanesOf_13 : decode cX2_lanesOf 13 = .ok (.if_icmp .ge 45, 3) := by decide +kernel
theorem dX2_lanesOf_16 : decode cX2_lanesOf 16 = .ok (.aload_n 1, 1) := by decide +kernel
theorem dX2_lanesOf_17 : decode cX2_lanesOf 17 = .ok (.aload_n 0, 1) := by decide +kernel
theorem dX2_lanesOf_18 : decode cX2_lanesOf 18 = .ok (.iload_n 2, 1) := by decide +kernel
theorem dX2_lanesOf_19 : decode cX2_lanesOf 19 = .ok (.iload 4, 2) := by decide +kernel
theorem dX2_lanesOf_21 : decode cX2_lanesOf 21 = .ok (.iconst 1, 1) := by decide +kernel
theorem dX2_lanesOf_22 : decode cX2_lanesOf 22 = .ok (.isub, 1) := by decide +kernel
theorem dX2_lanesOf_23 : decode cX2_lanesOf 23 = .ok (.invokevirtual 34, 3) := by decide +kernel
theorem dX2_lanesOf_26 : decode cX2_lanesOf 26 = .ok (.aload_n 0, 1) := by decide +kernel
theorem dX2_lanesOf_27 : decode cX2_lanesOf 27 = .ok (.iload_n 2, 1) := by decide +kernel
theorem dX2_lanesOf_28 : decode cX2_lanesOf 28 = .ok (.iload 4, 2) := by decide +kernel
theorem dX2_lanesOf_30 : decode cX2_lanesOf 30 = .ok (.invokevirtual 34, 3) := by decide +kernel
theorem dX2_lanesOf_33 : decode cX2_lanesOf 33 = .ok (.invokevirtual 38, 3) := by decide +kernel
theorem dX2_lanesOf_36 : decode cX2_lanesOf 36 = .ok (.istore 5, 2) := by decide +kernel
theorem dX2_lanesOf_38 : decode cX2_lanesOf 38 = .ok (.iload 5, 2) := by decide +kernel
theorem dX2_lanesOf_40 : decode cX2_lanesOf 40 = .ok (.bipush (-9), 2) := by decide +kernel
theorem dX2_lanesOf_42 : decode cX2_lanesOf 42 = .ok (.if_icmp .eq 10, 3) := by decide +kernel
theorem dX2_lanesOf_45 : decode cX2_lanesOf 45 = .ok (.iload_n 3, 1) := by decide +kernel
theorem dX2_lanesOf_46 : decode cX2_lanesOf 46 = .ok (.iconst 1, 1) := by decide +kernel
theorem dX2_lanesOf_47 : decode cX2_lanesOf 47 = .ok (.iload 5, 2) := by decide +kernel
theorem dX2_lanesOf_49 : decode cX2_lanesOf 49 = .ok (.ishl, 1) := by decide +kernel
theorem dX2_lanesOf_50 : decode cX2_lanesOf 50 = .ok (.ior, 1) := by decide +kernel
theorem dX2_lanesOf_51 : decode cX2_lanesOf 51 = .ok (.istore_n 3, 1) := by decide +kernel
theorem dX2_lanesOf_52 : decode cX2_lanesOf 52 = .ok (.iinc 4 1, 3) := by decide +kernel
theorem dX2_lanesOf_55 : decode cX2_lanesOf 55 = .ok (.goto (-50), 3) := by decide +kernel
theorem dX2_lanesOf_58 : decode cX2_lanesOf 58 = .ok (.iload_n 3, 1) := by decide +kernel
theorem dX2_lanesOf_59 : decode cX2_lanesOf 59 = .ok (.ireturn, 1) := by decide +kernel
theorem dX2_draftToMap_0 : decode cX2_draftToMap 0 = .ok (.aload_n 0, 1) := by decide +kernel
theorem dX2_draftToMap_1 : decode cX2_draftToMap 1 = .ok (.getfield 21, 3) := by decide +kernel
theorem dX2_draftToMap_4 : decode cX2_draftToMap 4 = .ok (.iconst 4, 1) := by decide +kernel
theorem dX2_draftToMap_5 : decode cX2_draftToMap 5 = .ok (.if_icmp .lt 4, 3) := by decide +kernel
theorem dX2_draftToMap_8 : decode cX2_draftToMap 8 = .ok (.return_, 1) := by decide +kernel
theorem dX2_draftToMap_9 : decode cX2_draftToMap 9 = .ok (.aload_n 0, 1) := by decide +kernel
theorem dX2_draftToMap_10 : decode cX2_draftToMap 10 = .ok (.iconst 4, 1) := by decide +kernel
theorem dX2_draftToMap_11 : decode cX2_draftToMap 11 = .ok (.aload_n 0, 1) := by decide +kernel
theorem dX2_draftToMap_12 : decode cX2_draftToMap 12 = .ok (.getfield 21, 3) := by decide +kernel
theorem dX2_draftToMap_15 : decode cX2_draftToMap 15 = .ok (.invokevirtual 43, 3) := by decide +kernel
theorem dX2_draftToMap_18 : decode cX2_draftToMap 18 = .ok (.aload_n 0, 1) := by decide +kernel
theorem dX2_draftToMap_19 : decode cX2_draftToMap 19 = .ok (.dup, 1) := by decide +kernel
theorem dX2_draftToMap_20 : decode cX2_draftToMap 20 = .ok (.getfield 21, 3) := by decide +kernel
theorem dX2_draftToMap_23 : decode cX2_draftToMap 23 = .ok (.iconst 1, 1) := by decide +kernel
theorem dX2_draftToMap_24 : decode cX2_draftToMap 24 = .ok (.iadd, 1) := by decide +kernel
theorem dX2_draftToMap_25 : decode cX2_draftToMap 25 = .ok (.putfield 21, 3) := by decide +kernel
theorem dX2_draftToMap_28 : decode cX2_draftToMap 28 = .ok (.aload_n 0, 1) := by decide +kernel
theorem dX2_draftToMap_29 : decode cX2_draftToMap 29 = .ok (.getfield 15, 3) := by decide +kernel
theorem dX2_draftToMap_32 : decode cX2_draftToMap 32 = .ok (.iconst 4, 1) := by decide +kernel
theorem dX2_draftToMap_33 : decode cX2_draftToMap 33 = .ok (.iconst 0, 1) := by decide +kernel
theorem dX2_draftToMap_34 : decode cX2_draftToMap 34 = .ok (.iastore, 1) := by decide +kernel
theorem dX2_draftToMap_35 : decode cX2_draftToMap 35 = .ok (.return_, 1) := by decide +kernel
theorem dX2_dropMap_0 : decode cX2_dropMap 0 = .ok (.iload_n 1, 1) := by decide +kernel
theorem dX2_dropMap_1 : decode cX2_dropMap 1 = .ok (.ifCond .lt 11, 3) := by decide +kernel
theorem dX2_dropMap_4 : decode cX2_dropMap 4 = .ok (.iload_n 1, 1) := by decide +kernel
theorem dX2_dropMap_5 : decode cX2_dropMap 5 = .ok (.aload_n 0, 1) := by decide +kernel
theorem dX2_dropMap_6 : decode cX2_dropMap 6 = .ok (.getfield 21, 3) := by decide +kernel
theorem dX2_dropMap_9 : decode cX2_dropMap 9 = .ok (.if_icmp .lt 4, 3) := by decide +kernel
theorem dX2_dropMap_12 : decode cX2_dropMap 12 = .ok (.return_, 1) := by decide +kernel
theorem dX2_dropMap_13 : decode cX2_dropMap 13 = .ok (.aload_n 0, 1) := by decide +kernel
theorem dX2_dropMap_14 : decode cX2_dropMap 14 = .ok (.dup, 1) := by decide +kernel
theorem dX2_dropMap_15 : decode cX2_dropMap 15 = .ok (.getfield 21, 3) := by decide +kernel
theorem dX2_dropMap_18 : decode cX2_dropMap 18 = .ok (.iconst 1, 1) := by decide +kernel
theorem dX2_dropMap_19 : decode cX2_dropMap 19 = .ok (.isub, 1) := by decide +kernel
theorem dX2_dropMap_20 : decode cX2_dropMap 20 = .ok (.putfield 21, 3) := by decide +kernel
theorem dX2_dropMap_23 : decode cX2_dropMap 23 = .ok (.iload_n 1, 1) := by decide +kernel
theorem dX2_dropMap_24 : decode cX2_dropMap 24 = .ok (.istore_n 2, 1) := by decide +kernel
theorem dX2_dropMap_25 : decode cX2_dropMap 25 = .ok (.iload_n 2, 1) := by decide +kernel
theorem dX2_dropMap_26 : decode cX2_dropMap 26 = .ok (.aload_n 0, 1) := by decide +kernel
theorem dX2_dropMap_27 : decode cX2_dropMap 27 = .ok (.getfield 21, 3) := by decide +kernel
theorem dX2_dropMap_30 : decode cX2_dropMap 30 = .ok (.if_icmp .ge 17, 3) := by decide +kernel
theorem dX2_dropMap_33 : decode cX2_dropMap 33 = .ok (.aload_n 0, 1) := by decide +kernel
theorem dX2_dropMap_34 : decode cX2_dropMap 34 = .ok (.iload_n 2, 1) := by decide +kernel
theorem dX2_dropMap_35 : decode cX2_dropMap 35 = .ok (.iconst 1, 1) := by decide +kernel
theorem dX2_dropMap_36 : decode cX2_dropMap 36 = .ok (.iadd, 1) := by decide +kernel
theorem dX2_dropMap_37 : decode cX2_dropMap 37 = .ok (.iload_n 2, 1) := by decide +kernel
theorem dX2_dropMap_38 : decode cX2_dropMap 38 = .ok (.invokevirtual 43, 3) := by decide +kernel
theorem dX2_dropMap_41 : decode cX2_dropMap 41 = .ok (.iinc 2 1, 3) := by decide +kernel
theorem dX2_dropMap_44 : decode cX2_dropMap 44 = .ok (.goto (-19), 3) := by decide +kernel
theorem dX2_dropMap_47 : decode cX2_dropMap 47 = .ok (.return_, 1) := by decide +kernel
theorem dX2_copyRow_0 : decode cX2_copyRow 0 = .ok (.aload_n 0, 1) := by decide +kernel
theorem dX2_copyRow_1 : decode cX2_copyRow 1 = .ok (.getfield 18, 3) := by decide +kernel
theorem dX2_copyRow_4 : decode cX2_copyRow 4 = .ok (.iload_n 1, 1) := by decide +kernel
theorem dX2_copyRow_5 : decode cX2_copyRow 5 = .ok (.iconst 5, 1) := by decide +kernel
theorem dX2_copyRow_6 : decode cX2_copyRow 6 = .ok (.imul, 1) := by decide +kernel
theorem dX2_copyRow_7 : decode cX2_copyRow 7 = .ok (.aload_n 0, 1) := by decide +kernel
theorem dX2_copyRow_8 : decode cX2_copyRow 8 = .ok (.getfield 18, 3) := by decide +kernel
theorem dX2_copyRow_11 : decode cX2_copyRow 11 = .ok (.iload_n 2, 1) := by decide +kernel
theorem dX2_copyRow_12 : decode cX2_copyRow 12 = .ok (.iconst 5, 1) := by decide +kernel
theorem dX2_copyRow_13 : decode cX2_copyRow 13 = .ok (.imul, 1) := by decide +kernel
theorem dX2_copyRow_14 : decode cX2_copyRow 14 = .ok (.iconst 5, 1) := by decide +kernel
theorem dX2_copyRow_15 : decode cX2_copyRow 15 = .ok (.invokestatic 28, 3) := by decide +kernel
theorem dX2_copyRow_18 : decode cX2_copyRow 18 = .ok (.aload_n 0, 1) := by decide +kernel
theorem dX2_copyRow_19 : decode cX2_copyRow 19 = .ok (.getfield 15, 3) := by decide +kernel
theorem dX2_copyRow_22 : decode cX2_copyRow 22 = .ok (.iload_n 2, 1) := by decide +kernel
theorem dX2_copyRow_23 : decode cX2_copyRow 23 = .ok (.aload_n 0, 1) := by decide +kernel
theorem dX2_copyRow_24 : decode cX2_copyRow 24 = .ok (.getfield 15, 3) := by decide +kernel
theorem dX2_copyRow_27 : decode cX2_copyRow 27 = .ok (.iload_n 1, 1) := by decide +kernel
theorem dX2_copyRow_28 : decode cX2_copyRow 28 = .ok (.iaload, 1) := by decide +kernel
theorem dX2_copyRow_29 : decode cX2_copyRow 29 = .ok (.iastore, 1) := by decide +kernel
theorem dX2_copyRow_30 : decode cX2_copyRow 30 = .ok (.return_, 1) := by decide +kernel
theorem dX3_init_0 : decode cX3_init 0 = .ok (.aload_n 0, 1) := by decide +kernel
theorem dX3_init_1 : decode cX3_init 1 = .ok (.invokespecial 3, 3) := by decide +kernel
theorem dX3_init_4 : decode cX3_init 4 = .ok (.aload_n 0, 1) := by decide +kernel
theorem dX3_init_5 : decode cX3_init 5 = .ok (.bipush 10, 2) := by decide +kernel
theorem dX3_init_7 : decode cX3_init 7 = .ok (.anewarray 9, 3) := by decide +kernel
theorem dX3_init_10 : decode cX3_init 10 = .ok (.putfield 11, 3) := by decide +kernel
theorem dX3_init_13 : decode cX3_init 13 = .ok (.aload_n 0, 1) := by decide +kernel
theorem dX3_init_14 : decode cX3_init 14 = .ok (.iconst 0, 1) := by decide +kernel
theorem dX3_init_15 : decode cX3_init 15 = .ok (.putfield 17, 3) := by decide +kernel
theorem dX3_init_18 : decode cX3_init 18 = .ok (.aload_n 0, 1) := by decide +kernel
theorem dX3_init_19 : decode cX3_init 19 = .ok (.iconst 0, 1) := by decide +kernel
theorem dX3_init_20 : decode cX3_init 20 = .ok (.putfield 21, 3) := by decide +kernel
theorem dX3_init_23 : decode cX3_init 23 = .ok (.iconst 0, 1) := by decide +kernel
theorem dX3_init_24 : decode cX3_init 24 = .ok (.istore_n 1, 1) := by decide +kernel
theorem dX3_init_25 : decode cX3_init 25 = .ok (.iload_n 1, 1) := by decide +kernel
theorem dX3_init_26 : decode cX3_init 26 = .ok (.bipush 10, 2) := by decide +kernel
theorem dX3_init_28 : decode cX3_init 28 = .ok (.if_icmp .ge 22, 3) := by decide +kernel
theorem dX3_init_31 : decode cX3_init 31 = .ok (.aload_n 0, 1) := by decide +kernel
theorem dX3_init_32 : decode cX3_init 32 = .ok (.getfield 11, 3) := by decide +kernel
theorem dX3_init_35 : decode cX3_init 35 = .ok (.iload_n 1, 1) := by decide +kernel
theorem dX3_init_36 : decode cX3_init 36 = .ok (.new 9, 3) := by decide +kernel
theorem dX3_init_39 : decode cX3_init 39 = .ok (.dup, 1) := by decide +kernel
theorem dX3_init_40 : decode cX3_init 40 = .ok (.invokespecial 24, 3) := by decide +kernel
theorem dX3_init_43 : decode cX3_init 43 = .ok (.aastore, 1) := by decide +kernel
theorem dX3_init_44 : decode cX3_init 44 = .ok (.iinc 1 1, 3) := by decide +kernel
theorem dX3_init_47 : decode cX3_init 47 = .ok (.goto (-22), 3) := by decide +kernel
theorem dX3_init_50 : decode cX3_init 50 = .ok (.return_, 1) := by decide +kernel
theorem dX3_empty_0 : decode cX3_empty 0 = .ok (.aload_n 0, 1) := by decide +kernel
theorem dX3_empty_1 : decode cX3_empty 1 = .ok (.iconst 0, 1) := by decide +kernel
theorem dX3_empty_2 : decode cX3_empty 2 = .ok (.putfield 21, 3) := by decide +kernel
theorem dX3_empty_5 : decode cX3_empty 5 = .ok (.return_, 1) := by decide +kernel
theorem dX3_remember_0 : decode cX3_remember 0 = .ok (.aload_n 0, 1) := by decide +kernel
theorem dX3_remember_1 : decode cX3_remember 1 = .ok (.getfield 11, 3) := by decide +kernel
theorem dX3_remember_4 : decode cX3_remember 4 = .ok (.aload_n 0, 1) := by decide +kernel
theorem dX3_remember_5 : decode cX3_remember 5 = .ok (.getfield 17, 3) := by decide +kernel
theorem dX3_remember_8 : decode cX3_remember 8 = .ok (.aaload, 1) := by decide +kernel
theorem dX3_remember_9 : decode cX3_remember 9 = .ok (.aload_n 1, 1) := by decide +kernel
theorem dX3_remember_10 : decode cX3_remember 10 = .ok (.invokevirtual 25, 3) := by decide +kernel
theorem dX3_remember_13 : decode cX3_remember 13 = .ok (.aload_n 0, 1) := by decide +kernel
theorem dX3_remember_14 : decode cX3_remember 14 = .ok (.aload_n 0, 1) := by decide +kernel
theorem dX3_remember_15 : decode cX3_remember 15 = .ok (.getfield 17, 3) := by decide +kernel
theorem dX3_remember_18 : decode cX3_remember 18 = .ok (.iconst 1, 1) := by decide +kernel
theorem dX3_remember_19 : decode cX3_remember 19 = .ok (.iadd, 1) := by decide +kernel
theorem dX3_remember_20 : decode cX3_remember 20 = .ok (.bipush 10, 2) := by decide +kernel
theorem dX3_remember_22 : decode cX3_remember 22 = .ok (.irem, 1) := by decide +kernel
theorem dX3_remember_23 : decode cX3_remember 23 = .ok (.putfield 17, 3) := by decide +kernel
theorem dX3_remember_26 : decode cX3_remember 26 = .ok (.aload_n 0, 1) := by decide +kernel
theorem dX3_remember_27 : decode cX3_remember 27 = .ok (.bipush 10, 2) := by decide +kernel
theorem dX3_remember_29 : decode cX3_remember 29 = .ok (.aload_n 0, 1) := by decide +kernel
theorem dX3_remember_30 : decode cX3_remember 30 = .ok (.getfield 21, 3) := by decide +kernel
theorem dX3_remember_33 : decode cX3_remember 33 = .ok (.iconst 1, 1) := by decide +kernel
theorem dX3_remember_34 : decode cX3_remember 34 = .ok (.iadd, 1) := by decide +kernel
theorem dX3_remember_35 : decode cX3_remember 35 = .ok (.invokestatic 29, 3) := by decide +kernel
theorem dX3_remember_38 : decode cX3_remember 38 = .ok (.putfield 21, 3) := by decide +kernel
theorem dX3_remember_41 : decode cX3_remember 41 = .ok (.return_, 1) := by decide +kernel
theorem dX3_restore_0 : decode cX3_restore 0 = .ok (.aload_n 0, 1) := by decide +kernel
theorem dX3_restore_1 : decode cX3_restore 1 = .ok (.getfield 21, 3) := by decide +kernel
theorem dX3_restore_4 : decode cX3_restore 4 = .ok (.ifCond .ne 4, 3) := by decide +kernel
theorem dX3_restore_7 : decode cX3_restore 7 = .ok (.return_, 1) := by decide +kernel
theorem dX3_restore_8 : decode cX3_restore 8 = .ok (.aload_n 0, 1) := by decide +kernel
theorem dX3_restore_9 : decode cX3_restore 9 = .ok (.aload_n 0, 1) := by decide +kernel
theorem dX3_restore_10 : decode cX3_restore 10 = .ok (.getfield 17, 3) := by decide +kernel
theorem dX3_restore_13 : decode cX3_restore 13 = .ok (.bipush 10, 2) := by decide +kernel
theorem dX3_restore_15 : decode cX3_restore 15 = .ok (.iadd, 1) := by decide +kernel
theorem dX3_restore_16 : decode cX3_restore 16 = .ok (.iconst 1, 1) := by decide +kernel
theorem dX3_restore_17 : decode cX3_restore 17 = .ok (.isub, 1) := by decide +kernel
theorem dX3_restore_18 : decode cX3_restore 18 = .ok (.bipush 10, 2) := by decide +kernel
theorem dX3_restore_20 : decode cX3_restore 20 = .ok (.irem, 1) := by decide +kernel
theorem dX3_restore_21 : decode cX3_restore 21 = .ok (.putfield 17, 3) := by decide +kernel
theorem dX3_restore_24 : decode cX3_restore 24 = .ok (.aload_n 0, 1) := by decide +kernel
theorem dX3_restore_25 : decode cX3_restore 25 = .ok (.dup, 1) := by decide +kernel
theorem dX3_restore_26 : decode cX3_restore 26 = .ok (.getfield 21, 3) := by decide +kernel
theorem dX3_restore_29 : decode cX3_restore 29 = .ok (.iconst 1, 1) := by decide +kernel
theorem dX3_restore_30 : decode cX3_restore 30 = .ok (.isub, 1) := by decide +kernel
theorem dX3_restore_31 : decode cX3_restore 31 = .ok (.putfield 21, 3) := by decide +kernel
theorem dX3_restore_34 : decode cX3_restore 34 = .ok (.aload_n 1, 1) := by decide +kernel
theorem dX3_restore_35 : decode cX3_restore 35 = .ok (.aload_n 0, 1) := by decide +kernel
theorem dX3_restore_36 : decode cX3_restore 36 = .ok (.getfield 11, 3) := by decide +kernel
theorem dX3_restore_39 : decode cX3_restore 39 = .ok (.aload_n 0, 1) := by decide +kernel
theorem dX3_restore_40 : decode cX3_restore 40 = .ok (.getfield 17, 3) := by decide +kernel
theorem dX3_restore_43 : decode cX3_restore 43 = .ok (.aaload, 1) := by decide +kernel
theorem dX3_restore_44 : decode cX3_restore 44 = .ok (.invokevirtual 25, 3) := by decide +kernel
theorem dX3_restore_47 : decode cX3_restore 47 = .ok (.return_, 1) := by decide +kernel
theorem dX4_init_0 : decode cX4_init 0 = .ok (.aload_n 0, 1) := by decide +kernel
theorem dX4_init_1 : decode cX4_init 1 = .ok (.invokespecial 3, 3) := by decide +kernel
theorem dX4_init_4 : decode cX4_init 4 = .ok (.aload_n 0, 1) := by decide +kernel
theorem dX4_init_5 : decode cX4_init 5 = .ok (.iconst 0, 1) := by decide +kernel
theorem dX4_init_6 : decode cX4_init 6 = .ok (.putfield 9, 3) := by decide +kernel
theorem dX4_init_9 : decode cX4_init 9 = .ok (.aload_n 0, 1) := by decide +kernel
theorem dX4_init_10 : decode cX4_init 10 = .ok (.iconst 0, 1) := by decide +kernel
theorem dX4_init_11 : decode cX4_init 11 = .ok (.putfield 15, 3) := by decide +kernel
theorem dX4_init_14 : decode cX4_init 14 = .ok (.aload_n 0, 1) := by decide +kernel
theorem dX4_init_15 : decode cX4_init 15 = .ok (.sipush 1000, 3) := by decide +kernel
theorem dX4_init_18 : decode cX4_init 18 = .ok (.putfield 18, 3) := by decide +kernel
theorem dX4_init_21 : decode cX4_init 21 = .ok (.aload_n 0, 1) := by decide +kernel
theorem dX4_init_22 : decode cX4_init 22 = .ok (.bipush 20, 2) := by decide +kernel
theorem dX4_init_24 : decode cX4_init 24 = .ok (.newarray .int, 2) := by decide +kernel
theorem dX4_init_26 : decode cX4_init 26 = .ok (.putfield 21, 3) := by decide +kernel
theorem dX4_init_29 : decode cX4_init 29 = .ok (.aload_n 0, 1) := by decide +kernel
theorem dX4_init_30 : decode cX4_init 30 = .ok (.bipush 20, 2) := by decide +kernel
theorem dX4_init_32 : decode cX4_init 32 = .ok (.newarray .int, 2) := by decide +kernel
theorem dX4_init_34 : decode cX4_init 34 = .ok (.putfield 25, 3) := by decide +kernel
theorem dX4_init_37 : decode cX4_init 37 = .ok (.aload_n 0, 1) := by decide +kernel
theorem dX4_init_38 : decode cX4_init 38 = .ok (.bipush 7, 2) := by decide +kernel
theorem dX4_init_40 : decode cX4_init 40 = .ok (.bipush 20, 2) := by decide +kernel
theorem dX4_init_42 : decode cX4_init 42 = .ok (.multianewarray 28 2, 4) := by decide +kernel
theorem dX4_init_46 : decode cX4_init 46 = .ok (.putfield 30, 3) := by decide +kernel
theorem dX4_init_49 : decode cX4_init 49 = .ok (.aload_n 0, 1) := by decide +kernel
theorem dX4_init_50 : decode cX4_init 50 = .ok (.bipush 6, 2) := by decide +kernel
theorem dX4_init_52 : decode cX4_init 52 = .ok (.newarray .int, 2) := by decide +kernel
theorem dX4_init_54 : decode cX4_init 54 = .ok (.putfield 33, 3) := by decide +kernel
theorem dX4_init_57 : decode cX4_init 57 = .ok (.aload_n 0, 1) := by decide +kernel
theorem dX4_init_58 : decode cX4_init 58 = .ok (.bipush 6, 2) := by decide +kernel
theorem dX4_init_60 : decode cX4_init 60 = .ok (.newarray .int, 2) := by decide +kernel
theorem dX4_init_62 : decode cX4_init 62 = .ok (.putfield 36, 3) := by decide +kernel
theorem dX4_init_65 : decode cX4_init 65 = .ok (.aload_n 0, 1) := by decide +kernel
theorem dX4_init_66 : decode cX4_init 66 = .ok (.bipush 6, 2) := by decide +kernel
theorem dX4_init_68 : decode cX4_init 68 = .ok (.newarray .int, 2) := by decide +kernel
theorem dX4_init_70 : decode cX4_init 70 = .ok (.putfield 39, 3) := by decide +kernel
theorem dX4_init_73 : decode cX4_init 73 = .ok (.return_, 1) := by decide +kernel
theorem dX4_begin_0 : decode cX4_begin 0 = .ok (.aload_n 0, 1) := by decide +kernel
theorem dX4_begin_1 : decode cX4_begin 1 = .ok (.aload_n 1, 1) := by decide +kernel
theorem dX4_begin_2 : decode cX4_begin 2 = .ok (.getfield 42, 3) := by decide +kernel
theorem dX4_begin_5 : decode cX4_begin 5 = .ok (.putfield 9, 3) := by decide +kernel
theorem dX4_begin_8 : decode cX4_begin 8 = .ok (.aload_n 3, 1) := by decide +kernel
theorem dX4_begin_9 : decode cX4_begin 9 = .ok (.iconst 0, 1) := by decide +kernel
theorem dX4_begin_10 : decode cX4_begin 10 = .ok (.aload_n 0, 1) := by decide +kernel
theorem dX4_begin_11 : decode cX4_begin 11 = .ok (.getfield 33, 3) := by decide +kernel
theorem dX4_begin_14 : decode cX4_begin 14 = .ok (.iconst 0, 1) := by decide +kernel
theorem dX4_begin_15 : decode cX4_begin 15 = .ok (.bipush 6, 2) := by decide +kernel
theorem dX4_begin_17 : decode cX4_begin 17 = .ok (.invokestatic 45, 3) := by decide +kernel
theorem dX4_begin_20 : decode cX4_begin 20 = .ok (.aload_n 1, 1) := by decide +kernel
theorem dX4_begin_21 : decode cX4_begin 21 = .ok (.getfield 51, 3) := by decide +kernel
theorem dX4_begin_24 : decode cX4_begin 24 = .ok (.iconst 0, 1) := by decide +kernel
theorem dX4_begin_25 : decode cX4_begin 25 = .ok (.aload_n 0, 1) := by decide +kernel
theorem dX4_begin_26 : decode cX4_begin 26 = .ok (.getfield 36, 3) := by decide +kernel
theorem dX4_begin_29 : decode cX4_begin 29 = .ok (.iconst 0, 1) := by decide +kernel
theorem dX4_begin_30 : decode cX4_begin 30 = .ok (.bipush 6, 2) := by decide +kernel
theorem dX4_begin_32 : decode cX4_begin 32 = .ok (.invokestatic 45, 3) := by decide +kernel
theorem dX4_begin_35 : decode cX4_begin 35 = .ok (.aload_n 0, 1) := by decide +kernel
theorem dX4_begin_36 : decode cX4_begin 36 = .ok (.iconst 0, 1) := by decide +kernel
theorem dX4_begin_37 : decode cX4_begin 37 = .ok (.putfield 15, 3) := by decide +kernel
theorem dX4_begin_40 : decode cX4_begin 40 = .ok (.iconst 0, 1) := by decide +kernel
theorem dX4_begin_41 : decode cX4_begin 41 = .ok (.istore 6, 2) := by decide +kernel
theorem dX4_begin_43 : decode cX4_begin 43 = .ok (.iload 6, 2) := by decide +kernel
theorem dX4_begin_45 : decode cX4_begin 45 = .ok (.aload_n 2, 1) := by decide +kernel
theorem dX4_begin_46 : decode cX4_begin 46 = .ok (.getfield 52, 3) := by decide +kernel
theorem dX4_begin_49 : decode cX4_begin 49 = .ok (.if_icmp .ge 28, 3) := by decide +kernel
theorem dX4_begin_52 : decode cX4_begin 52 = .ok (.lload 4, 2) := by decide +kernel
theorem dX4_begin_54 : decode cX4_begin 54 = .ok (.iload 6, 2) := by decide +kernel
theorem dX4_begin_56 : decode cX4_begin 56 = .ok (.lshr, 1) := by decide +kernel
theorem dX4_begin_57 : decode cX4_begin 57 = .ok (.lconst 1, 1) := by decide +kernel
theorem dX4_begin_58 : decode cX4_begin 58 = .ok (.land, 1) := by decide +kernel
theorem dX4_begin_59 : decode cX4_begin 59 = .ok (.lconst 1, 1) := by decide +kernel
theorem dX4_begin_60 : decode cX4_begin 60 = .ok (.lcmp, 1) := by decide +kernel
theorem dX4_begin_61 : decode cX4_begin 61 = .ok (.ifCond .ne 10, 3) := by decide +kernel
theorem dX4_begin_64 : decode cX4_begin 64 = .ok (.aload_n 0, 1) := by decide +kernel
theorem dX4_begin_65 : decode cX4_begin 65 = .ok (.aload_n 2, 1) := by decide +kernel
theorem dX4_begin_66 : decode cX4_begin 66 = .ok (.iload 6, 2) := by decide +kernel
theorem dX4_begin_68 : decode cX4_begin 68 = .ok (.invokevirtual 57, 3) := by decide +kernel
theorem dX4_begin_71 : decode cX4_begin 71 = .ok (.iinc 6 1, 3) := by decide +kernel
theorem dX4_begin_74 : decode cX4_begin 74 = .ok (.goto (-31), 3) := by decide +kernel
theorem dX4_begin_77 : decode cX4_begin 77 = .ok (.return_, 1) := by decide +kernel
theorem dX4_bindWay_0 : decode cX4_bindWay 0 = .ok (.iconst 0, 1) := by decide +kernel
theorem dX4_bindWay_1 : decode cX4_bindWay 1 = .ok (.istore_n 3, 1) := by decide +kernel
theorem dX4_bindWay_2 : decode cX4_bindWay 2 = .ok (.iload_n 3, 1) := by decide +kernel
theorem dX4_bindWay_3 : decode cX4_bindWay 3 = .ok (.aload_n 1, 1) := by decide +kernel
theorem dX4_bindWay_4 : decode cX4_bindWay 4 = .ok (.getfield 52, 3) := by decide +kernel
theorem dX4_bindWay_7 : decode cX4_bindWay 7 = .ok (.if_icmp .ge 139, 3) := by decide +kernel
theorem dX4_bindWay_10 : decode cX4_bindWay 10 = .ok (.iload_n 3, 1) := by decide +kernel
theorem dX4_bindWay_11 : decode cX4_bindWay 11 = .ok (.iload_n 2, 1) := by decide +kernel
theorem dX4_bindWay_12 : decode cX4_bindWay 12 = .ok (.if_icmp .eq 128, 3) := by decide +kernel
theorem dX4_bindWay_15 : decode cX4_bindWay 15 = .ok (.aload_n 1, 1) := by decide +kernel
theorem dX4_bindWay_16 : decode cX4_bindWay 16 = .ok (.getfield 61, 3) := by decide +kernel
theorem dX4_bindWay_19 : decode cX4_bindWay 19 = .ok (.iload_n 3, 1) := by decide +kernel
theorem dX4_bindWay_20 : decode cX4_bindWay 20 = .ok (.iaload, 1) := by decide +kernel
theorem dX4_bindWay_21 : decode cX4_bindWay 21 = .ok (.aload_n 1, 1) := by decide +kernel
theorem dX4_bindWay_22 : decode cX4_bindWay 22 = .ok (.getfield 61, 3) := by decide +kernel
theorem dX4_bindWay_25 : decode cX4_bindWay 25 = .ok (.iload_n 2, 1) := by decide +kernel
theorem dX4_bindWay_26 : decode cX4_bindWay 26 = .ok (.iaload, 1) := by decide +kernel
theorem dX4_bindWay_27 : decode cX4_bindWay 27 = .ok (.if_icmp .ne 113, 3) := by decide +kernel
theorem dX4_bindWay_30 : decode cX4_bindWay 30 = .ok (.aload_n 0, 1) := by decide +kernel
theorem dX4_bindWay_31 : decode cX4_bindWay 31 = .ok (.getfield 15, 3) := by decide +kernel
theorem dX4_bindWay_34 : decode cX4_bindWay 34 = .ok (.aload_n 0, 1) := by decide +kernel
theorem dX4_bindWay_35 : decode cX4_bindWay 35 = .ok (.getfield 21, 3) := by decide +kernel
theorem dX4_bindWay_38 : decode cX4_bindWay 38 = .ok (.arraylength, 1) := by decide +kernel
theorem dX4_bindWay_39 : decode cX4_bindWay 39 = .ok (.if_icmp .ge 101, 3) := by decide +kernel
theorem dX4_bindWay_42 : decode cX4_bindWay 42 = .ok (.aload_n 1, 1) := by decide +kernel
theorem dX4_bindWay_43 : decode cX4_bindWay 43 = .ok (.getfield 64, 3) := by decide +kernel
theorem dX4_bindWay_46 : decode cX4_bindWay 46 = .ok (.iload_n 2, 1) := by decide +kernel
theorem dX4_bindWay_47 : decode cX4_bindWay 47 = .ok (.iaload, 1) := by decide +kernel
theorem dX4_bindWay_48 : decode cX4_bindWay 48 = .ok (.istore 4, 2) := by decide +kernel
theorem dX4_bindWay_50 : decode cX4_bindWay 50 = .ok (.aload_n 1, 1) := by decide +kernel
theorem dX4_bindWay_51 : decode cX4_bindWay 51 = .ok (.getfield 64, 3) := by decide +kernel
theorem dX4_bindWay_54 : decode cX4_bindWay 54 = .ok (.iload_n 3, 1) := by decide +kernel
theorem dX4_bindWay_55 : decode cX4_bindWay 55 = .ok (.iaload, 1) := by decide +kernel
theorem dX4_bindWay_56 : decode cX4_bindWay 56 = .ok (.istore 5, 2) := by decide +kernel
theorem dX4_bindWay_58 : decode cX4_bindWay 58 = .ok (.aload_n 0, 1) := by decide +kernel
theorem dX4_bindWay_59 : decode cX4_bindWay 59 = .ok (.getfield 21, 3) := by decide +kernel
theorem dX4_bindWay_62 : decode cX4_bindWay 62 = .ok (.aload_n 0, 1) := by decide +kernel
theorem dX4_bindWay_63 : decode cX4_bindWay 63 = .ok (.getfield 15, 3) := by decide +kernel
theorem dX4_bindWay_66 : decode cX4_bindWay 66 = .ok (.iload 4, 2) := by decide +kernel
theorem dX4_bindWay_68 : decode cX4_bindWay 68 = .ok (.iload 5, 2) := by decide +kernel
theorem dX4_bindWay_70 : decode cX4_bindWay 70 = .ok (.iconst (-1), 1) := by decide +kernel
theorem dX4_bindWay_71 : decode cX4_bindWay 71 = .ok (.ixor, 1) := by decide +kernel
theorem dX4_bindWay_72 : decode cX4_bindWay 72 = .ok (.iand, 1) := by decide +kernel
theorem dX4_bindWay_73 : decode cX4_bindWay 73 = .ok (.iastore, 1) := by decide +kernel
theorem dX4_bindWay_74 : decode cX4_bindWay 74 = .ok (.aload_n 0, 1) := by decide +kernel
theorem dX4_bindWay_75 : decode cX4_bindWay 75 = .ok (.getfield 25, 3) := by decide +kernel
theorem dX4_bindWay_78 : decode cX4_bindWay 78 = .ok (.aload_n 0, 1) := by decide +kernel
theorem dX4_bindWay_79 : decode cX4_bindWay 79 = .ok (.getfield 15, 3) := by decide +kernel
theorem dX4_bindWay_82 : decode cX4_bindWay 82 = .ok (.iload 5, 2) := by decide +kernel
theorem dX4_bindWay_84 : decode cX4_bindWay 84 = .ok (.iload 4, 2) := by decide +kernel
theorem dX4_bindWay_86 : decode cX4_bindWay 86 = .ok (.iconst (-1), 1) := by decide +kernel
theorem dX4_bindWay_87 : decode cX4_bindWay 87 = .ok (.ixor, 1) := by decide +kernel
theorem dX4_bindWay_88 : decode cX4_bindWay 88 = .ok (.iand, 1) := by decide +kernel
theorem dX4_bindWay_89 : decode cX4_bindWay 89 = .ok (.iastore, 1) := by decide +kernel
theorem dX4_bindWay_90 : decode cX4_bindWay 90 = .ok (.aload_n 0, 1) := by decide +kernel
theorem dX4_bindWay_91 : decode cX4_bindWay 91 = .ok (.getfield 30, 3) := by decide +kernel
theorem dX4_bindWay_94 : decode cX4_bindWay 94 = .ok (.iconst 0, 1) := by decide +kernel
theorem dX4_bindWay_95 : decode cX4_bindWay 95 = .ok (.aaload, 1) := by decide +kernel
theorem dX4_bindWay_96 : decode cX4_bindWay 96 = .ok (.aload_n 0, 1) := by decide +kernel
theorem dX4_bindWay_97 : decode cX4_bindWay 97 = .ok (.getfield 15, 3) := by decide +kernel
