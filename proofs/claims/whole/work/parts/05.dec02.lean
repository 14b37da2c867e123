theorem dX7_readItem_83 : decode cX7_readItem 83 = .ok (.aload_n 1, 1) := by decide +kernel
theorem dX7_readItem_84 : decode cX7_readItem 84 = .ok (.aload_n 2, 1) := by decide +kernel
theorem dX7_readItem_85 : decode cX7_readItem 85 = .ok (.invokevirtual 56, 3) := by decide +kernel
theorem dX7_readItem_88 : decode cX7_readItem 88 = .ok (.ifCond .eq 7, 3) := by decide +kernel
theorem dX7_readItem_91 : decode cX7_readItem 91 = .ok (.iconst 1, 1) := by decide +kernel
theorem dX7_readItem_92 : decode cX7_readItem 92 = .ok (.goto 4, 3) := by decide +kernel
theorem dX7_readItem_95 : decode cX7_readItem 95 = .ok (.iconst 0, 1) := by decide +kernel
theorem dX7_readItem_96 : decode cX7_readItem 96 = .ok (.ireturn, 1) := by decide +kernel
theorem dX7_readItem_97 : decode cX7_readItem 97 = .ok (.iconst 0, 1) := by decide +kernel
theorem dX7_readItem_98 : decode cX7_readItem 98 = .ok (.ireturn, 1) := by decide +kernel
theorem dX7_readPlaces_0 : decode cX7_readPlaces 0 = .ok (.aload_n 0, 1) := by decide +kernel
theorem dX7_readPlaces_1 : decode cX7_readPlaces 1 = .ok (.iconst 2, 1) := by decide +kernel
theorem dX7_readPlaces_2 : decode cX7_readPlaces 2 = .ok (.iconst 5, 1) := by decide +kernel
theorem dX7_readPlaces_3 : decode cX7_readPlaces 3 = .ok (.invokevirtual 59, 3) := by decide +kernel
theorem dX7_readPlaces_6 : decode cX7_readPlaces 6 = .ok (.ifCond .ne 5, 3) := by decide +kernel
theorem dX7_readPlaces_9 : decode cX7_readPlaces 9 = .ok (.iconst 0, 1) := by decide +kernel
theorem dX7_readPlaces_10 : decode cX7_readPlaces 10 = .ok (.ireturn, 1) := by decide +kernel
theorem dX7_readPlaces_11 : decode cX7_readPlaces 11 = .ok (.aload_n 1, 1) := by decide +kernel
theorem dX7_readPlaces_12 : decode cX7_readPlaces 12 = .ok (.aload_n 0, 1) := by decide +kernel
theorem dX7_readPlaces_13 : decode cX7_readPlaces 13 = .ok (.getfield 28, 3) := by decide +kernel
theorem dX7_readPlaces_16 : decode cX7_readPlaces 16 = .ok (.putfield 63, 3) := by decide +kernel
theorem dX7_readPlaces_19 : decode cX7_readPlaces 19 = .ok (.aload_n 0, 1) := by decide +kernel
theorem dX7_readPlaces_20 : decode cX7_readPlaces 20 = .ok (.invokevirtual 66, 3) := by decide +kernel
theorem dX7_readPlaces_23 : decode cX7_readPlaces 23 = .ok (.ireturn, 1) := by decide +kernel
theorem dX7_readLane_0 : decode cX7_readLane 0 = .ok (.aload_n 0, 1) := by decide +kernel
theorem dX7_readLane_1 : decode cX7_readLane 1 = .ok (.iconst 0, 1) := by decide +kernel
theorem dX7_readLane_2 : decode cX7_readLane 2 = .ok (.aload_n 1, 1) := by decide +kernel
theorem dX7_readLane_3 : decode cX7_readLane 3 = .ok (.getfield 63, 3) := by decide +kernel
theorem dX7_readLane_6 : decode cX7_readLane 6 = .ok (.iconst 1, 1) := by decide +kernel
theorem dX7_readLane_7 : decode cX7_readLane 7 = .ok (.isub, 1) := by decide +kernel
theorem dX7_readLane_8 : decode cX7_readLane 8 = .ok (.invokevirtual 59, 3) := by decide +kernel
theorem dX7_readLane_11 : decode cX7_readLane 11 = .ok (.ifCond .ne 5, 3) := by decide +kernel
theorem dX7_readLane_14 : decode cX7_readLane 14 = .ok (.iconst 0, 1) := by decide +kernel
theorem dX7_readLane_15 : decode cX7_readLane 15 = .ok (.ireturn, 1) := by decide +kernel
theorem dX7_readLane_16 : decode cX7_readLane 16 = .ok (.aload_n 0, 1) := by decide +kernel
theorem dX7_readLane_17 : decode cX7_readLane 17 = .ok (.getfield 28, 3) := by decide +kernel
theorem dX7_readLane_20 : decode cX7_readLane 20 = .ok (.istore_n 3, 1) := by decide +kernel
theorem dX7_readLane_21 : decode cX7_readLane 21 = .ok (.aload_n 0, 1) := by decide +kernel
theorem dX7_readLane_22 : decode cX7_readLane 22 = .ok (.iconst 0, 1) := by decide +kernel
theorem dX7_readLane_23 : decode cX7_readLane 23 = .ok (.aload_n 1, 1) := by decide +kernel
theorem dX7_readLane_24 : decode cX7_readLane 24 = .ok (.getfield 63, 3) := by decide +kernel
theorem dX7_readLane_27 : decode cX7_readLane 27 = .ok (.iconst 1, 1) := by decide +kernel
theorem dX7_readLane_28 : decode cX7_readLane 28 = .ok (.isub, 1) := by decide +kernel
theorem dX7_readLane_29 : decode cX7_readLane 29 = .ok (.invokevirtual 59, 3) := by decide +kernel
theorem dX7_readLane_32 : decode cX7_readLane 32 = .ok (.ifCond .eq 25, 3) := by decide +kernel
theorem dX7_readLane_35 : decode cX7_readLane 35 = .ok (.aload_n 0, 1) := by decide +kernel
theorem dX7_readLane_36 : decode cX7_readLane 36 = .ok (.getfield 28, 3) := by decide +kernel
theorem dX7_readLane_39 : decode cX7_readLane 39 = .ok (.iload_n 3, 1) := by decide +kernel
theorem dX7_readLane_40 : decode cX7_readLane 40 = .ok (.if_icmp .eq 17, 3) := by decide +kernel
theorem dX7_readLane_43 : decode cX7_readLane 43 = .ok (.aload_n 1, 1) := by decide +kernel
theorem dX7_readLane_44 : decode cX7_readLane 44 = .ok (.iload_n 3, 1) := by decide +kernel
theorem dX7_readLane_45 : decode cX7_readLane 45 = .ok (.aload_n 0, 1) := by decide +kernel
theorem dX7_readLane_46 : decode cX7_readLane 46 = .ok (.getfield 28, 3) := by decide +kernel
theorem dX7_readLane_49 : decode cX7_readLane 49 = .ok (.invokevirtual 70, 3) := by decide +kernel
theorem dX7_readLane_52 : decode cX7_readLane 52 = .ok (.bipush (-9), 2) := by decide +kernel
theorem dX7_readLane_54 : decode cX7_readLane 54 = .ok (.if_icmp .eq 5, 3) := by decide +kernel
theorem dX7_readLane_57 : decode cX7_readLane 57 = .ok (.iconst 0, 1) := by decide +kernel
theorem dX7_readLane_58 : decode cX7_readLane 58 = .ok (.ireturn, 1) := by decide +kernel
theorem dX7_readLane_59 : decode cX7_readLane 59 = .ok (.aload_n 0, 1) := by decide +kernel
theorem dX7_readLane_60 : decode cX7_readLane 60 = .ok (.getfield 28, 3) := by decide +kernel
theorem dX7_readLane_63 : decode cX7_readLane 63 = .ok (.istore 4, 2) := by decide +kernel
theorem dX7_readLane_65 : decode cX7_readLane 65 = .ok (.aload_n 0, 1) := by decide +kernel
theorem dX7_readLane_66 : decode cX7_readLane 66 = .ok (.iconst 1, 1) := by decide +kernel
theorem dX7_readLane_67 : decode cX7_readLane 67 = .ok (.iconst 5, 1) := by decide +kernel
theorem dX7_readLane_68 : decode cX7_readLane 68 = .ok (.invokevirtual 59, 3) := by decide +kernel
theorem dX7_readLane_71 : decode cX7_readLane 71 = .ok (.ifCond .ne 5, 3) := by decide +kernel
theorem dX7_readLane_74 : decode cX7_readLane 74 = .ok (.iconst 0, 1) := by decide +kernel
theorem dX7_readLane_75 : decode cX7_readLane 75 = .ok (.ireturn, 1) := by decide +kernel
theorem dX7_readLane_76 : decode cX7_readLane 76 = .ok (.aload_n 2, 1) := by decide +kernel
theorem dX7_readLane_77 : decode cX7_readLane 77 = .ok (.getfield 74, 3) := by decide +kernel
theorem dX7_readLane_80 : decode cX7_readLane 80 = .ok (.aload_n 1, 1) := by decide +kernel
theorem dX7_readLane_81 : decode cX7_readLane 81 = .ok (.getfield 42, 3) := by decide +kernel
theorem dX7_readLane_84 : decode cX7_readLane 84 = .ok (.aload_n 0, 1) := by decide +kernel
theorem dX7_readLane_85 : decode cX7_readLane 85 = .ok (.getfield 28, 3) := by decide +kernel
theorem dX7_readLane_88 : decode cX7_readLane 88 = .ok (.iastore, 1) := by decide +kernel
theorem dX7_readLane_89 : decode cX7_readLane 89 = .ok (.aload_n 0, 1) := by decide +kernel
theorem dX7_readLane_90 : decode cX7_readLane 90 = .ok (.iconst 1, 1) := by decide +kernel
theorem dX7_readLane_91 : decode cX7_readLane 91 = .ok (.bipush 9, 2) := by decide +kernel
theorem dX7_readLane_93 : decode cX7_readLane 93 = .ok (.invokevirtual 59, 3) := by decide +kernel
theorem dX7_readLane_96 : decode cX7_readLane 96 = .ok (.ifCond .ne 5, 3) := by decide +kernel
theorem dX7_readLane_99 : decode cX7_readLane 99 = .ok (.iconst 0, 1) := by decide +kernel
theorem dX7_readLane_100 : decode cX7_readLane 100 = .ok (.ireturn, 1) := by decide +kernel
theorem dX7_readLane_101 : decode cX7_readLane 101 = .ok (.aload_n 1, 1) := by decide +kernel
theorem dX7_readLane_102 : decode cX7_readLane 102 = .ok (.iload_n 3, 1) := by decide +kernel
theorem dX7_readLane_103 : decode cX7_readLane 103 = .ok (.iload 4, 2) := by decide +kernel
theorem dX7_readLane_105 : decode cX7_readLane 105 = .ok (.aload_n 0, 1) := by decide +kernel
theorem dX7_readLane_106 : decode cX7_readLane 106 = .ok (.getfield 28, 3) := by decide +kernel
theorem dX7_readLane_109 : decode cX7_readLane 109 = .ok (.invokevirtual 77, 3) := by decide +kernel
theorem dX7_readLane_112 : decode cX7_readLane 112 = .ok (.aload_n 0, 1) := by decide +kernel
theorem dX7_readLane_113 : decode cX7_readLane 113 = .ok (.invokevirtual 66, 3) := by decide +kernel
theorem dX7_readLane_116 : decode cX7_readLane 116 = .ok (.ireturn, 1) := by decide +kernel
theorem dX7_readMap_0 : decode cX7_readMap 0 = .ok (.aload_n 2, 1) := by decide +kernel
theorem dX7_readMap_1 : decode cX7_readMap 1 = .ok (.getfield 51, 3) := by decide +kernel
theorem dX7_readMap_4 : decode cX7_readMap 4 = .ok (.istore_n 3, 1) := by decide +kernel
theorem dX7_readMap_5 : decode cX7_readMap 5 = .ok (.aload_n 2, 1) := by decide +kernel
theorem dX7_readMap_6 : decode cX7_readMap 6 = .ok (.getfield 81, 3) := by decide +kernel
theorem dX7_readMap_9 : decode cX7_readMap 9 = .ok (.iload_n 3, 1) := by decide +kernel
theorem dX7_readMap_10 : decode cX7_readMap 10 = .ok (.iconst 0, 1) := by decide +kernel
theorem dX7_readMap_11 : decode cX7_readMap 11 = .ok (.iastore, 1) := by decide +kernel
theorem dX7_readMap_12 : decode cX7_readMap 12 = .ok (.iconst 0, 1) := by decide +kernel
theorem dX7_readMap_13 : decode cX7_readMap 13 = .ok (.istore 4, 2) := by decide +kernel
theorem dX7_readMap_15 : decode cX7_readMap 15 = .ok (.iload 4, 2) := by decide +kernel
theorem dX7_readMap_17 : decode cX7_readMap 17 = .ok (.iconst 5, 1) := by decide +kernel
theorem dX7_readMap_18 : decode cX7_readMap 18 = .ok (.if_icmp .ge 83, 3) := by decide +kernel
theorem dX7_readMap_21 : decode cX7_readMap 21 = .ok (.aload_n 0, 1) := by decide +kernel
theorem dX7_readMap_22 : decode cX7_readMap 22 = .ok (.iconst 0, 1) := by decide +kernel
theorem dX7_readMap_23 : decode cX7_readMap 23 = .ok (.aload_n 1, 1) := by decide +kernel
theorem dX7_readMap_24 : decode cX7_readMap 24 = .ok (.getfield 63, 3) := by decide +kernel
theorem dX7_readMap_27 : decode cX7_readMap 27 = .ok (.iconst 1, 1) := by decide +kernel
theorem dX7_readMap_28 : decode cX7_readMap 28 = .ok (.isub, 1) := by decide +kernel
theorem dX7_readMap_29 : decode cX7_readMap 29 = .ok (.invokevirtual 59, 3) := by decide +kernel
theorem dX7_readMap_32 : decode cX7_readMap 32 = .ok (.istore 5, 2) := by decide +kernel
theorem dX7_readMap_34 : decode cX7_readMap 34 = .ok (.iload 5, 2) := by decide +kernel
theorem dX7_readMap_36 : decode cX7_readMap 36 = .ok (.ifCond .ne 30, 3) := by decide +kernel
theorem dX7_readMap_39 : decode cX7_readMap 39 = .ok (.aload_n 0, 1) := by decide +kernel
theorem dX7_readMap_40 : decode cX7_readMap 40 = .ok (.getfield 25, 3) := by decide +kernel
theorem dX7_readMap_43 : decode cX7_readMap 43 = .ok (.bipush 59, 2) := by decide +kernel
theorem dX7_readMap_45 : decode cX7_readMap 45 = .ok (.if_icmp .ne 21, 3) := by decide +kernel
theorem dX7_readMap_48 : decode cX7_readMap 48 = .ok (.iload 4, 2) := by decide +kernel
theorem dX7_readMap_50 : decode cX7_readMap 50 = .ok (.iconst 2, 1) := by decide +kernel
theorem dX7_readMap_51 : decode cX7_readMap 51 = .ok (.if_icmp .lt 15, 3) := by decide +kernel
theorem dX7_readMap_54 : decode cX7_readMap 54 = .ok (.aload_n 2, 1) := by decide +kernel
theorem dX7_readMap_55 : decode cX7_readMap 55 = .ok (.dup, 1) := by decide +kernel
theorem dX7_readMap_56 : decode cX7_readMap 56 = .ok (.getfield 51, 3) := by decide +kernel
theorem dX7_readMap_59 : decode cX7_readMap 59 = .ok (.iconst 1, 1) := by decide +kernel
theorem dX7_readMap_60 : decode cX7_readMap 60 = .ok (.iadd, 1) := by decide +kernel
theorem dX7_readMap_61 : decode cX7_readMap 61 = .ok (.putfield 51, 3) := by decide +kernel
theorem dX7_readMap_64 : decode cX7_readMap 64 = .ok (.iconst 1, 1) := by decide +kernel
theorem dX7_readMap_65 : decode cX7_readMap 65 = .ok (.ireturn, 1) := by decide +kernel
theorem dX7_readMap_66 : decode cX7_readMap 66 = .ok (.iload 5, 2) := by decide +kernel
theorem dX7_readMap_68 : decode cX7_readMap 68 = .ok (.ifCond .eq 16, 3) := by decide +kernel
theorem dX7_readMap_71 : decode cX7_readMap 71 = .ok (.aload_n 2, 1) := by decide +kernel
theorem dX7_readMap_72 : decode cX7_readMap 72 = .ok (.aload_n 1, 1) := by decide +kernel
theorem dX7_readMap_73 : decode cX7_readMap 73 = .ok (.iload_n 3, 1) := by decide +kernel
theorem dX7_readMap_74 : decode cX7_readMap 74 = .ok (.aload_n 0, 1) := by decide +kernel
theorem dX7_readMap_75 : decode cX7_readMap 75 = .ok (.getfield 28, 3) := by decide +kernel
theorem dX7_readMap_78 : decode cX7_readMap 78 = .ok (.invokevirtual 84, 3) := by decide +kernel
theorem dX7_readMap_81 : decode cX7_readMap 81 = .ok (.ifCond .ne 5, 3) := by decide +kernel
theorem dX7_readMap_84 : decode cX7_readMap 84 = .ok (.iconst 0, 1) := by decide +kernel
theorem dX7_readMap_85 : decode cX7_readMap 85 = .ok (.ireturn, 1) := by decide +kernel
theorem dX7_readMap_86 : decode cX7_readMap 86 = .ok (.aload_n 2, 1) := by decide +kernel
theorem dX7_readMap_87 : decode cX7_readMap 87 = .ok (.iload_n 3, 1) := by decide +kernel
theorem dX7_readMap_88 : decode cX7_readMap 88 = .ok (.aload_n 0, 1) := by decide +kernel
theorem dX7_readMap_89 : decode cX7_readMap 89 = .ok (.getfield 28, 3) := by decide +kernel
theorem dX7_readMap_92 : decode cX7_readMap 92 = .ok (.invokevirtual 88, 3) := by decide +kernel
theorem dX7_readMap_95 : decode cX7_readMap 95 = .ok (.iinc 4 1, 3) := by decide +kernel
theorem dX7_readMap_98 : decode cX7_readMap 98 = .ok (.goto (-83), 3) := by decide +kernel
theorem dX7_readMap_101 : decode cX7_readMap 101 = .ok (.aload_n 2, 1) := by decide +kernel
theorem dX7_readMap_102 : decode cX7_readMap 102 = .ok (.dup, 1) := by decide +kernel
theorem dX7_readMap_103 : decode cX7_readMap 103 = .ok (.getfield 51, 3) := by decide +kernel
theorem dX7_readMap_106 : decode cX7_readMap 106 = .ok (.iconst 1, 1) := by decide +kernel
theorem dX7_readMap_107 : decode cX7_readMap 107 = .ok (.iadd, 1) := by decide +kernel
theorem dX7_readMap_108 : decode cX7_readMap 108 = .ok (.putfield 51, 3) := by decide +kernel
theorem dX7_readMap_111 : decode cX7_readMap 111 = .ok (.aload_n 0, 1) := by decide +kernel
theorem dX7_readMap_112 : decode cX7_readMap 112 = .ok (.invokevirtual 66, 3) := by decide +kernel
theorem dX7_readMap_115 : decode cX7_readMap 115 = .ok (.ireturn, 1) := by decide +kernel
theorem dX7_stepTo_0 : decode cX7_stepTo 0 = .ok (.aload_n 0, 1) := by decide +kernel
theorem dX7_stepTo_1 : decode cX7_stepTo 1 = .ok (.invokevirtual 31, 3) := by decide +kernel
theorem dX7_stepTo_4 : decode cX7_stepTo 4 = .ok (.aload_n 0, 1) := by decide +kernel
theorem dX7_stepTo_5 : decode cX7_stepTo 5 = .ok (.getfield 25, 3) := by decide +kernel
theorem dX7_stepTo_8 : decode cX7_stepTo 8 = .ok (.iconst 1, 1) := by decide +kernel
theorem dX7_stepTo_9 : decode cX7_stepTo 9 = .ok (.if_icmp .ne 23, 3) := by decide +kernel
theorem dX7_stepTo_12 : decode cX7_stepTo 12 = .ok (.aload_n 0, 1) := by decide +kernel
theorem dX7_stepTo_13 : decode cX7_stepTo 13 = .ok (.getfield 28, 3) := by decide +kernel
theorem dX7_stepTo_16 : decode cX7_stepTo 16 = .ok (.iload_n 1, 1) := by decide +kernel
theorem dX7_stepTo_17 : decode cX7_stepTo 17 = .ok (.if_icmp .lt 15, 3) := by decide +kernel
theorem dX7_stepTo_20 : decode cX7_stepTo 20 = .ok (.aload_n 0, 1) := by decide +kernel
theorem dX7_stepTo_21 : decode cX7_stepTo 21 = .ok (.getfield 28, 3) := by decide +kernel
theorem dX7_stepTo_24 : decode cX7_stepTo 24 = .ok (.iload_n 2, 1) := by decide +kernel
theorem dX7_stepTo_25 : decode cX7_stepTo 25 = .ok (.if_icmp .gt 7, 3) := by decide +kernel
theorem dX7_stepTo_28 : decode cX7_stepTo 28 = .ok (.iconst 1, 1) := by decide +kernel
theorem dX7_stepTo_29 : decode cX7_stepTo 29 = .ok (.goto 4, 3) := by decide +kernel
theorem dX7_stepTo_32 : decode cX7_stepTo 32 = .ok (.iconst 0, 1) := by decide +kernel
theorem dX7_stepTo_33 : decode cX7_stepTo 33 = .ok (.ireturn, 1) := by decide +kernel
theorem dX7_stepToEnd_0 : decode cX7_stepToEnd 0 = .ok (.aload_n 0, 1) := by decide +kernel
theorem dX7_stepToEnd_1 : decode cX7_stepToEnd 1 = .ok (.invokevirtual 31, 3) := by decide +kernel
theorem dX7_stepToEnd_4 : decode cX7_stepToEnd 4 = .ok (.aload_n 0, 1) := by decide +kernel
theorem dX7_stepToEnd_5 : decode cX7_stepToEnd 5 = .ok (.getfield 25, 3) := by decide +kernel
theorem dX7_stepToEnd_8 : decode cX7_stepToEnd 8 = .ok (.bipush 59, 2) := by decide +kernel
theorem dX7_stepToEnd_10 : decode cX7_stepToEnd 10 = .ok (.if_icmp .ne 7, 3) := by decide +kernel
theorem dX7_stepToEnd_13 : decode cX7_stepToEnd 13 = .ok (.iconst 1, 1) := by decide +kernel
theorem dX7_stepToEnd_14 : decode cX7_stepToEnd 14 = .ok (.goto 4, 3) := by decide +kernel
theorem dX7_stepToEnd_17 : decode cX7_stepToEnd 17 = .ok (.iconst 0, 1) := by decide +kernel
theorem dX7_stepToEnd_18 : decode cX7_stepToEnd 18 = .ok (.ireturn, 1) := by decide +kernel
theorem dX7_step_0 : decode cX7_step 0 = .ok (.aload_n 0, 1) := by decide +kernel
theorem dX7_step_1 : decode cX7_step 1 = .ok (.getfield 22, 3) := by decide +kernel
theorem dX7_step_4 : decode cX7_step 4 = .ok (.aload_n 0, 1) := by decide +kernel
theorem dX7_step_5 : decode cX7_step 5 = .ok (.getfield 9, 3) := by decide +kernel
theorem dX7_step_8 : decode cX7_step 8 = .ok (.if_icmp .ge 30, 3) := by decide +kernel
theorem dX7_step_11 : decode cX7_step 11 = .ok (.aload_n 0, 1) := by decide +kernel
theorem dX7_step_12 : decode cX7_step 12 = .ok (.getfield 15, 3) := by decide +kernel
theorem dX7_step_15 : decode cX7_step 15 = .ok (.aload_n 0, 1) := by decide +kernel
theorem dX7_step_16 : decode cX7_step 16 = .ok (.getfield 22, 3) := by decide +kernel
theorem dX7_step_19 : decode cX7_step 19 = .ok (.iaload, 1) := by decide +kernel
theorem dX7_step_20 : decode cX7_step 20 = .ok (.bipush 32, 2) := by decide +kernel
theorem dX7_step_22 : decode cX7_step 22 = .ok (.if_icmp .ne 16, 3) := by decide +kernel
theorem dX7_step_25 : decode cX7_step 25 = .ok (.aload_n 0, 1) := by decide +kernel
theorem dX7_step_26 : decode cX7_step 26 = .ok (.dup, 1) := by decide +kernel
theorem dX7_step_27 : decode cX7_step 27 = .ok (.getfield 22, 3) := by decide +kernel
theorem dX7_step_30 : decode cX7_step 30 = .ok (.iconst 1, 1) := by decide +kernel
theorem dX7_step_31 : decode cX7_step 31 = .ok (.iadd, 1) := by decide +kernel
theorem dX7_step_32 : decode cX7_step 32 = .ok (.putfield 22, 3) := by decide +kernel
theorem dX7_step_35 : decode cX7_step 35 = .ok (.goto (-35), 3) := by decide +kernel
theorem dX7_step_38 : decode cX7_step 38 = .ok (.aload_n 0, 1) := by decide +kernel
theorem dX7_step_39 : decode cX7_step 39 = .ok (.aload_n 0, 1) := by decide +kernel
theorem dX7_step_40 : decode cX7_step 40 = .ok (.getfield 22, 3) := by decide +kernel
theorem dX7_step_43 : decode cX7_step 43 = .ok (.putfield 19, 3) := by decide +kernel
theorem dX7_step_46 : decode cX7_step 46 = .ok (.aload_n 0, 1) := by decide +kernel
theorem dX7_step_47 : decode cX7_step 47 = .ok (.iconst 0, 1) := by decide +kernel
theorem dX7_step_48 : decode cX7_step 48 = .ok (.putfield 28, 3) := by decide +kernel
theorem dX7_step_51 : decode cX7_step 51 = .ok (.aload_n 0, 1) := by decide +kernel
theorem dX7_step_52 : decode cX7_step 52 = .ok (.getfield 22, 3) := by decide +kernel
theorem dX7_step_55 : decode cX7_step 55 = .ok (.aload_n 0, 1) := by decide +kernel
theorem dX7_step_56 : decode cX7_step 56 = .ok (.getfield 9, 3) := by decide +kernel
theorem dX7_step_59 : decode cX7_step 59 = .ok (.if_icmp .ge 71, 3) := by decide +kernel
theorem dX7_step_62 : decode cX7_step 62 = .ok (.aload_n 0, 1) := by decide +kernel
theorem dX7_step_63 : decode cX7_step 63 = .ok (.getfield 15, 3) := by decide +kernel
theorem dX7_step_66 : decode cX7_step 66 = .ok (.aload_n 0, 1) := by decide +kernel
theorem dX7_step_67 : decode cX7_step 67 = .ok (.getfield 22, 3) := by decide +kernel
theorem dX7_step_70 : decode cX7_step 70 = .ok (.iaload, 1) := by decide +kernel
theorem dX7_step_71 : decode cX7_step 71 = .ok (.invokestatic 92, 3) := by decide +kernel
theorem dX7_step_74 : decode cX7_step 74 = .ok (.ifCond .eq 56, 3) := by decide +kernel
theorem dX7_step_77 : decode cX7_step 77 = .ok (.aload_n 0, 1) := by decide +kernel
theorem dX7_step_78 : decode cX7_step 78 = .ok (.aload_n 0, 1) := by decide +kernel
theorem dX7_step_79 : decode cX7_step 79 = .ok (.getfield 28, 3) := by decide +kernel
theorem dX7_step_82 : decode cX7_step 82 = .ok (.bipush 99, 2) := by decide +kernel
theorem dX7_step_84 : decode cX7_step 84 = .ok (.if_icmp .le 10, 3) := by decide +kernel
theorem dX7_step_87 : decode cX7_step 87 = .ok (.aload_n 0, 1) := by decide +kernel
theorem dX7_step_88 : decode cX7_step 88 = .ok (.getfield 28, 3) := by decide +kernel
theorem dX7_step_91 : decode cX7_step 91 = .ok (.goto 23, 3) := by decide +kernel
theorem dX7_step_94 : decode cX7_step 94 = .ok (.aload_n 0, 1) := by decide +kernel
theorem dX7_step_95 : decode cX7_step 95 = .ok (.getfield 28, 3) := by decide +kernel
theorem dX7_step_98 : decode cX7_step 98 = .ok (.bipush 10, 2) := by decide +kernel
theorem dX7_step_100 : decode cX7_step 100 = .ok (.imul, 1) := by decide +kernel
theorem dX7_step_101 : decode cX7_step 101 = .ok (.aload_n 0, 1) := by decide +kernel
theorem dX7_step_102 : decode cX7_step 102 = .ok (.getfield 15, 3) := by decide +kernel
theorem dX7_step_105 : decode cX7_step 105 = .ok (.aload_n 0, 1) := by decide +kernel
theorem dX7_step_106 : decode cX7_step 106 = .ok (.getfield 22, 3) := by decide +kernel
theorem dX7_step_109 : decode cX7_step 109 = .ok (.iaload, 1) := by decide +kernel
theorem dX7_step_110 : decode cX7_step 110 = .ok (.iadd, 1) := by decide +kernel
theorem dX7_step_111 : decode cX7_step 111 = .ok (.bipush 48, 2) := by decide +kernel
theorem dX7_step_113 : decode cX7_step 113 = .ok (.isub, 1) := by decide +kernel
theorem dX7_step_114 : decode cX7_step 114 = .ok (.putfield 28, 3) := by decide +kernel
theorem dX7_step_117 : decode cX7_step 117 = .ok (.aload_n 0, 1) := by decide +kernel
theorem dX7_step_118 : decode cX7_step 118 = .ok (.dup, 1) := by decide +kernel
theorem dX7_step_119 : decode cX7_step 119 = .ok (.getfield 22, 3) := by decide +kernel
theorem dX7_step_122 : decode cX7_step 122 = .ok (.iconst 1, 1) := by decide +kernel
theorem dX7_step_123 : decode cX7_step 123 = .ok (.iadd, 1) := by decide +kernel
theorem dX7_step_124 : decode cX7_step 124 = .ok (.putfield 22, 3) := by decide +kernel
theorem dX7_step_127 : decode cX7_step 127 = .ok (.goto (-76), 3) := by decide +kernel
theorem dX7_step_130 : decode cX7_step 130 = .ok (.aload_n 0, 1) := by decide +kernel
theorem dX7_step_131 : decode cX7_step 131 = .ok (.aload_n 0, 1) := by decide +kernel
theorem dX7_step_132 : decode cX7_step 132 = .ok (.getfield 22, 3) := by decide +kernel
theorem dX7_step_135 : decode cX7_step 135 = .ok (.aload_n 0, 1) := by decide +kernel
theorem dX7_step_136 : decode cX7_step 136 = .ok (.getfield 19, 3) := by decide +kernel
theorem dX7_step_139 : decode cX7_step 139 = .ok (.if_icmp .le 10, 3) := by decide +kernel
theorem dX7_step_142 : decode cX7_step 142 = .ok (.aload_n 0, 1) := by decide +kernel
theorem dX7_step_143 : decode cX7_step 143 = .ok (.invokevirtual 96, 3) := by decide +kernel
theorem dX7_step_146 : decode cX7_step 146 = .ok (.goto 7, 3) := by decide +kernel
theorem dX7_step_149 : decode cX7_step 149 = .ok (.aload_n 0, 1) := by decide +kernel
theorem dX7_step_150 : decode cX7_step 150 = .ok (.invokevirtual 100, 3) := by decide +kernel
theorem dX7_step_153 : decode cX7_step 153 = .ok (.putfield 25, 3) := by decide +kernel
theorem dX7_step_156 : decode cX7_step 156 = .ok (.return_, 1) := by decide +kernel
theorem dX7_numberToken_0 : decode cX7_numberToken 0 = .ok (.aload_n 0, 1) := by decide +kernel
theorem dX7_numberToken_1 : decode cX7_numberToken 1 = .ok (.getfield 22, 3) := by decide +kernel
theorem dX7_numberToken_4 : decode cX7_numberToken 4 = .ok (.aload_n 0, 1) := by decide +kernel
theorem dX7_numberToken_5 : decode cX7_numberToken 5 = .ok (.getfield 19, 3) := by decide +kernel
theorem dX7_numberToken_8 : decode cX7_numberToken 8 = .ok (.isub, 1) := by decide +kernel
theorem dX7_numberToken_9 : decode cX7_numberToken 9 = .ok (.iconst 1, 1) := by decide +kernel
theorem dX7_numberToken_10 : decode cX7_numberToken 10 = .ok (.if_icmp .le 21, 3) := by decide +kernel
theorem dX7_numberToken_13 : decode cX7_numberToken 13 = .ok (.aload_n 0, 1) := by decide +kernel
theorem dX7_numberToken_14 : decode cX7_numberToken 14 = .ok (.getfield 15, 3) := by decide +kernel
theorem dX7_numberToken_17 : decode cX7_numberToken 17 = .ok (.aload_n 0, 1) := by decide +kernel
theorem dX7_numberToken_18 : decode cX7_numberToken 18 = .ok (.getfield 19, 3) := by decide +kernel
theorem dX7_numberToken_21 : decode cX7_numberToken 21 = .ok (.iaload, 1) := by decide +kernel
theorem dX7_numberToken_22 : decode cX7_numberToken 22 = .ok (.bipush 48, 2) := by decide +kernel
theorem dX7_numberToken_24 : decode cX7_numberToken 24 = .ok (.if_icmp .ne 7, 3) := by decide +kernel
theorem dX7_numberToken_27 : decode cX7_numberToken 27 = .ok (.iconst 1, 1) := by decide +kernel
theorem dX7_numberToken_28 : decode cX7_numberToken 28 = .ok (.goto 4, 3) := by decide +kernel
theorem dX7_numberToken_31 : decode cX7_numberToken 31 = .ok (.iconst 0, 1) := by decide +kernel
theorem dX7_numberToken_32 : decode cX7_numberToken 32 = .ok (.istore_n 1, 1) := by decide +kernel
theorem dX7_numberToken_33 : decode cX7_numberToken 33 = .ok (.iload_n 1, 1) := by decide +kernel
theorem dX7_numberToken_34 : decode cX7_numberToken 34 = .ok (.ifCond .ne 12, 3) := by decide +kernel
theorem dX7_numberToken_37 : decode cX7_numberToken 37 = .ok (.aload_n 0, 1) := by decide +kernel
theorem dX7_numberToken_38 : decode cX7_numberToken 38 = .ok (.getfield 28, 3) := by decide +kernel
theorem dX7_numberToken_41 : decode cX7_numberToken 41 = .ok (.bipush 99, 2) := by decide +kernel
theorem dX7_numberToken_43 : decode cX7_numberToken 43 = .ok (.if_icmp .le 7, 3) := by decide +kernel
theorem dX7_numberToken_46 : decode cX7_numberToken 46 = .ok (.iconst 2, 1) := by decide +kernel
theorem dX7_numberToken_47 : decode cX7_numberToken 47 = .ok (.goto 4, 3) := by decide +kernel
theorem dX7_numberToken_50 : decode cX7_numberToken 50 = .ok (.iconst 1, 1) := by decide +kernel
theorem dX7_numberToken_51 : decode cX7_numberToken 51 = .ok (.ireturn, 1) := by decide +kernel
theorem dX7_letterToken_0 : decode cX7_letterToken 0 = .ok (.aload_n 0, 1) := by decide +kernel
theorem dX7_letterToken_1 : decode cX7_letterToken 1 = .ok (.getfield 22, 3) := by decide +kernel
theorem dX7_letterToken_4 : decode cX7_letterToken 4 = .ok (.aload_n 0, 1) := by decide +kernel
theorem dX7_letterToken_5 : decode cX7_letterToken 5 = .ok (.getfield 9, 3) := by decide +kernel
theorem dX7_letterToken_8 : decode cX7_letterToken 8 = .ok (.if_icmp .lt 5, 3) := by decide +kernel
theorem dX7_letterToken_11 : decode cX7_letterToken 11 = .ok (.iconst 0, 1) := by decide +kernel
theorem dX7_letterToken_12 : decode cX7_letterToken 12 = .ok (.ireturn, 1) := by decide +kernel
theorem dX7_letterToken_13 : decode cX7_letterToken 13 = .ok (.aload_n 0, 1) := by decide +kernel
theorem dX7_letterToken_14 : decode cX7_letterToken 14 = .ok (.getfield 15, 3) := by decide +kernel
theorem dX7_letterToken_17 : decode cX7_letterToken 17 = .ok (.aload_n 0, 1) := by decide +kernel
theorem dX7_letterToken_18 : decode cX7_letterToken 18 = .ok (.getfield 22, 3) := by decide +kernel
theorem dX7_letterToken_21 : decode cX7_letterToken 21 = .ok (.iaload, 1) := by decide +kernel
theorem dX7_letterToken_22 : decode cX7_letterToken 22 = .ok (.istore_n 1, 1) := by decide +kernel
theorem dX7_letterToken_23 : decode cX7_letterToken 23 = .ok (.aload_n 0, 1) := by decide +kernel
theorem dX7_letterToken_24 : decode cX7_letterToken 24 = .ok (.dup, 1) := by decide +kernel
theorem dX7_letterToken_25 : decode cX7_letterToken 25 = .ok (.getfield 22, 3) := by decide +kernel
theorem dX7_letterToken_28 : decode cX7_letterToken 28 = .ok (.iconst 1, 1) := by decide +kernel
theorem dX7_letterToken_29 : decode cX7_letterToken 29 = .ok (.iadd, 1) := by decide +kernel
theorem dX7_letterToken_30 : decode cX7_letterToken 30 = .ok (.putfield 22, 3) := by decide +kernel
theorem dX7_letterToken_33 : decode cX7_letterToken 33 = .ok (.iload_n 1, 1) := by decide +kernel
theorem dX7_letterToken_34 : decode cX7_letterToken 34 = .ok (.bipush 110, 2) := by decide +kernel
theorem dX7_letterToken_36 : decode cX7_letterToken 36 = .ok (.if_icmp .eq 21, 3) := by decide +kernel
theorem dX7_letterToken_39 : decode cX7_letterToken 39 = .ok (.iload_n 1, 1) := by decide +kernel
theorem dX7_letterToken_40 : decode cX7_letterToken 40 = .ok (.bipush 108, 2) := by decide +kernel
theorem dX7_letterToken_42 : decode cX7_letterToken 42 = .ok (.if_icmp .eq 15, 3) := by decide +kernel
theorem dX7_letterToken_45 : decode cX7_letterToken 45 = .ok (.iload_n 1, 1) := by decide +kernel
theorem dX7_letterToken_46 : decode cX7_letterToken 46 = .ok (.bipush 109, 2) := by decide +kernel
theorem dX7_letterToken_48 : decode cX7_letterToken 48 = .ok (.if_icmp .eq 9, 3) := by decide +kernel
theorem dX7_letterToken_51 : decode cX7_letterToken 51 = .ok (.iload_n 1, 1) := by decide +kernel
theorem dX7_letterToken_52 : decode cX7_letterToken 52 = .ok (.bipush 59, 2) := by decide +kernel
theorem dX7_letterToken_54 : decode cX7_letterToken 54 = .ok (.if_icmp .ne 7, 3) := by decide +kernel
theorem dX7_letterToken_57 : decode cX7_letterToken 57 = .ok (.iconst 1, 1) := by decide +kernel
theorem dX7_letterToken_58 : decode cX7_letterToken 58 = .ok (.goto 4, 3) := by decide +kernel
theorem dX7_letterToken_61 : decode cX7_letterToken 61 = .ok (.iconst 0, 1) := by decide +kernel
theorem dX7_letterToken_62 : decode cX7_letterToken 62 = .ok (.istore_n 2, 1) := by decide +kernel
theorem dX7_letterToken_63 : decode cX7_letterToken 63 = .ok (.iload_n 2, 1) := by decide +kernel
theorem dX7_letterToken_64 : decode cX7_letterToken 64 = .ok (.ifCond .eq 7, 3) := by decide +kernel
theorem dX7_letterToken_67 : decode cX7_letterToken 67 = .ok (.iload_n 1, 1) := by decide +kernel
theorem dX7_letterToken_68 : decode cX7_letterToken 68 = .ok (.goto 4, 3) := by decide +kernel
theorem dX7_letterToken_71 : decode cX7_letterToken 71 = .ok (.iconst 2, 1) := by decide +kernel
theorem dX7_letterToken_72 : decode cX7_letterToken 72 = .ok (.ireturn, 1) := by decide +kernel
theorem dX7_isDigit_0 : decode cX7_isDigit 0 = .ok (.iload_n 0, 1) := by decide +kernel
theorem dX7_isDigit_1 : decode cX7_isDigit 1 = .ok (.bipush 48, 2) := by decide +kernel
theorem dX7_isDigit_3 : decode cX7_isDigit 3 = .ok (.if_icmp .lt 13, 3) := by decide +kernel
theorem dX7_isDigit_6 : decode cX7_isDigit 6 = .ok (.iload_n 0, 1) := by decide +kernel
theorem dX7_isDigit_7 : decode cX7_isDigit 7 = .ok (.bipush 57, 2) := by decide +kernel
theorem dX7_isDigit_9 : decode cX7_isDigit 9 = .ok (.if_icmp .gt 7, 3) := by decide +kernel
theorem dX7_isDigit_12 : decode cX7_isDigit 12 = .ok (.iconst 1, 1) := by decide +kernel
theorem dX7_isDigit_13 : decode cX7_isDigit 13 = .ok (.goto 4, 3) := by decide +kernel
theorem dX7_isDigit_16 : decode cX7_isDigit 16 = .ok (.iconst 0, 1) := by decide +kernel
theorem dX7_isDigit_17 : decode cX7_isDigit 17 = .ok (.ireturn, 1) := by decide +kernel
theorem dX8_init_0 : decode cX8_init 0 = .ok (.aload_n 0, 1) := by decide +kernel
theorem dX8_init_1 : decode cX8_init 1 = .ok (.invokespecial 3, 3) := by decide +kernel
theorem dX8_init_4 : decode cX8_init 4 = .ok (.aload_n 0, 1) := by decide +kernel
theorem dX8_init_5 : decode cX8_init 5 = .ok (.iconst 0, 1) := by decide +kernel
theorem dX8_init_6 : decode cX8_init 6 = .ok (.putfield 9, 3) := by decide +kernel
theorem dX8_init_9 : decode cX8_init 9 = .ok (.aload_n 0, 1) := by decide +kernel
theorem dX8_init_10 : decode cX8_init 10 = .ok (.sipush 165, 3) := by decide +kernel
theorem dX8_init_13 : decode cX8_init 13 = .ok (.newarray .int, 2) := by decide +kernel
theorem dX8_init_15 : decode cX8_init 15 = .ok (.putfield 15, 3) := by decide +kernel
theorem dX8_init_18 : decode cX8_init 18 = .ok (.aload_n 0, 1) := by decide +kernel
theorem dX8_init_19 : decode cX8_init 19 = .ok (.bipush 33, 2) := by decide +kernel
theorem dX8_init_21 : decode cX8_init 21 = .ok (.newarray .int, 2) := by decide +kernel
theorem dX8_init_23 : decode cX8_init 23 = .ok (.putfield 19, 3) := by decide +kernel
theorem dX8_init_26 : decode cX8_init 26 = .ok (.aload_n 0, 1) := by decide +kernel
theorem dX8_init_27 : decode cX8_init 27 = .ok (.bipush 33, 2) := by decide +kernel
theorem dX8_init_29 : decode cX8_init 29 = .ok (.newarray .int, 2) := by decide +kernel
theorem dX8_init_31 : decode cX8_init 31 = .ok (.putfield 22, 3) := by decide +kernel
theorem dX8_init_34 : decode cX8_init 34 = .ok (.aload_n 0, 1) := by decide +kernel
theorem dX8_init_35 : decode cX8_init 35 = .ok (.bipush 33, 2) := by decide +kernel
theorem dX8_init_37 : decode cX8_init 37 = .ok (.newarray .int, 2) := by decide +kernel
theorem dX8_init_39 : decode cX8_init 39 = .ok (.putfield 25, 3) := by decide +kernel
theorem dX8_init_42 : decode cX8_init 42 = .ok (.aload_n 0, 1) := by decide +kernel
theorem dX8_init_43 : decode cX8_init 43 = .ok (.bipush 33, 2) := by decide +kernel
theorem dX8_init_45 : decode cX8_init 45 = .ok (.newarray .int, 2) := by decide +kernel
theorem dX8_init_47 : decode cX8_init 47 = .ok (.putfield 28, 3) := by decide +kernel
theorem dX8_init_50 : decode cX8_init 50 = .ok (.aload_n 0, 1) := by decide +kernel
theorem dX8_init_51 : decode cX8_init 51 = .ok (.bipush 25, 2) := by decide +kernel
theorem dX8_init_53 : decode cX8_init 53 = .ok (.newarray .int, 2) := by decide +kernel
theorem dX8_init_55 : decode cX8_init 55 = .ok (.putfield 31, 3) := by decide +kernel
theorem dX8_init_58 : decode cX8_init 58 = .ok (.aload_n 0, 1) := by decide +kernel
theorem dX8_init_59 : decode cX8_init 59 = .ok (.iconst 5, 1) := by decide +kernel
theorem dX8_init_60 : decode cX8_init 60 = .ok (.newarray .int, 2) := by decide +kernel
theorem dX8_init_62 : decode cX8_init 62 = .ok (.putfield 34, 3) := by decide +kernel
theorem dX8_init_65 : decode cX8_init 65 = .ok (.return_, 1) := by decide +kernel
theorem dX8_find_0 : decode cX8_find 0 = .ok (.aload_n 0, 1) := by decide +kernel
theorem dX8_find_1 : decode cX8_find 1 = .ok (.iconst 0, 1) := by decide +kernel
theorem dX8_find_2 : decode cX8_find 2 = .ok (.putfield 9, 3) := by decide +kernel
theorem dX8_find_5 : decode cX8_find 5 = .ok (.iconst 0, 1) := by decide +kernel
theorem dX8_find_6 : decode cX8_find 6 = .ok (.istore_n 2, 1) := by decide +kernel
theorem dX8_find_7 : decode cX8_find 7 = .ok (.iload_n 2, 1) := by decide +kernel
theorem dX8_find_8 : decode cX8_find 8 = .ok (.aload_n 1, 1) := by decide +kernel
theorem dX8_find_9 : decode cX8_find 9 = .ok (.getfield 37, 3) := by decide +kernel
theorem dX8_find_12 : decode cX8_find 12 = .ok (.if_icmp .ge 23, 3) := by decide +kernel
theorem dX8_find_15 : decode cX8_find 15 = .ok (.aload_n 0, 1) := by decide +kernel
theorem dX8_find_16 : decode cX8_find 16 = .ok (.getfield 34, 3) := by decide +kernel
theorem dX8_find_19 : decode cX8_find 19 = .ok (.iconst 0, 1) := by decide +kernel
theorem dX8_find_20 : decode cX8_find 20 = .ok (.iload_n 2, 1) := by decide +kernel
theorem dX8_find_21 : decode cX8_find 21 = .ok (.iastore, 1) := by decide +kernel
theorem dX8_find_22 : decode cX8_find 22 = .ok (.aload_n 0, 1) := by decide +kernel
theorem dX8_find_23 : decode cX8_find 23 = .ok (.aload_n 1, 1) := by decide +kernel
theorem dX8_find_24 : decode cX8_find 24 = .ok (.iconst 1, 1) := by decide +kernel
theorem dX8_find_25 : decode cX8_find 25 = .ok (.iconst 0, 1) := by decide +kernel
theorem dX8_find_26 : decode cX8_find 26 = .ok (.invokestatic 42, 3) := by decide +kernel
theorem dX8_find_29 : decode cX8_find 29 = .ok (.iinc 2 1, 3) := by decide +kernel
theorem dX8_find_32 : decode cX8_find 32 = .ok (.goto (-25), 3) := by decide +kernel
theorem dX8_find_35 : decode cX8_find 35 = .ok (.return_, 1) := by decide +kernel
theorem dX8_walk_0 : decode cX8_walk 0 = .ok (.aload_n 0, 1) := by decide +kernel
theorem dX8_walk_1 : decode cX8_walk 1 = .ok (.getfield 34, 3) := by decide +kernel
theorem dX8_walk_4 : decode cX8_walk 4 = .ok (.iload_n 2, 1) := by decide +kernel
theorem dX8_walk_5 : decode cX8_walk 5 = .ok (.iconst 1, 1) := by decide +kernel
theorem dX8_walk_6 : decode cX8_walk 6 = .ok (.isub, 1) := by decide +kernel
theorem dX8_walk_7 : decode cX8_walk 7 = .ok (.iaload, 1) := by decide +kernel
theorem dX8_walk_8 : decode cX8_walk 8 = .ok (.istore 4, 2) := by decide +kernel
theorem dX8_walk_10 : decode cX8_walk 10 = .ok (.iload 4, 2) := by decide +kernel
theorem dX8_walk_12 : decode cX8_walk 12 = .ok (.aload_n 0, 1) := by decide +kernel
theorem dX8_walk_13 : decode cX8_walk 13 = .ok (.getfield 34, 3) := by decide +kernel
theorem dX8_walk_16 : decode cX8_walk 16 = .ok (.iconst 0, 1) := by decide +kernel
theorem dX8_walk_17 : decode cX8_walk 17 = .ok (.iaload, 1) := by decide +kernel
theorem dX8_walk_18 : decode cX8_walk 18 = .ok (.if_icmp .le 9, 3) := by decide +kernel
theorem dX8_walk_21 : decode cX8_walk 21 = .ok (.aload_n 0, 1) := by decide +kernel
theorem dX8_walk_22 : decode cX8_walk 22 = .ok (.iload_n 2, 1) := by decide +kernel
theorem dX8_walk_23 : decode cX8_walk 23 = .ok (.iload_n 3, 1) := by decide +kernel
theorem dX8_walk_24 : decode cX8_walk 24 = .ok (.invokevirtual 46, 3) := by decide +kernel
theorem dX8_walk_27 : decode cX8_walk 27 = .ok (.iconst 0, 1) := by decide +kernel
theorem dX8_walk_28 : decode cX8_walk 28 = .ok (.istore 5, 2) := by decide +kernel
theorem dX8_walk_30 : decode cX8_walk 30 = .ok (.iload 5, 2) := by decide +kernel
theorem dX8_walk_32 : decode cX8_walk 32 = .ok (.aload_n 1, 1) := by decide +kernel
theorem dX8_walk_33 : decode cX8_walk 33 = .ok (.getfield 37, 3) := by decide +kernel
theorem dX8_walk_36 : decode cX8_walk 36 = .ok (.if_icmp .ge 63, 3) := by decide +kernel
theorem dX8_walk_39 : decode cX8_walk 39 = .ok (.iload_n 2, 1) := by decide +kernel
theorem dX8_walk_40 : decode cX8_walk 40 = .ok (.iconst 5, 1) := by decide +kernel
theorem dX8_walk_41 : decode cX8_walk 41 = .ok (.if_icmp .ge 58, 3) := by decide +kernel
theorem dX8_walk_44 : decode cX8_walk 44 = .ok (.aload_n 1, 1) := by decide +kernel
theorem dX8_walk_45 : decode cX8_walk 45 = .ok (.iload 4, 2) := by decide +kernel
theorem dX8_walk_47 : decode cX8_walk 47 = .ok (.iload 5, 2) := by decide +kernel
theorem dX8_walk_49 : decode cX8_walk 49 = .ok (.invokevirtual 50, 3) := by decide +kernel
theorem dX8_walk_52 : decode cX8_walk 52 = .ok (.istore 6, 2) := by decide +kernel
theorem dX8_walk_54 : decode cX8_walk 54 = .ok (.iload 6, 2) := by decide +kernel
theorem dX8_walk_56 : decode cX8_walk 56 = .ok (.bipush (-9), 2) := by decide +kernel
theorem dX8_walk_58 : decode cX8_walk 58 = .ok (.if_icmp .eq 35, 3) := by decide +kernel
theorem dX8_walk_61 : decode cX8_walk 61 = .ok (.aload_n 0, 1) := by decide +kernel
theorem dX8_walk_62 : decode cX8_walk 62 = .ok (.iload 5, 2) := by decide +kernel
theorem dX8_walk_64 : decode cX8_walk 64 = .ok (.iload_n 2, 1) := by decide +kernel
theorem dX8_walk_65 : decode cX8_walk 65 = .ok (.invokevirtual 54, 3) := by decide +kernel
theorem dX8_walk_68 : decode cX8_walk 68 = .ok (.ifCond .ne 25, 3) := by decide +kernel
theorem dX8_walk_71 : decode cX8_walk 71 = .ok (.aload_n 0, 1) := by decide +kernel
theorem dX8_walk_72 : decode cX8_walk 72 = .ok (.getfield 34, 3) := by decide +kernel
theorem dX8_walk_75 : decode cX8_walk 75 = .ok (.iload_n 2, 1) := by decide +kernel
theorem dX8_walk_76 : decode cX8_walk 76 = .ok (.iload 5, 2) := by decide +kernel
theorem dX8_walk_78 : decode cX8_walk 78 = .ok (.iastore, 1) := by decide +kernel
theorem dX8_walk_79 : decode cX8_walk 79 = .ok (.aload_n 0, 1) := by decide +kernel
theorem dX8_walk_80 : decode cX8_walk 80 = .ok (.aload_n 1, 1) := by decide +kernel
theorem dX8_walk_81 : decode cX8_walk 81 = .ok (.iload_n 2, 1) := by decide +kernel
theorem dX8_walk_82 : decode cX8_walk 82 = .ok (.iconst 1, 1) := by decide +kernel
theorem dX8_walk_83 : decode cX8_walk 83 = .ok (.iadd, 1) := by decide +kernel
theorem dX8_walk_84 : decode cX8_walk 84 = .ok (.iload_n 3, 1) := by decide +kernel
theorem dX8_walk_85 : decode cX8_walk 85 = .ok (.iconst 1, 1) := by decide +kernel
theorem dX8_walk_86 : decode cX8_walk 86 = .ok (.iload 6, 2) := by decide +kernel
theorem dX8_walk_88 : decode cX8_walk 88 = .ok (.ishl, 1) := by decide +kernel
theorem dX8_walk_89 : decode cX8_walk 89 = .ok (.ior, 1) := by decide +kernel
theorem dX8_walk_90 : decode cX8_walk 90 = .ok (.invokestatic 42, 3) := by decide +kernel
theorem dX8_walk_93 : decode cX8_walk 93 = .ok (.iinc 5 1, 3) := by decide +kernel
theorem dX8_walk_96 : decode cX8_walk 96 = .ok (.goto (-66), 3) := by decide +kernel
theorem dX8_walk_99 : decode cX8_walk 99 = .ok (.return_, 1) := by decide +kernel
theorem dX8_onTrail_0 : decode cX8_onTrail 0 = .ok (.iconst 0, 1) := by decide +kernel
theorem dX8_onTrail_1 : decode cX8_onTrail 1 = .ok (.istore_n 3, 1) := by decide +kernel
theorem dX8_onTrail_2 : decode cX8_onTrail 2 = .ok (.iload_n 3, 1) := by decide +kernel
theorem dX8_onTrail_3 : decode cX8_onTrail 3 = .ok (.iload_n 2, 1) := by decide +kernel
theorem dX8_onTrail_4 : decode cX8_onTrail 4 = .ok (.if_icmp .ge 21, 3) := by decide +kernel
theorem dX8_onTrail_7 : decode cX8_onTrail 7 = .ok (.aload_n 0, 1) := by decide +kernel
theorem dX8_onTrail_8 : decode cX8_onTrail 8 = .ok (.getfield 34, 3) := by decide +kernel
theorem dX8_onTrail_11 : decode cX8_onTrail 11 = .ok (.iload_n 3, 1) := by decide +kernel
theorem dX8_onTrail_12 : decode cX8_onTrail 12 = .ok (.iaload, 1) := by decide +kernel
theorem dX8_onTrail_13 : decode cX8_onTrail 13 = .ok (.iload_n 1, 1) := by decide +kernel
theorem dX8_onTrail_14 : decode cX8_onTrail 14 = .ok (.if_icmp .ne 5, 3) := by decide +kernel
theorem dX8_onTrail_17 : decode cX8_onTrail 17 = .ok (.iconst 1, 1) := by decide +kernel
theorem dX8_onTrail_18 : decode cX8_onTrail 18 = .ok (.ireturn, 1) := by decide +kernel
theorem dX8_onTrail_19 : decode cX8_onTrail 19 = .ok (.iinc 3 1, 3) := by decide +kernel
theorem dX8_onTrail_22 : decode cX8_onTrail 22 = .ok (.goto (-20), 3) := by decide +kernel
theorem dX8_onTrail_25 : decode cX8_onTrail 25 = .ok (.iconst 0, 1) := by decide +kernel
theorem dX8_onTrail_26 : decode cX8_onTrail 26 = .ok (.ireturn, 1) := by decide +kernel
theorem dX8_addTrail_0 : decode cX8_addTrail 0 = .ok (.aload_n 0, 1) := by decide +kernel
theorem dX8_addTrail_1 : decode cX8_addTrail 1 = .ok (.getfield 9, 3) := by decide +kernel
theorem dX8_addTrail_4 : decode cX8_addTrail 4 = .ok (.bipush 33, 2) := by decide +kernel
theorem dX8_addTrail_6 : decode cX8_addTrail 6 = .ok (.if_icmp .lt 4, 3) := by decide +kernel
theorem dX8_addTrail_9 : decode cX8_addTrail 9 = .ok (.return_, 1) := by decide +kernel
theorem dX8_addTrail_10 : decode cX8_addTrail 10 = .ok (.aload_n 0, 1) := by decide +kernel
theorem dX8_addTrail_11 : decode cX8_addTrail 11 = .ok (.getfield 34, 3) := by decide +kernel
theorem dX8_addTrail_14 : decode cX8_addTrail 14 = .ok (.iconst 0, 1) := by decide +kernel
theorem dX8_addTrail_15 : decode cX8_addTrail 15 = .ok (.aload_n 0, 1) := by decide +kernel
theorem dX8_addTrail_16 : decode cX8_addTrail 16 = .ok (.getfield 15, 3) := by decide +kernel
theorem dX8_addTrail_19 : decode cX8_addTrail 19 = .ok (.aload_n 0, 1) := by decide +kernel
theorem dX8_addTrail_20 : decode cX8_addTrail 20 = .ok (.getfield 9, 3) := by decide +kernel
theorem dX8_addTrail_23 : decode cX8_addTrail 23 = .ok (.iconst 5, 1) := by decide +kernel
theorem dX8_addTrail_24 : decode cX8_addTrail 24 = .ok (.imul, 1) := by decide +kernel
theorem dX8_addTrail_25 : decode cX8_addTrail 25 = .ok (.iload_n 1, 1) := by decide +kernel
theorem dX8_addTrail_26 : decode cX8_addTrail 26 = .ok (.invokestatic 58, 3) := by decide +kernel
theorem dX8_addTrail_29 : decode cX8_addTrail 29 = .ok (.aload_n 0, 1) := by decide +kernel
theorem dX8_addTrail_30 : decode cX8_addTrail 30 = .ok (.getfield 19, 3) := by decide +kernel
theorem dX8_addTrail_33 : decode cX8_addTrail 33 = .ok (.aload_n 0, 1) := by decide +kernel
theorem dX8_addTrail_34 : decode cX8_addTrail 34 = .ok (.getfield 9, 3) := by decide +kernel
theorem dX8_addTrail_37 : decode cX8_addTrail 37 = .ok (.iload_n 1, 1) := by decide +kernel
theorem dX8_addTrail_38 : decode cX8_addTrail 38 = .ok (.iastore, 1) := by decide +kernel
theorem dX8_addTrail_39 : decode cX8_addTrail 39 = .ok (.aload_n 0, 1) := by decide +kernel
theorem dX8_addTrail_40 : decode cX8_addTrail 40 = .ok (.getfield 22, 3) := by decide +kernel
theorem dX8_addTrail_43 : decode cX8_addTrail 43 = .ok (.aload_n 0, 1) := by decide +kernel
theorem dX8_addTrail_44 : decode cX8_addTrail 44 = .ok (.getfield 9, 3) := by decide +kernel
theorem dX8_addTrail_47 : decode cX8_addTrail 47 = .ok (.aload_n 0, 1) := by decide +kernel
theorem dX8_addTrail_48 : decode cX8_addTrail 48 = .ok (.getfield 34, 3) := by decide +kernel
theorem dX8_addTrail_51 : decode cX8_addTrail 51 = .ok (.iconst 0, 1) := by decide +kernel
theorem dX8_addTrail_52 : decode cX8_addTrail 52 = .ok (.iaload, 1) := by decide +kernel
theorem dX8_addTrail_53 : decode cX8_addTrail 53 = .ok (.iconst 5, 1) := by decide +kernel
theorem dX8_addTrail_54 : decode cX8_addTrail 54 = .ok (.imul, 1) := by decide +kernel
theorem dX8_addTrail_55 : decode cX8_addTrail 55 = .ok (.aload_n 0, 1) := by decide +kernel
theorem dX8_addTrail_56 : decode cX8_addTrail 56 = .ok (.getfield 34, 3) := by decide +kernel
theorem dX8_addTrail_59 : decode cX8_addTrail 59 = .ok (.iload_n 1, 1) := by decide +kernel
theorem dX8_addTrail_60 : decode cX8_addTrail 60 = .ok (.iconst 1, 1) := by decide +kernel
theorem dX8_addTrail_61 : decode cX8_addTrail 61 = .ok (.isub, 1) := by decide +kernel
theorem dX8_addTrail_62 : decode cX8_addTrail 62 = .ok (.iaload, 1) := by decide +kernel
theorem dX8_addTrail_63 : decode cX8_addTrail 63 = .ok (.iadd, 1) := by decide +kernel
theorem dX8_addTrail_64 : decode cX8_addTrail 64 = .ok (.iastore, 1) := by decide +kernel
theorem dX8_addTrail_65 : decode cX8_addTrail 65 = .ok (.aload_n 0, 1) := by decide +kernel
theorem dX8_addTrail_66 : decode cX8_addTrail 66 = .ok (.getfield 25, 3) := by decide +kernel
theorem dX8_addTrail_69 : decode cX8_addTrail 69 = .ok (.aload_n 0, 1) := by decide +kernel
theorem dX8_addTrail_70 : decode cX8_addTrail 70 = .ok (.getfield 9, 3) := by decide +kernel
theorem dX8_addTrail_73 : decode cX8_addTrail 73 = .ok (.iload_n 2, 1) := by decide +kernel
theorem dX8_addTrail_74 : decode cX8_addTrail 74 = .ok (.iastore, 1) := by decide +kernel
theorem dX8_addTrail_75 : decode cX8_addTrail 75 = .ok (.aload_n 0, 1) := by decide +kernel
theorem dX8_addTrail_76 : decode cX8_addTrail 76 = .ok (.dup, 1) := by decide +kernel
theorem dX8_addTrail_77 : decode cX8_addTrail 77 = .ok (.getfield 9, 3) := by decide +kernel
theorem dX8_addTrail_80 : decode cX8_addTrail 80 = .ok (.iconst 1, 1) := by decide +kernel
theorem dX8_addTrail_81 : decode cX8_addTrail 81 = .ok (.iadd, 1) := by decide +kernel
theorem dX8_addTrail_82 : decode cX8_addTrail 82 = .ok (.putfield 9, 3) := by decide +kernel
theorem dX8_addTrail_85 : decode cX8_addTrail 85 = .ok (.return_, 1) := by decide +kernel
theorem dX8_measure_0 : decode cX8_measure 0 = .ok (.iconst 0, 1) := by decide +kernel
theorem dX8_measure_1 : decode cX8_measure 1 = .ok (.istore_n 3, 1) := by decide +kernel
theorem dX8_measure_2 : decode cX8_measure 2 = .ok (.iload_n 3, 1) := by decide +kernel
theorem dX8_measure_3 : decode cX8_measure 3 = .ok (.aload_n 0, 1) := by decide +kernel
theorem dX8_measure_4 : decode cX8_measure 4 = .ok (.getfield 31, 3) := by decide +kernel
theorem dX8_measure_7 : decode cX8_measure 7 = .ok (.arraylength, 1) := by decide +kernel
theorem dX8_measure_8 : decode cX8_measure 8 = .ok (.if_icmp .ge 17, 3) := by decide +kernel
theorem dX8_measure_11 : decode cX8_measure 11 = .ok (.aload_n 0, 1) := by decide +kernel
theorem dX8_measure_12 : decode cX8_measure 12 = .ok (.getfield 31, 3) := by decide +kernel
theorem dX8_measure_15 : decode cX8_measure 15 = .ok (.iload_n 3, 1) := by decide +kernel
theorem dX8_measure_16 : decode cX8_measure 16 = .ok (.bipush (-9), 2) := by decide +kernel
theorem dX8_measure_18 : decode cX8_measure 18 = .ok (.iastore, 1) := by decide +kernel
theorem dX8_measure_19 : decode cX8_measure 19 = .ok (.iinc 3 1, 3) := by decide +kernel
theorem dX8_measure_22 : decode cX8_measure 22 = .ok (.goto (-20), 3) := by decide +kernel
theorem dX8_measure_25 : decode cX8_measure 25 = .ok (.iconst 0, 1) := by decide +kernel
theorem dX8_measure_26 : decode cX8_measure 26 = .ok (.istore_n 3, 1) := by decide +kernel
theorem dX8_measure_27 : decode cX8_measure 27 = .ok (.iload_n 3, 1) := by decide +kernel
theorem dX8_measure_28 : decode cX8_measure 28 = .ok (.aload_n 0, 1) := by decide +kernel
theorem dX8_measure_29 : decode cX8_measure 29 = .ok (.getfield 9, 3) := by decide +kernel
theorem dX8_measure_32 : decode cX8_measure 32 = .ok (.if_icmp .ge 77, 3) := by decide +kernel
theorem dX8_measure_35 : decode cX8_measure 35 = .ok (.aload_n 0, 1) := by decide +kernel
theorem dX8_measure_36 : decode cX8_measure 36 = .ok (.getfield 28, 3) := by decide +kernel
theorem dX8_measure_39 : decode cX8_measure 39 = .ok (.iload_n 3, 1) := by decide +kernel
theorem dX8_measure_40 : decode cX8_measure 40 = .ok (.aload_n 1, 1) := by decide +kernel
theorem dX8_measure_41 : decode cX8_measure 41 = .ok (.aload_n 0, 1) := by decide +kernel
theorem dX8_measure_42 : decode cX8_measure 42 = .ok (.getfield 25, 3) := by decide +kernel
theorem dX8_measure_45 : decode cX8_measure 45 = .ok (.iload_n 3, 1) := by decide +kernel
theorem dX8_measure_46 : decode cX8_measure 46 = .ok (.iaload, 1) := by decide +kernel
theorem dX8_measure_47 : decode cX8_measure 47 = .ok (.aload_n 2, 1) := by decide +kernel
theorem dX8_measure_48 : decode cX8_measure 48 = .ok (.invokevirtual 64, 3) := by decide +kernel
theorem dX8_measure_51 : decode cX8_measure 51 = .ok (.iastore, 1) := by decide +kernel
theorem dX8_measure_52 : decode cX8_measure 52 = .ok (.aload_n 0, 1) := by decide +kernel
theorem dX8_measure_53 : decode cX8_measure 53 = .ok (.getfield 31, 3) := by decide +kernel
theorem dX8_measure_56 : decode cX8_measure 56 = .ok (.aload_n 0, 1) := by decide +kernel
theorem dX8_measure_57 : decode cX8_measure 57 = .ok (.getfield 22, 3) := by decide +kernel
theorem dX8_measure_60 : decode cX8_measure 60 = .ok (.iload_n 3, 1) := by decide +kernel
theorem dX8_measure_61 : decode cX8_measure 61 = .ok (.iaload, 1) := by decide +kernel
theorem dX8_measure_62 : decode cX8_measure 62 = .ok (.iaload, 1) := by decide +kernel
theorem dX8_measure_63 : decode cX8_measure 63 = .ok (.istore 4, 2) := by decide +kernel
theorem dX8_measure_65 : decode cX8_measure 65 = .ok (.aload_n 0, 1) := by decide +kernel
theorem dX8_measure_66 : decode cX8_measure 66 = .ok (.getfield 31, 3) := by decide +kernel
theorem dX8_measure_69 : decode cX8_measure 69 = .ok (.aload_n 0, 1) := by decide +kernel
theorem dX8_measure_70 : decode cX8_measure 70 = .ok (.getfield 22, 3) := by decide +kernel
theorem dX8_measure_73 : decode cX8_measure 73 = .ok (.iload_n 3, 1) := by decide +kernel
theorem dX8_measure_74 : decode cX8_measure 74 = .ok (.iaload, 1) := by decide +kernel
theorem dX8_measure_75 : decode cX8_measure 75 = .ok (.iload 4, 2) := by decide +kernel
theorem dX8_measure_77 : decode cX8_measure 77 = .ok (.bipush (-9), 2) := by decide +kernel
theorem dX8_measure_79 : decode cX8_measure 79 = .ok (.if_icmp .ne 12, 3) := by decide +kernel
theorem dX8_measure_82 : decode cX8_measure 82 = .ok (.aload_n 0, 1) := by decide +kernel
theorem dX8_measure_83 : decode cX8_measure 83 = .ok (.getfield 28, 3) := by decide +kernel
theorem dX8_measure_86 : decode cX8_measure 86 = .ok (.iload_n 3, 1) := by decide +kernel
theorem dX8_measure_87 : decode cX8_measure 87 = .ok (.iaload, 1) := by decide +kernel
theorem dX8_measure_88 : decode cX8_measure 88 = .ok (.goto 14, 3) := by decide +kernel
theorem dX8_measure_91 : decode cX8_measure 91 = .ok (.iload 4, 2) := by decide +kernel
theorem dX8_measure_93 : decode cX8_measure 93 = .ok (.aload_n 0, 1) := by decide +kernel
theorem dX8_measure_94 : decode cX8_measure 94 = .ok (.getfield 28, 3) := by decide +kernel
theorem dX8_measure_97 : decode cX8_measure 97 = .ok (.iload_n 3, 1) := by decide +kernel
theorem dX8_measure_98 : decode cX8_measure 98 = .ok (.iaload, 1) := by decide +kernel
theorem dX8_measure_99 : decode cX8_measure 99 = .ok (.invokestatic 68, 3) := by decide +kernel
theorem dX8_measure_102 : decode cX8_measure 102 = .ok (.iastore, 1) := by decide +kernel
theorem dX8_measure_103 : decode cX8_measure 103 = .ok (.iinc 3 1, 3) := by decide +kernel
theorem dX8_measure_106 : decode cX8_measure 106 = .ok (.goto (-79), 3) := by decide +kernel
theorem dX8_measure_109 : decode cX8_measure 109 = .ok (.return_, 1) := by decide +kernel
theorem dX8_isShortest_0 : decode cX8_isShortest 0 = .ok (.iload_n 1, 1) := by decide +kernel
theorem dX8_isShortest_1 : decode cX8_isShortest 1 = .ok (.ifCond .lt 35, 3) := by decide +kernel
theorem dX8_isShortest_4 : decode cX8_isShortest 4 = .ok (.iload_n 1, 1) := by decide +kernel
theorem dX8_isShortest_5 : decode cX8_isShortest 5 = .ok (.aload_n 0, 1) := by decide +kernel
theorem dX8_isShortest_6 : decode cX8_isShortest 6 = .ok (.getfield 9, 3) := by decide +kernel
theorem dX8_isShortest_9 : decode cX8_isShortest 9 = .ok (.if_icmp .ge 27, 3) := by decide +kernel
theorem dX8_isShortest_12 : decode cX8_isShortest 12 = .ok (.aload_n 0, 1) := by decide +kernel
theorem dX8_isShortest_13 : decode cX8_isShortest 13 = .ok (.getfield 28, 3) := by decide +kernel
theorem dX8_isShortest_16 : decode cX8_isShortest 16 = .ok (.iload_n 1, 1) := by decide +kernel
theorem dX8_isShortest_17 : decode cX8_isShortest 17 = .ok (.iaload, 1) := by decide +kernel
theorem dX8_isShortest_18 : decode cX8_isShortest 18 = .ok (.aload_n 0, 1) := by decide +kernel
theorem dX8_isShortest_19 : decode cX8_isShortest 19 = .ok (.getfield 31, 3) := by decide +kernel
theorem dX8_isShortest_22 : decode cX8_isShortest 22 = .ok (.aload_n 0, 1) := by decide +kernel
theorem dX8_isShortest_23 : decode cX8_isShortest 23 = .ok (.getfield 22, 3) := by decide +kernel
theorem dX8_isShortest_26 : decode cX8_isShortest 26 = .ok (.iload_n 1, 1) := by decide +kernel
theorem dX8_isShortest_27 : decode cX8_isShortest 27 = .ok (.iaload, 1) := by decide +kernel
theorem dX8_isShortest_28 : decode cX8_isShortest 28 = .ok (.iaload, 1) := by decide +kernel
theorem dX8_isShortest_29 : decode cX8_isShortest 29 = .ok (.if_icmp .ne 7, 3) := by decide +kernel
theorem dX8_isShortest_32 : decode cX8_isShortest 32 = .ok (.iconst 1, 1) := by decide +kernel
theorem dX8_isShortest_33 : decode cX8_isShortest 33 = .ok (.goto 4, 3) := by decide +kernel
theorem dX8_isShortest_36 : decode cX8_isShortest 36 = .ok (.iconst 0, 1) := by decide +kernel
theorem dX8_isShortest_37 : decode cX8_isShortest 37 = .ok (.ireturn, 1) := by decide +kernel
theorem dX8_leastBetween_0 : decode cX8_leastBetween 0 = .ok (.aload_n 0, 1) := by decide +kernel
theorem dX8_leastBetween_1 : decode cX8_leastBetween 1 = .ok (.getfield 31, 3) := by decide +kernel
theorem dX8_leastBetween_4 : decode cX8_leastBetween 4 = .ok (.iload_n 1, 1) := by decide +kernel
theorem dX8_leastBetween_5 : decode cX8_leastBetween 5 = .ok (.iload_n 2, 1) := by decide +kernel
theorem dX8_leastBetween_6 : decode cX8_leastBetween 6 = .ok (.invokestatic 68, 3) := by decide +kernel
theorem dX8_leastBetween_9 : decode cX8_leastBetween 9 = .ok (.iconst 5, 1) := by decide +kernel
theorem dX8_leastBetween_10 : decode cX8_leastBetween 10 = .ok (.imul, 1) := by decide +kernel
theorem dX8_leastBetween_11 : decode cX8_leastBetween 11 = .ok (.iload_n 1, 1) := by decide +kernel
theorem dX8_leastBetween_12 : decode cX8_leastBetween 12 = .ok (.iload_n 2, 1) := by decide +kernel
theorem dX8_leastBetween_13 : decode cX8_leastBetween 13 = .ok (.invokestatic 73, 3) := by decide +kernel
theorem dX8_leastBetween_16 : decode cX8_leastBetween 16 = .ok (.iadd, 1) := by decide +kernel
theorem dX8_leastBetween_17 : decode cX8_leastBetween 17 = .ok (.iaload, 1) := by decide +kernel
theorem dX8_leastBetween_18 : decode cX8_leastBetween 18 = .ok (.ireturn, 1) := by decide +kernel
theorem dX8_shortestBetween_0 : decode cX8_shortestBetween 0 = .ok (.iload_n 1, 1) := by decide +kernel
theorem dX8_shortestBetween_1 : decode cX8_shortestBetween 1 = .ok (.iload_n 2, 1) := by decide +kernel
theorem dX8_shortestBetween_2 : decode cX8_shortestBetween 2 = .ok (.invokestatic 68, 3) := by decide +kernel
theorem dX8_shortestBetween_5 : decode cX8_shortestBetween 5 = .ok (.iconst 5, 1) := by decide +kernel
theorem dX8_shortestBetween_6 : decode cX8_shortestBetween 6 = .ok (.imul, 1) := by decide +kernel
theorem dX8_shortestBetween_7 : decode cX8_shortestBetween 7 = .ok (.iload_n 1, 1) := by decide +kernel
theorem dX8_shortestBetween_8 : decode cX8_shortestBetween 8 = .ok (.iload_n 2, 1) := by decide +kernel
theorem dX8_shortestBetween_9 : decode cX8_shortestBetween 9 = .ok (.invokestatic 73, 3) := by decide +kernel
theorem dX8_shortestBetween_12 : decode cX8_shortestBetween 12 = .ok (.iadd, 1) := by decide +kernel
theorem dX8_shortestBetween_13 : decode cX8_shortestBetween 13 = .ok (.istore_n 3, 1) := by decide +kernel
theorem dX8_shortestBetween_14 : decode cX8_shortestBetween 14 = .ok (.iconst 0, 1) := by decide +kernel
theorem dX8_shortestBetween_15 : decode cX8_shortestBetween 15 = .ok (.istore 4, 2) := by decide +kernel
theorem dX8_shortestBetween_17 : decode cX8_shortestBetween 17 = .ok (.iconst 0, 1) := by decide +kernel
theorem dX8_shortestBetween_18 : decode cX8_shortestBetween 18 = .ok (.istore 5, 2) := by decide +kernel
theorem dX8_shortestBetween_20 : decode cX8_shortestBetween 20 = .ok (.iload 5, 2) := by decide +kernel
theorem dX8_shortestBetween_22 : decode cX8_shortestBetween 22 = .ok (.aload_n 0, 1) := by decide +kernel
theorem dX8_shortestBetween_23 : decode cX8_shortestBetween 23 = .ok (.getfield 9, 3) := by decide +kernel
theorem dX8_shortestBetween_26 : decode cX8_shortestBetween 26 = .ok (.if_icmp .ge 32, 3) := by decide +kernel
theorem dX8_shortestBetween_29 : decode cX8_shortestBetween 29 = .ok (.aload_n 0, 1) := by decide +kernel
theorem dX8_shortestBetween_30 : decode cX8_shortestBetween 30 = .ok (.getfield 22, 3) := by decide +kernel
theorem dX8_shortestBetween_33 : decode cX8_shortestBetween 33 = .ok (.iload 5, 2) := by decide +kernel
theorem dX8_shortestBetween_35 : decode cX8_shortestBetween 35 = .ok (.iaload, 1) := by decide +kernel
theorem dX8_shortestBetween_36 : decode cX8_shortestBetween 36 = .ok (.iload_n 3, 1) := by decide +kernel
theorem dX8_shortestBetween_37 : decode cX8_shortestBetween 37 = .ok (.if_icmp .ne 15, 3) := by decide +kernel
theorem dX8_shortestBetween_40 : decode cX8_shortestBetween 40 = .ok (.aload_n 0, 1) := by decide +kernel
theorem dX8_shortestBetween_41 : decode cX8_shortestBetween 41 = .ok (.iload 5, 2) := by decide +kernel
