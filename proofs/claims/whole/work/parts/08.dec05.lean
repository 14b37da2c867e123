theorem dX9_findSpite_76 : decode cX9_findSpite 76 = .ok (.iinc 4 1, 3) := by decide +kernel
theorem dX9_findSpite_79 : decode cX9_findSpite 79 = .ok (.goto (-43), 3) := by decide +kernel
theorem dX9_findSpite_82 : decode cX9_findSpite 82 = .ok (.aload_n 0, 1) := by decide +kernel
theorem dX9_findSpite_83 : decode cX9_findSpite 83 = .ok (.getfield 75, 3) := by decide +kernel
theorem dX9_findSpite_86 : decode cX9_findSpite 86 = .ok (.iconst 1, 1) := by decide +kernel
theorem dX9_findSpite_87 : decode cX9_findSpite 87 = .ok (.putfield 243, 3) := by decide +kernel
theorem dX9_findSpite_90 : decode cX9_findSpite 90 = .ok (.return_, 1) := by decide +kernel
theorem dX9_took_0 : decode cX9_took 0 = .ok (.aload_n 0, 1) := by decide +kernel
theorem dX9_took_1 : decode cX9_took 1 = .ok (.iload_n 1, 1) := by decide +kernel
theorem dX9_took_2 : decode cX9_took 2 = .ok (.invokevirtual 121, 3) := by decide +kernel
theorem dX9_took_5 : decode cX9_took 5 = .ok (.ifCond .eq 12, 3) := by decide +kernel
theorem dX9_took_8 : decode cX9_took 8 = .ok (.iload_n 2, 1) := by decide +kernel
theorem dX9_took_9 : decode cX9_took 9 = .ok (.ifCond .eq 10, 3) := by decide +kernel
theorem dX9_took_12 : decode cX9_took 12 = .ok (.iload_n 2, 1) := by decide +kernel
theorem dX9_took_13 : decode cX9_took 13 = .ok (.iconst 1, 1) := by decide +kernel
theorem dX9_took_14 : decode cX9_took 14 = .ok (.if_icmp .eq 5, 3) := by decide +kernel
theorem dX9_took_17 : decode cX9_took 17 = .ok (.iconst (-1), 1) := by decide +kernel
theorem dX9_took_18 : decode cX9_took 18 = .ok (.ireturn, 1) := by decide +kernel
theorem dX9_took_19 : decode cX9_took 19 = .ok (.aload_n 0, 1) := by decide +kernel
theorem dX9_took_20 : decode cX9_took 20 = .ok (.getfield 82, 3) := by decide +kernel
theorem dX9_took_23 : decode cX9_took 23 = .ok (.iload_n 1, 1) := by decide +kernel
theorem dX9_took_24 : decode cX9_took 24 = .ok (.iload_n 2, 1) := by decide +kernel
theorem dX9_took_25 : decode cX9_took 25 = .ok (.invokevirtual 320, 3) := by decide +kernel
theorem dX9_took_28 : decode cX9_took 28 = .ok (.ifCond .eq 13, 3) := by decide +kernel
theorem dX9_took_31 : decode cX9_took 31 = .ok (.aload_n 0, 1) := by decide +kernel
theorem dX9_took_32 : decode cX9_took 32 = .ok (.getfield 82, 3) := by decide +kernel
theorem dX9_took_35 : decode cX9_took 35 = .ok (.getfield 322, 3) := by decide +kernel
theorem dX9_took_38 : decode cX9_took 38 = .ok (.goto 5, 3) := by decide +kernel
theorem dX9_took_41 : decode cX9_took 41 = .ok (.bipush (-3), 2) := by decide +kernel
theorem dX9_took_43 : decode cX9_took 43 = .ok (.ireturn, 1) := by decide +kernel
theorem dX9_forget_0 : decode cX9_forget 0 = .ok (.aload_n 0, 1) := by decide +kernel
theorem dX9_forget_1 : decode cX9_forget 1 = .ok (.getfield 82, 3) := by decide +kernel
theorem dX9_forget_4 : decode cX9_forget 4 = .ok (.invokevirtual 117, 3) := by decide +kernel
theorem dX9_forget_7 : decode cX9_forget 7 = .ok (.ireturn, 1) := by decide +kernel
theorem dX9_can_0 : decode cX9_can 0 = .ok (.iload_n 1, 1) := by decide +kernel
theorem dX9_can_1 : decode cX9_can 1 = .ok (.ifCond .lt 8, 3) := by decide +kernel
theorem dX9_can_4 : decode cX9_can 4 = .ok (.iload_n 1, 1) := by decide +kernel
theorem dX9_can_5 : decode cX9_can 5 = .ok (.iconst 2, 1) := by decide +kernel
theorem dX9_can_6 : decode cX9_can 6 = .ok (.if_icmp .le 5, 3) := by decide +kernel
theorem dX9_can_9 : decode cX9_can 9 = .ok (.iconst (-1), 1) := by decide +kernel
theorem dX9_can_10 : decode cX9_can 10 = .ok (.ireturn, 1) := by decide +kernel
theorem dX9_can_11 : decode cX9_can 11 = .ok (.aload_n 0, 1) := by decide +kernel
theorem dX9_can_12 : decode cX9_can 12 = .ok (.getfield 39, 3) := by decide +kernel
theorem dX9_can_15 : decode cX9_can 15 = .ok (.aload_n 0, 1) := by decide +kernel
theorem dX9_can_16 : decode cX9_can 16 = .ok (.getfield 19, 3) := by decide +kernel
theorem dX9_can_19 : decode cX9_can 19 = .ok (.aload_n 0, 1) := by decide +kernel
theorem dX9_can_20 : decode cX9_can 20 = .ok (.getfield 29, 3) := by decide +kernel
theorem dX9_can_23 : decode cX9_can 23 = .ok (.getfield 131, 3) := by decide +kernel
theorem dX9_can_26 : decode cX9_can 26 = .ok (.invokevirtual 177, 3) := by decide +kernel
theorem dX9_can_29 : decode cX9_can 29 = .ok (.aload_n 0, 1) := by decide +kernel
theorem dX9_can_30 : decode cX9_can 30 = .ok (.getfield 82, 3) := by decide +kernel
theorem dX9_can_33 : decode cX9_can 33 = .ok (.aload_n 0, 1) := by decide +kernel
theorem dX9_can_34 : decode cX9_can 34 = .ok (.getfield 39, 3) := by decide +kernel
theorem dX9_can_37 : decode cX9_can 37 = .ok (.invokevirtual 323, 3) := by decide +kernel
theorem dX9_can_40 : decode cX9_can 40 = .ok (.iload_n 1, 1) := by decide +kernel
theorem dX9_can_41 : decode cX9_can 41 = .ok (.lookupswitch 58 #[(0, 27), (1, 35)], 27) := by decide +kernel
theorem dX9_can_68 : decode cX9_can 68 = .ok (.aload_n 0, 1) := by decide +kernel
theorem dX9_can_69 : decode cX9_can 69 = .ok (.getfield 82, 3) := by decide +kernel
theorem dX9_can_72 : decode cX9_can 72 = .ok (.getfield 327, 3) := by decide +kernel
theorem dX9_can_75 : decode cX9_can 75 = .ok (.ireturn, 1) := by decide +kernel
theorem dX9_can_76 : decode cX9_can 76 = .ok (.aload_n 0, 1) := by decide +kernel
theorem dX9_can_77 : decode cX9_can 77 = .ok (.getfield 82, 3) := by decide +kernel
theorem dX9_can_80 : decode cX9_can 80 = .ok (.getfield 327, 3) := by decide +kernel
theorem dX9_can_83 : decode cX9_can 83 = .ok (.ifCond .ne 8, 3) := by decide +kernel
theorem dX9_can_86 : decode cX9_can 86 = .ok (.bipush (-9), 2) := by decide +kernel
theorem dX9_can_88 : decode cX9_can 88 = .ok (.goto 10, 3) := by decide +kernel
theorem dX9_can_91 : decode cX9_can 91 = .ok (.aload_n 0, 1) := by decide +kernel
theorem dX9_can_92 : decode cX9_can 92 = .ok (.getfield 82, 3) := by decide +kernel
theorem dX9_can_95 : decode cX9_can 95 = .ok (.getfield 330, 3) := by decide +kernel
theorem dX9_can_98 : decode cX9_can 98 = .ok (.ireturn, 1) := by decide +kernel
theorem dX9_can_99 : decode cX9_can 99 = .ok (.aload_n 0, 1) := by decide +kernel
theorem dX9_can_100 : decode cX9_can 100 = .ok (.getfield 82, 3) := by decide +kernel
theorem dX9_can_103 : decode cX9_can 103 = .ok (.getfield 333, 3) := by decide +kernel
theorem dX9_can_106 : decode cX9_can 106 = .ok (.ireturn, 1) := by decide +kernel
theorem dX9_look_0 : decode cX9_look 0 = .ok (.aload_n 0, 1) := by decide +kernel
theorem dX9_look_1 : decode cX9_look 1 = .ok (.getfield 39, 3) := by decide +kernel
theorem dX9_look_4 : decode cX9_look 4 = .ok (.aload_n 0, 1) := by decide +kernel
theorem dX9_look_5 : decode cX9_look 5 = .ok (.getfield 19, 3) := by decide +kernel
theorem dX9_look_8 : decode cX9_look 8 = .ok (.aload_n 0, 1) := by decide +kernel
theorem dX9_look_9 : decode cX9_look 9 = .ok (.getfield 29, 3) := by decide +kernel
theorem dX9_look_12 : decode cX9_look 12 = .ok (.getfield 131, 3) := by decide +kernel
theorem dX9_look_15 : decode cX9_look 15 = .ok (.invokevirtual 177, 3) := by decide +kernel
theorem dX9_look_18 : decode cX9_look 18 = .ok (.aload_n 0, 1) := by decide +kernel
theorem dX9_look_19 : decode cX9_look 19 = .ok (.getfield 82, 3) := by decide +kernel
theorem dX9_look_22 : decode cX9_look 22 = .ok (.aload_n 0, 1) := by decide +kernel
theorem dX9_look_23 : decode cX9_look 23 = .ok (.getfield 39, 3) := by decide +kernel
theorem dX9_look_26 : decode cX9_look 26 = .ok (.invokevirtual 323, 3) := by decide +kernel
theorem dX9_look_29 : decode cX9_look 29 = .ok (.aload_n 0, 1) := by decide +kernel
theorem dX9_look_30 : decode cX9_look 30 = .ok (.getfield 82, 3) := by decide +kernel
theorem dX9_look_33 : decode cX9_look 33 = .ok (.getfield 327, 3) := by decide +kernel
theorem dX9_look_36 : decode cX9_look 36 = .ok (.iconst 2, 1) := by decide +kernel
theorem dX9_look_37 : decode cX9_look 37 = .ok (.if_icmp .ge 6, 3) := by decide +kernel
theorem dX9_look_40 : decode cX9_look 40 = .ok (.bipush (-9), 2) := by decide +kernel
theorem dX9_look_42 : decode cX9_look 42 = .ok (.ireturn, 1) := by decide +kernel
theorem dX9_look_43 : decode cX9_look 43 = .ok (.bipush (-9), 2) := by decide +kernel
theorem dX9_look_45 : decode cX9_look 45 = .ok (.istore_n 1, 1) := by decide +kernel
theorem dX9_look_46 : decode cX9_look 46 = .ok (.iconst 0, 1) := by decide +kernel
theorem dX9_look_47 : decode cX9_look 47 = .ok (.istore_n 2, 1) := by decide +kernel
theorem dX9_look_48 : decode cX9_look 48 = .ok (.iconst 0, 1) := by decide +kernel
theorem dX9_look_49 : decode cX9_look 49 = .ok (.istore_n 3, 1) := by decide +kernel
theorem dX9_look_50 : decode cX9_look 50 = .ok (.iload_n 3, 1) := by decide +kernel
theorem dX9_look_51 : decode cX9_look 51 = .ok (.aload_n 0, 1) := by decide +kernel
theorem dX9_look_52 : decode cX9_look 52 = .ok (.getfield 19, 3) := by decide +kernel
theorem dX9_look_55 : decode cX9_look 55 = .ok (.getfield 171, 3) := by decide +kernel
theorem dX9_look_58 : decode cX9_look 58 = .ok (.if_icmp .ge 54, 3) := by decide +kernel
theorem dX9_look_61 : decode cX9_look 61 = .ok (.aload_n 0, 1) := by decide +kernel
theorem dX9_look_62 : decode cX9_look 62 = .ok (.getfield 82, 3) := by decide +kernel
theorem dX9_look_65 : decode cX9_look 65 = .ok (.getfield 336, 3) := by decide +kernel
theorem dX9_look_68 : decode cX9_look 68 = .ok (.iload_n 3, 1) := by decide +kernel
theorem dX9_look_69 : decode cX9_look 69 = .ok (.iaload, 1) := by decide +kernel
theorem dX9_look_70 : decode cX9_look 70 = .ok (.istore 4, 2) := by decide +kernel
theorem dX9_look_72 : decode cX9_look 72 = .ok (.iload 4, 2) := by decide +kernel
theorem dX9_look_74 : decode cX9_look 74 = .ok (.aload_n 0, 1) := by decide +kernel
theorem dX9_look_75 : decode cX9_look 75 = .ok (.getfield 82, 3) := by decide +kernel
theorem dX9_look_78 : decode cX9_look 78 = .ok (.getfield 327, 3) := by decide +kernel
theorem dX9_look_81 : decode cX9_look 81 = .ok (.iload 4, 2) := by decide +kernel
theorem dX9_look_83 : decode cX9_look 83 = .ok (.isub, 1) := by decide +kernel
theorem dX9_look_84 : decode cX9_look 84 = .ok (.invokestatic 339, 3) := by decide +kernel
theorem dX9_look_87 : decode cX9_look 87 = .ok (.istore 5, 2) := by decide +kernel
theorem dX9_look_89 : decode cX9_look 89 = .ok (.iload_n 1, 1) := by decide +kernel
theorem dX9_look_90 : decode cX9_look 90 = .ok (.bipush (-9), 2) := by decide +kernel
theorem dX9_look_92 : decode cX9_look 92 = .ok (.if_icmp .eq 9, 3) := by decide +kernel
theorem dX9_look_95 : decode cX9_look 95 = .ok (.iload 5, 2) := by decide +kernel
theorem dX9_look_97 : decode cX9_look 97 = .ok (.iload_n 2, 1) := by decide +kernel
theorem dX9_look_98 : decode cX9_look 98 = .ok (.if_icmp .ge 8, 3) := by decide +kernel
theorem dX9_look_101 : decode cX9_look 101 = .ok (.iload_n 3, 1) := by decide +kernel
theorem dX9_look_102 : decode cX9_look 102 = .ok (.istore_n 1, 1) := by decide +kernel
theorem dX9_look_103 : decode cX9_look 103 = .ok (.iload 5, 2) := by decide +kernel
theorem dX9_look_105 : decode cX9_look 105 = .ok (.istore_n 2, 1) := by decide +kernel
theorem dX9_look_106 : decode cX9_look 106 = .ok (.iinc 3 1, 3) := by decide +kernel
theorem dX9_look_109 : decode cX9_look 109 = .ok (.goto (-59), 3) := by decide +kernel
theorem dX9_look_112 : decode cX9_look 112 = .ok (.iload_n 1, 1) := by decide +kernel
theorem dX9_look_113 : decode cX9_look 113 = .ok (.ireturn, 1) := by decide +kernel
theorem dX9_rate_0 : decode cX9_rate 0 = .ok (.aload_n 0, 1) := by decide +kernel
theorem dX9_rate_1 : decode cX9_rate 1 = .ok (.iload_n 2, 1) := by decide +kernel
theorem dX9_rate_2 : decode cX9_rate 2 = .ok (.invokevirtual 121, 3) := by decide +kernel
theorem dX9_rate_5 : decode cX9_rate 5 = .ok (.ifCond .ne 7, 3) := by decide +kernel
theorem dX9_rate_8 : decode cX9_rate 8 = .ok (.ldc_w 342, 3) := by decide +kernel
theorem dX9_rate_11 : decode cX9_rate 11 = .ok (.ireturn, 1) := by decide +kernel
theorem dX9_rate_12 : decode cX9_rate 12 = .ok (.iload_n 1, 1) := by decide +kernel
theorem dX9_rate_13 : decode cX9_rate 13 = .ok (.tableswitch 75 0 5 #[39, 45, 51, 57, 63, 69], 39) := by decide +kernel
theorem dX9_rate_52 : decode cX9_rate 52 = .ok (.aload_n 0, 1) := by decide +kernel
theorem dX9_rate_53 : decode cX9_rate 53 = .ok (.iload_n 2, 1) := by decide +kernel
theorem dX9_rate_54 : decode cX9_rate 54 = .ok (.invokevirtual 343, 3) := by decide +kernel
theorem dX9_rate_57 : decode cX9_rate 57 = .ok (.ireturn, 1) := by decide +kernel
theorem dX9_rate_58 : decode cX9_rate 58 = .ok (.aload_n 0, 1) := by decide +kernel
theorem dX9_rate_59 : decode cX9_rate 59 = .ok (.iload_n 2, 1) := by decide +kernel
theorem dX9_rate_60 : decode cX9_rate 60 = .ok (.invokevirtual 346, 3) := by decide +kernel
theorem dX9_rate_63 : decode cX9_rate 63 = .ok (.ireturn, 1) := by decide +kernel
theorem dX9_rate_64 : decode cX9_rate 64 = .ok (.aload_n 0, 1) := by decide +kernel
theorem dX9_rate_65 : decode cX9_rate 65 = .ok (.iload_n 2, 1) := by decide +kernel
theorem dX9_rate_66 : decode cX9_rate 66 = .ok (.invokevirtual 349, 3) := by decide +kernel
theorem dX9_rate_69 : decode cX9_rate 69 = .ok (.ireturn, 1) := by decide +kernel
theorem dX9_rate_70 : decode cX9_rate 70 = .ok (.aload_n 0, 1) := by decide +kernel
theorem dX9_rate_71 : decode cX9_rate 71 = .ok (.iload_n 2, 1) := by decide +kernel
theorem dX9_rate_72 : decode cX9_rate 72 = .ok (.invokevirtual 352, 3) := by decide +kernel
theorem dX9_rate_75 : decode cX9_rate 75 = .ok (.ireturn, 1) := by decide +kernel
theorem dX9_rate_76 : decode cX9_rate 76 = .ok (.aload_n 0, 1) := by decide +kernel
theorem dX9_rate_77 : decode cX9_rate 77 = .ok (.iload_n 2, 1) := by decide +kernel
theorem dX9_rate_78 : decode cX9_rate 78 = .ok (.invokevirtual 355, 3) := by decide +kernel
theorem dX9_rate_81 : decode cX9_rate 81 = .ok (.ireturn, 1) := by decide +kernel
theorem dX9_rate_82 : decode cX9_rate 82 = .ok (.aload_n 0, 1) := by decide +kernel
theorem dX9_rate_83 : decode cX9_rate 83 = .ok (.iload_n 2, 1) := by decide +kernel
theorem dX9_rate_84 : decode cX9_rate 84 = .ok (.invokevirtual 358, 3) := by decide +kernel
theorem dX9_rate_87 : decode cX9_rate 87 = .ok (.ireturn, 1) := by decide +kernel
theorem dX9_rate_88 : decode cX9_rate 88 = .ok (.ldc_w 342, 3) := by decide +kernel
theorem dX9_rate_91 : decode cX9_rate 91 = .ok (.ireturn, 1) := by decide +kernel
theorem dX9_keep_0 : decode cX9_keep 0 = .ok (.iload_n 1, 1) := by decide +kernel
theorem dX9_keep_1 : decode cX9_keep 1 = .ok (.ifCond .lt 8, 3) := by decide +kernel
theorem dX9_keep_4 : decode cX9_keep 4 = .ok (.iload_n 1, 1) := by decide +kernel
theorem dX9_keep_5 : decode cX9_keep 5 = .ok (.iconst 2, 1) := by decide +kernel
theorem dX9_keep_6 : decode cX9_keep 6 = .ok (.if_icmp .lt 5, 3) := by decide +kernel
theorem dX9_keep_9 : decode cX9_keep 9 = .ok (.iconst (-1), 1) := by decide +kernel
theorem dX9_keep_10 : decode cX9_keep 10 = .ok (.ireturn, 1) := by decide +kernel
theorem dX9_keep_11 : decode cX9_keep 11 = .ok (.aload_n 0, 1) := by decide +kernel
theorem dX9_keep_12 : decode cX9_keep 12 = .ok (.getfield 50, 3) := by decide +kernel
theorem dX9_keep_15 : decode cX9_keep 15 = .ok (.iload_n 1, 1) := by decide +kernel
theorem dX9_keep_16 : decode cX9_keep 16 = .ok (.aaload, 1) := by decide +kernel
theorem dX9_keep_17 : decode cX9_keep 17 = .ok (.aload_n 0, 1) := by decide +kernel
theorem dX9_keep_18 : decode cX9_keep 18 = .ok (.getfield 29, 3) := by decide +kernel
theorem dX9_keep_21 : decode cX9_keep 21 = .ok (.invokevirtual 112, 3) := by decide +kernel
theorem dX9_keep_24 : decode cX9_keep 24 = .ok (.aload_n 0, 1) := by decide +kernel
theorem dX9_keep_25 : decode cX9_keep 25 = .ok (.dup, 1) := by decide +kernel
theorem dX9_keep_26 : decode cX9_keep 26 = .ok (.getfield 54, 3) := by decide +kernel
theorem dX9_keep_29 : decode cX9_keep 29 = .ok (.iconst 1, 1) := by decide +kernel
theorem dX9_keep_30 : decode cX9_keep 30 = .ok (.iload_n 1, 1) := by decide +kernel
theorem dX9_keep_31 : decode cX9_keep 31 = .ok (.ishl, 1) := by decide +kernel
theorem dX9_keep_32 : decode cX9_keep 32 = .ok (.ior, 1) := by decide +kernel
theorem dX9_keep_33 : decode cX9_keep 33 = .ok (.putfield 54, 3) := by decide +kernel
theorem dX9_keep_36 : decode cX9_keep 36 = .ok (.aload_n 0, 1) := by decide +kernel
theorem dX9_keep_37 : decode cX9_keep 37 = .ok (.getfield 29, 3) := by decide +kernel
theorem dX9_keep_40 : decode cX9_keep 40 = .ok (.getfield 174, 3) := by decide +kernel
theorem dX9_keep_43 : decode cX9_keep 43 = .ok (.ireturn, 1) := by decide +kernel
theorem dX9_back_0 : decode cX9_back 0 = .ok (.iload_n 1, 1) := by decide +kernel
theorem dX9_back_1 : decode cX9_back 1 = .ok (.ifCond .lt 8, 3) := by decide +kernel
theorem dX9_back_4 : decode cX9_back 4 = .ok (.iload_n 1, 1) := by decide +kernel
theorem dX9_back_5 : decode cX9_back 5 = .ok (.iconst 2, 1) := by decide +kernel
theorem dX9_back_6 : decode cX9_back 6 = .ok (.if_icmp .lt 5, 3) := by decide +kernel
theorem dX9_back_9 : decode cX9_back 9 = .ok (.iconst (-1), 1) := by decide +kernel
theorem dX9_back_10 : decode cX9_back 10 = .ok (.ireturn, 1) := by decide +kernel
theorem dX9_back_11 : decode cX9_back 11 = .ok (.aload_n 0, 1) := by decide +kernel
theorem dX9_back_12 : decode cX9_back 12 = .ok (.getfield 54, 3) := by decide +kernel
theorem dX9_back_15 : decode cX9_back 15 = .ok (.iload_n 1, 1) := by decide +kernel
theorem dX9_back_16 : decode cX9_back 16 = .ok (.ishr, 1) := by decide +kernel
theorem dX9_back_17 : decode cX9_back 17 = .ok (.iconst 1, 1) := by decide +kernel
theorem dX9_back_18 : decode cX9_back 18 = .ok (.iand, 1) := by decide +kernel
theorem dX9_back_19 : decode cX9_back 19 = .ok (.ifCond .ne 6, 3) := by decide +kernel
theorem dX9_back_22 : decode cX9_back 22 = .ok (.bipush (-2), 2) := by decide +kernel
theorem dX9_back_24 : decode cX9_back 24 = .ok (.ireturn, 1) := by decide +kernel
theorem dX9_back_25 : decode cX9_back 25 = .ok (.aload_n 0, 1) := by decide +kernel
theorem dX9_back_26 : decode cX9_back 26 = .ok (.getfield 29, 3) := by decide +kernel
theorem dX9_back_29 : decode cX9_back 29 = .ok (.aload_n 0, 1) := by decide +kernel
theorem dX9_back_30 : decode cX9_back 30 = .ok (.getfield 50, 3) := by decide +kernel
theorem dX9_back_33 : decode cX9_back 33 = .ok (.iload_n 1, 1) := by decide +kernel
theorem dX9_back_34 : decode cX9_back 34 = .ok (.aaload, 1) := by decide +kernel
theorem dX9_back_35 : decode cX9_back 35 = .ok (.invokevirtual 112, 3) := by decide +kernel
theorem dX9_back_38 : decode cX9_back 38 = .ok (.aload_n 0, 1) := by decide +kernel
theorem dX9_back_39 : decode cX9_back 39 = .ok (.getfield 46, 3) := by decide +kernel
theorem dX9_back_42 : decode cX9_back 42 = .ok (.invokevirtual 116, 3) := by decide +kernel
theorem dX9_back_45 : decode cX9_back 45 = .ok (.aload_n 0, 1) := by decide +kernel
theorem dX9_back_46 : decode cX9_back 46 = .ok (.invokevirtual 118, 3) := by decide +kernel
theorem dX9_back_49 : decode cX9_back 49 = .ok (.aload_n 0, 1) := by decide +kernel
theorem dX9_back_50 : decode cX9_back 50 = .ok (.getfield 29, 3) := by decide +kernel
theorem dX9_back_53 : decode cX9_back 53 = .ok (.getfield 174, 3) := by decide +kernel
theorem dX9_back_56 : decode cX9_back 56 = .ok (.ireturn, 1) := by decide +kernel
theorem dX9_count_0 : decode cX9_count 0 = .ok (.iload_n 1, 1) := by decide +kernel
theorem dX9_count_1 : decode cX9_count 1 = .ok (.tableswitch 75 0 4 #[35, 43, 51, 59, 67], 35) := by decide +kernel
theorem dX9_count_36 : decode cX9_count 36 = .ok (.aload_n 0, 1) := by decide +kernel
theorem dX9_count_37 : decode cX9_count 37 = .ok (.getfield 19, 3) := by decide +kernel
theorem dX9_count_40 : decode cX9_count 40 = .ok (.getfield 168, 3) := by decide +kernel
theorem dX9_count_43 : decode cX9_count 43 = .ok (.ireturn, 1) := by decide +kernel
theorem dX9_count_44 : decode cX9_count 44 = .ok (.aload_n 0, 1) := by decide +kernel
theorem dX9_count_45 : decode cX9_count 45 = .ok (.getfield 19, 3) := by decide +kernel
theorem dX9_count_48 : decode cX9_count 48 = .ok (.getfield 171, 3) := by decide +kernel
theorem dX9_count_51 : decode cX9_count 51 = .ok (.ireturn, 1) := by decide +kernel
theorem dX9_count_52 : decode cX9_count 52 = .ok (.aload_n 0, 1) := by decide +kernel
theorem dX9_count_53 : decode cX9_count 53 = .ok (.getfield 29, 3) := by decide +kernel
theorem dX9_count_56 : decode cX9_count 56 = .ok (.getfield 174, 3) := by decide +kernel
theorem dX9_count_59 : decode cX9_count 59 = .ok (.ireturn, 1) := by decide +kernel
theorem dX9_count_60 : decode cX9_count 60 = .ok (.aload_n 0, 1) := by decide +kernel
theorem dX9_count_61 : decode cX9_count 61 = .ok (.getfield 82, 3) := by decide +kernel
theorem dX9_count_64 : decode cX9_count 64 = .ok (.getfield 322, 3) := by decide +kernel
theorem dX9_count_67 : decode cX9_count 67 = .ok (.ireturn, 1) := by decide +kernel
theorem dX9_count_68 : decode cX9_count 68 = .ok (.aload_n 0, 1) := by decide +kernel
theorem dX9_count_69 : decode cX9_count 69 = .ok (.getfield 12, 3) := by decide +kernel
theorem dX9_count_72 : decode cX9_count 72 = .ok (.getfield 94, 3) := by decide +kernel
theorem dX9_count_75 : decode cX9_count 75 = .ok (.ireturn, 1) := by decide +kernel
theorem dX9_count_76 : decode cX9_count 76 = .ok (.iconst (-1), 1) := by decide +kernel
theorem dX9_count_77 : decode cX9_count 77 = .ok (.ireturn, 1) := by decide +kernel
theorem dX9_trace_0 : decode cX9_trace 0 = .ok (.aload_n 0, 1) := by decide +kernel
theorem dX9_trace_1 : decode cX9_trace 1 = .ok (.getfield 86, 3) := by decide +kernel
theorem dX9_trace_4 : decode cX9_trace 4 = .ok (.lreturn, 1) := by decide +kernel
theorem dX9_asLane_0 : decode cX9_asLane 0 = .ok (.aload_n 0, 1) := by decide +kernel
theorem dX9_asLane_1 : decode cX9_asLane 1 = .ok (.dup, 1) := by decide +kernel
theorem dX9_asLane_2 : decode cX9_asLane 2 = .ok (.getfield 86, 3) := by decide +kernel
theorem dX9_asLane_5 : decode cX9_asLane 5 = .ok (.lconst 1, 1) := by decide +kernel
theorem dX9_asLane_6 : decode cX9_asLane 6 = .ok (.ladd, 1) := by decide +kernel
theorem dX9_asLane_7 : decode cX9_asLane 7 = .ok (.putfield 86, 3) := by decide +kernel
theorem dX9_asLane_10 : decode cX9_asLane 10 = .ok (.aload_n 0, 1) := by decide +kernel
theorem dX9_asLane_11 : decode cX9_asLane 11 = .ok (.getfield 29, 3) := by decide +kernel
theorem dX9_asLane_14 : decode cX9_asLane 14 = .ok (.getfield 131, 3) := by decide +kernel
theorem dX9_asLane_17 : decode cX9_asLane 17 = .ok (.iload_n 1, 1) := by decide +kernel
theorem dX9_asLane_18 : decode cX9_asLane 18 = .ok (.iaload, 1) := by decide +kernel
theorem dX9_asLane_19 : decode cX9_asLane 19 = .ok (.ireturn, 1) := by decide +kernel
theorem dX9_asBrook_0 : decode cX9_asBrook 0 = .ok (.aload_n 0, 1) := by decide +kernel
theorem dX9_asBrook_1 : decode cX9_asBrook 1 = .ok (.dup, 1) := by decide +kernel
theorem dX9_asBrook_2 : decode cX9_asBrook 2 = .ok (.getfield 86, 3) := by decide +kernel
theorem dX9_asBrook_5 : decode cX9_asBrook 5 = .ok (.ldc2_w 361, 3) := by decide +kernel
theorem dX9_asBrook_8 : decode cX9_asBrook 8 = .ok (.ladd, 1) := by decide +kernel
theorem dX9_asBrook_9 : decode cX9_asBrook 9 = .ok (.putfield 86, 3) := by decide +kernel
theorem dX9_asBrook_12 : decode cX9_asBrook 12 = .ok (.aload_n 0, 1) := by decide +kernel
theorem dX9_asBrook_13 : decode cX9_asBrook 13 = .ok (.iload_n 1, 1) := by decide +kernel
theorem dX9_asBrook_14 : decode cX9_asBrook 14 = .ok (.invokevirtual 343, 3) := by decide +kernel
theorem dX9_asBrook_17 : decode cX9_asBrook 17 = .ok (.aload_n 0, 1) := by decide +kernel
theorem dX9_asBrook_18 : decode cX9_asBrook 18 = .ok (.getfield 19, 3) := by decide +kernel
theorem dX9_asBrook_21 : decode cX9_asBrook 21 = .ok (.getfield 134, 3) := by decide +kernel
theorem dX9_asBrook_24 : decode cX9_asBrook 24 = .ok (.iload_n 1, 1) := by decide +kernel
theorem dX9_asBrook_25 : decode cX9_asBrook 25 = .ok (.iaload, 1) := by decide +kernel
theorem dX9_asBrook_26 : decode cX9_asBrook 26 = .ok (.iadd, 1) := by decide +kernel
theorem dX9_asBrook_27 : decode cX9_asBrook 27 = .ok (.ireturn, 1) := by decide +kernel
theorem dX9_asCart_0 : decode cX9_asCart 0 = .ok (.aload_n 0, 1) := by decide +kernel
theorem dX9_asCart_1 : decode cX9_asCart 1 = .ok (.dup, 1) := by decide +kernel
theorem dX9_asCart_2 : decode cX9_asCart 2 = .ok (.getfield 86, 3) := by decide +kernel
theorem dX9_asCart_5 : decode cX9_asCart 5 = .ok (.ldc2_w 363, 3) := by decide +kernel
theorem dX9_asCart_8 : decode cX9_asCart 8 = .ok (.ladd, 1) := by decide +kernel
theorem dX9_asCart_9 : decode cX9_asCart 9 = .ok (.putfield 86, 3) := by decide +kernel
theorem dX9_asCart_12 : decode cX9_asCart 12 = .ok (.aload_n 0, 1) := by decide +kernel
theorem dX9_asCart_13 : decode cX9_asCart 13 = .ok (.iload_n 1, 1) := by decide +kernel
theorem dX9_asCart_14 : decode cX9_asCart 14 = .ok (.invokevirtual 343, 3) := by decide +kernel
theorem dX9_asCart_17 : decode cX9_asCart 17 = .ok (.aload_n 0, 1) := by decide +kernel
theorem dX9_asCart_18 : decode cX9_asCart 18 = .ok (.iload_n 1, 1) := by decide +kernel
theorem dX9_asCart_19 : decode cX9_asCart 19 = .ok (.invokevirtual 137, 3) := by decide +kernel
theorem dX9_asCart_22 : decode cX9_asCart 22 = .ok (.isub, 1) := by decide +kernel
theorem dX9_asCart_23 : decode cX9_asCart 23 = .ok (.ireturn, 1) := by decide +kernel
theorem dX9_asParlour_0 : decode cX9_asParlour 0 = .ok (.aload_n 0, 1) := by decide +kernel
theorem dX9_asParlour_1 : decode cX9_asParlour 1 = .ok (.dup, 1) := by decide +kernel
theorem dX9_asParlour_2 : decode cX9_asParlour 2 = .ok (.getfield 86, 3) := by decide +kernel
theorem dX9_asParlour_5 : decode cX9_asParlour 5 = .ok (.ldc2_w 365, 3) := by decide +kernel
theorem dX9_asParlour_8 : decode cX9_asParlour 8 = .ok (.ladd, 1) := by decide +kernel
theorem dX9_asParlour_9 : decode cX9_asParlour 9 = .ok (.putfield 86, 3) := by decide +kernel
theorem dX9_asParlour_12 : decode cX9_asParlour 12 = .ok (.iconst 2, 1) := by decide +kernel
theorem dX9_asParlour_13 : decode cX9_asParlour 13 = .ok (.aload_n 0, 1) := by decide +kernel
theorem dX9_asParlour_14 : decode cX9_asParlour 14 = .ok (.iload_n 1, 1) := by decide +kernel
theorem dX9_asParlour_15 : decode cX9_asParlour 15 = .ok (.invokevirtual 346, 3) := by decide +kernel
theorem dX9_asParlour_18 : decode cX9_asParlour 18 = .ok (.imul, 1) := by decide +kernel
theorem dX9_asParlour_19 : decode cX9_asParlour 19 = .ok (.ireturn, 1) := by decide +kernel
theorem dX9_asHome_0 : decode cX9_asHome 0 = .ok (.aload_n 0, 1) := by decide +kernel
theorem dX9_asHome_1 : decode cX9_asHome 1 = .ok (.dup, 1) := by decide +kernel
theorem dX9_asHome_2 : decode cX9_asHome 2 = .ok (.getfield 86, 3) := by decide +kernel
theorem dX9_asHome_5 : decode cX9_asHome 5 = .ok (.ldc2_w 367, 3) := by decide +kernel
theorem dX9_asHome_8 : decode cX9_asHome 8 = .ok (.ladd, 1) := by decide +kernel
theorem dX9_asHome_9 : decode cX9_asHome 9 = .ok (.putfield 86, 3) := by decide +kernel
theorem dX9_asHome_12 : decode cX9_asHome 12 = .ok (.aload_n 0, 1) := by decide +kernel
theorem dX9_asHome_13 : decode cX9_asHome 13 = .ok (.iload_n 1, 1) := by decide +kernel
theorem dX9_asHome_14 : decode cX9_asHome 14 = .ok (.invokevirtual 349, 3) := by decide +kernel
theorem dX9_asHome_17 : decode cX9_asHome 17 = .ok (.iload_n 1, 1) := by decide +kernel
theorem dX9_asHome_18 : decode cX9_asHome 18 = .ok (.iadd, 1) := by decide +kernel
theorem dX9_asHome_19 : decode cX9_asHome 19 = .ok (.ireturn, 1) := by decide +kernel
theorem dX9_asSea_0 : decode cX9_asSea 0 = .ok (.aload_n 0, 1) := by decide +kernel
theorem dX9_asSea_1 : decode cX9_asSea 1 = .ok (.dup, 1) := by decide +kernel
theorem dX9_asSea_2 : decode cX9_asSea 2 = .ok (.getfield 86, 3) := by decide +kernel
theorem dX9_asSea_5 : decode cX9_asSea 5 = .ok (.ldc2_w 369, 3) := by decide +kernel
theorem dX9_asSea_8 : decode cX9_asSea 8 = .ok (.ladd, 1) := by decide +kernel
theorem dX9_asSea_9 : decode cX9_asSea 9 = .ok (.putfield 86, 3) := by decide +kernel
theorem dX9_asSea_12 : decode cX9_asSea 12 = .ok (.aload_n 0, 1) := by decide +kernel
theorem dX9_asSea_13 : decode cX9_asSea 13 = .ok (.iload_n 1, 1) := by decide +kernel
theorem dX9_asSea_14 : decode cX9_asSea 14 = .ok (.invokevirtual 343, 3) := by decide +kernel
theorem dX9_asSea_17 : decode cX9_asSea 17 = .ok (.aload_n 0, 1) := by decide +kernel
theorem dX9_asSea_18 : decode cX9_asSea 18 = .ok (.getfield 29, 3) := by decide +kernel
theorem dX9_asSea_21 : decode cX9_asSea 21 = .ok (.getfield 162, 3) := by decide +kernel
theorem dX9_asSea_24 : decode cX9_asSea 24 = .ok (.iadd, 1) := by decide +kernel
theorem dX9_asSea_25 : decode cX9_asSea 25 = .ok (.ireturn, 1) := by decide +kernel
theorem dX10_init_0 : decode cX10_init 0 = .ok (.aload_n 0, 1) := by decide +kernel
theorem dX10_init_1 : decode cX10_init 1 = .ok (.invokespecial 1, 3) := by decide +kernel
theorem dX10_init_4 : decode cX10_init 4 = .ok (.aload_n 0, 1) := by decide +kernel
theorem dX10_init_5 : decode cX10_init 5 = .ok (.bipush 120, 2) := by decide +kernel
theorem dX10_init_7 : decode cX10_init 7 = .ok (.newarray .int, 2) := by decide +kernel
theorem dX10_init_9 : decode cX10_init 9 = .ok (.putfield 7, 3) := by decide +kernel
theorem dX10_init_12 : decode cX10_init 12 = .ok (.aload_n 0, 1) := by decide +kernel
theorem dX10_init_13 : decode cX10_init 13 = .ok (.iconst 4, 1) := by decide +kernel
theorem dX10_init_14 : decode cX10_init 14 = .ok (.newarray .int, 2) := by decide +kernel
theorem dX10_init_16 : decode cX10_init 16 = .ok (.putfield 13, 3) := by decide +kernel
theorem dX10_init_19 : decode cX10_init 19 = .ok (.aload_n 0, 1) := by decide +kernel
theorem dX10_init_20 : decode cX10_init 20 = .ok (.bipush 12, 2) := by decide +kernel
theorem dX10_init_22 : decode cX10_init 22 = .ok (.newarray .int, 2) := by decide +kernel
theorem dX10_init_24 : decode cX10_init 24 = .ok (.putfield 16, 3) := by decide +kernel
theorem dX10_init_27 : decode cX10_init 27 = .ok (.aload_n 0, 1) := by decide +kernel
theorem dX10_init_28 : decode cX10_init 28 = .ok (.bipush 12, 2) := by decide +kernel
theorem dX10_init_30 : decode cX10_init 30 = .ok (.newarray .int, 2) := by decide +kernel
theorem dX10_init_32 : decode cX10_init 32 = .ok (.putfield 19, 3) := by decide +kernel
theorem dX10_init_35 : decode cX10_init 35 = .ok (.aload_n 0, 1) := by decide +kernel
theorem dX10_init_36 : decode cX10_init 36 = .ok (.bipush 12, 2) := by decide +kernel
theorem dX10_init_38 : decode cX10_init 38 = .ok (.newarray .int, 2) := by decide +kernel
theorem dX10_init_40 : decode cX10_init 40 = .ok (.putfield 22, 3) := by decide +kernel
theorem dX10_init_43 : decode cX10_init 43 = .ok (.aload_n 0, 1) := by decide +kernel
theorem dX10_init_44 : decode cX10_init 44 = .ok (.bipush 38, 2) := by decide +kernel
theorem dX10_init_46 : decode cX10_init 46 = .ok (.newarray .int, 2) := by decide +kernel
theorem dX10_init_48 : decode cX10_init 48 = .ok (.putfield 25, 3) := by decide +kernel
theorem dX10_init_51 : decode cX10_init 51 = .ok (.aload_n 0, 1) := by decide +kernel
theorem dX10_init_52 : decode cX10_init 52 = .ok (.bipush 38, 2) := by decide +kernel
theorem dX10_init_54 : decode cX10_init 54 = .ok (.newarray .int, 2) := by decide +kernel
theorem dX10_init_56 : decode cX10_init 56 = .ok (.putfield 28, 3) := by decide +kernel
theorem dX10_init_59 : decode cX10_init 59 = .ok (.aload_n 0, 1) := by decide +kernel
theorem dX10_init_60 : decode cX10_init 60 = .ok (.bipush 76, 2) := by decide +kernel
theorem dX10_init_62 : decode cX10_init 62 = .ok (.newarray .int, 2) := by decide +kernel
theorem dX10_init_64 : decode cX10_init 64 = .ok (.putfield 31, 3) := by decide +kernel
theorem dX10_init_67 : decode cX10_init 67 = .ok (.aload_n 0, 1) := by decide +kernel
theorem dX10_init_68 : decode cX10_init 68 = .ok (.iconst 2, 1) := by decide +kernel
theorem dX10_init_69 : decode cX10_init 69 = .ok (.newarray .boolean, 2) := by decide +kernel
theorem dX10_init_71 : decode cX10_init 71 = .ok (.putfield 34, 3) := by decide +kernel
theorem dX10_init_74 : decode cX10_init 74 = .ok (.aload_n 0, 1) := by decide +kernel
theorem dX10_init_75 : decode cX10_init 75 = .ok (.sipush 380, 3) := by decide +kernel
theorem dX10_init_78 : decode cX10_init 78 = .ok (.newarray .int, 2) := by decide +kernel
theorem dX10_init_80 : decode cX10_init 80 = .ok (.putfield 38, 3) := by decide +kernel
theorem dX10_init_83 : decode cX10_init 83 = .ok (.aload_n 0, 1) := by decide +kernel
theorem dX10_init_84 : decode cX10_init 84 = .ok (.bipush 6, 2) := by decide +kernel
theorem dX10_init_86 : decode cX10_init 86 = .ok (.newarray .int, 2) := by decide +kernel
theorem dX10_init_88 : decode cX10_init 88 = .ok (.putfield 41, 3) := by decide +kernel
theorem dX10_init_91 : decode cX10_init 91 = .ok (.aload_n 0, 1) := by decide +kernel
theorem dX10_init_92 : decode cX10_init 92 = .ok (.bipush 6, 2) := by decide +kernel
theorem dX10_init_94 : decode cX10_init 94 = .ok (.newarray .int, 2) := by decide +kernel
theorem dX10_init_96 : decode cX10_init 96 = .ok (.putfield 44, 3) := by decide +kernel
theorem dX10_init_99 : decode cX10_init 99 = .ok (.aload_n 0, 1) := by decide +kernel
theorem dX10_init_100 : decode cX10_init 100 = .ok (.bipush 64, 2) := by decide +kernel
theorem dX10_init_102 : decode cX10_init 102 = .ok (.newarray .int, 2) := by decide +kernel
theorem dX10_init_104 : decode cX10_init 104 = .ok (.putfield 47, 3) := by decide +kernel
theorem dX10_init_107 : decode cX10_init 107 = .ok (.aload_n 0, 1) := by decide +kernel
theorem dX10_init_108 : decode cX10_init 108 = .ok (.bipush 64, 2) := by decide +kernel
theorem dX10_init_110 : decode cX10_init 110 = .ok (.newarray .int, 2) := by decide +kernel
theorem dX10_init_112 : decode cX10_init 112 = .ok (.putfield 50, 3) := by decide +kernel
theorem dX10_init_115 : decode cX10_init 115 = .ok (.aload_n 0, 1) := by decide +kernel
theorem dX10_init_116 : decode cX10_init 116 = .ok (.bipush 64, 2) := by decide +kernel
theorem dX10_init_118 : decode cX10_init 118 = .ok (.newarray .int, 2) := by decide +kernel
theorem dX10_init_120 : decode cX10_init 120 = .ok (.putfield 53, 3) := by decide +kernel
theorem dX10_init_123 : decode cX10_init 123 = .ok (.aload_n 0, 1) := by decide +kernel
theorem dX10_init_124 : decode cX10_init 124 = .ok (.bipush 64, 2) := by decide +kernel
theorem dX10_init_126 : decode cX10_init 126 = .ok (.newarray .int, 2) := by decide +kernel
theorem dX10_init_128 : decode cX10_init 128 = .ok (.putfield 56, 3) := by decide +kernel
theorem dX10_init_131 : decode cX10_init 131 = .ok (.aload_n 0, 1) := by decide +kernel
theorem dX10_init_132 : decode cX10_init 132 = .ok (.iconst 4, 1) := by decide +kernel
theorem dX10_init_133 : decode cX10_init 133 = .ok (.newarray .int, 2) := by decide +kernel
theorem dX10_init_135 : decode cX10_init 135 = .ok (.putfield 59, 3) := by decide +kernel
theorem dX10_init_138 : decode cX10_init 138 = .ok (.aload_n 0, 1) := by decide +kernel
theorem dX10_init_139 : decode cX10_init 139 = .ok (.bipush 26, 2) := by decide +kernel
theorem dX10_init_141 : decode cX10_init 141 = .ok (.newarray .int, 2) := by decide +kernel
theorem dX10_init_143 : decode cX10_init 143 = .ok (.putfield 62, 3) := by decide +kernel
theorem dX10_init_146 : decode cX10_init 146 = .ok (.aload_n 0, 1) := by decide +kernel
theorem dX10_init_147 : decode cX10_init 147 = .ok (.bipush 6, 2) := by decide +kernel
theorem dX10_init_149 : decode cX10_init 149 = .ok (.newarray .int, 2) := by decide +kernel
theorem dX10_init_151 : decode cX10_init 151 = .ok (.putfield 65, 3) := by decide +kernel
theorem dX10_init_154 : decode cX10_init 154 = .ok (.aload_n 0, 1) := by decide +kernel
theorem dX10_init_155 : decode cX10_init 155 = .ok (.bipush 16, 2) := by decide +kernel
theorem dX10_init_157 : decode cX10_init 157 = .ok (.newarray .int, 2) := by decide +kernel
theorem dX10_init_159 : decode cX10_init 159 = .ok (.putfield 68, 3) := by decide +kernel
theorem dX10_init_162 : decode cX10_init 162 = .ok (.aload_n 0, 1) := by decide +kernel
theorem dX10_init_163 : decode cX10_init 163 = .ok (.bipush 6, 2) := by decide +kernel
theorem dX10_init_165 : decode cX10_init 165 = .ok (.newarray .int, 2) := by decide +kernel
theorem dX10_init_167 : decode cX10_init 167 = .ok (.putfield 71, 3) := by decide +kernel
theorem dX10_init_170 : decode cX10_init 170 = .ok (.aload_n 0, 1) := by decide +kernel
theorem dX10_init_171 : decode cX10_init 171 = .ok (.bipush 64, 2) := by decide +kernel
theorem dX10_init_173 : decode cX10_init 173 = .ok (.newarray .int, 2) := by decide +kernel
theorem dX10_init_175 : decode cX10_init 175 = .ok (.putfield 74, 3) := by decide +kernel
theorem dX10_init_178 : decode cX10_init 178 = .ok (.aload_n 0, 1) := by decide +kernel
theorem dX10_init_179 : decode cX10_init 179 = .ok (.iconst 5, 1) := by decide +kernel
theorem dX10_init_180 : decode cX10_init 180 = .ok (.newarray .int, 2) := by decide +kernel
theorem dX10_init_182 : decode cX10_init 182 = .ok (.putfield 77, 3) := by decide +kernel
theorem dX10_init_185 : decode cX10_init 185 = .ok (.aload_n 0, 1) := by decide +kernel
theorem dX10_init_186 : decode cX10_init 186 = .ok (.iconst 5, 1) := by decide +kernel
theorem dX10_init_187 : decode cX10_init 187 = .ok (.newarray .int, 2) := by decide +kernel
theorem dX10_init_189 : decode cX10_init 189 = .ok (.putfield 80, 3) := by decide +kernel
theorem dX10_init_192 : decode cX10_init 192 = .ok (.aload_n 0, 1) := by decide +kernel
theorem dX10_init_193 : decode cX10_init 193 = .ok (.invokevirtual 83, 3) := by decide +kernel
theorem dX10_init_196 : decode cX10_init 196 = .ok (.aload_n 0, 1) := by decide +kernel
theorem dX10_init_197 : decode cX10_init 197 = .ok (.invokevirtual 86, 3) := by decide +kernel
theorem dX10_init_200 : decode cX10_init 200 = .ok (.return_, 1) := by decide +kernel
theorem dX10_in_0 : decode cX10_in 0 = .ok (.iload_n 0, 1) := by decide +kernel
theorem dX10_in_1 : decode cX10_in 1 = .ok (.iload_n 1, 1) := by decide +kernel
theorem dX10_in_2 : decode cX10_in 2 = .ok (.if_icmp .lt 12, 3) := by decide +kernel
theorem dX10_in_5 : decode cX10_in 5 = .ok (.iload_n 0, 1) := by decide +kernel
theorem dX10_in_6 : decode cX10_in 6 = .ok (.iload_n 2, 1) := by decide +kernel
theorem dX10_in_7 : decode cX10_in 7 = .ok (.if_icmp .gt 7, 3) := by decide +kernel
theorem dX10_in_10 : decode cX10_in 10 = .ok (.iconst 1, 1) := by decide +kernel
theorem dX10_in_11 : decode cX10_in 11 = .ok (.goto 4, 3) := by decide +kernel
theorem dX10_in_14 : decode cX10_in 14 = .ok (.iconst 0, 1) := by decide +kernel
theorem dX10_in_15 : decode cX10_in 15 = .ok (.ireturn, 1) := by decide +kernel
theorem dX10_ones_0 : decode cX10_ones 0 = .ok (.iconst 0, 1) := by decide +kernel
theorem dX10_ones_1 : decode cX10_ones 1 = .ok (.istore_n 1, 1) := by decide +kernel
theorem dX10_ones_2 : decode cX10_ones 2 = .ok (.iconst 0, 1) := by decide +kernel
theorem dX10_ones_3 : decode cX10_ones 3 = .ok (.istore_n 2, 1) := by decide +kernel
theorem dX10_ones_4 : decode cX10_ones 4 = .ok (.iload_n 2, 1) := by decide +kernel
theorem dX10_ones_5 : decode cX10_ones 5 = .ok (.bipush 6, 2) := by decide +kernel
theorem dX10_ones_7 : decode cX10_ones 7 = .ok (.if_icmp .ge 17, 3) := by decide +kernel
theorem dX10_ones_10 : decode cX10_ones 10 = .ok (.iload_n 1, 1) := by decide +kernel
theorem dX10_ones_11 : decode cX10_ones 11 = .ok (.iload_n 0, 1) := by decide +kernel
theorem dX10_ones_12 : decode cX10_ones 12 = .ok (.iload_n 2, 1) := by decide +kernel
theorem dX10_ones_13 : decode cX10_ones 13 = .ok (.ishr, 1) := by decide +kernel
theorem dX10_ones_14 : decode cX10_ones 14 = .ok (.iconst 1, 1) := by decide +kernel
theorem dX10_ones_15 : decode cX10_ones 15 = .ok (.iand, 1) := by decide +kernel
theorem dX10_ones_16 : decode cX10_ones 16 = .ok (.iadd, 1) := by decide +kernel
theorem dX10_ones_17 : decode cX10_ones 17 = .ok (.istore_n 1, 1) := by decide +kernel
theorem dX10_ones_18 : decode cX10_ones 18 = .ok (.iinc 2 1, 3) := by decide +kernel
theorem dX10_ones_21 : decode cX10_ones 21 = .ok (.goto (-17), 3) := by decide +kernel
theorem dX10_ones_24 : decode cX10_ones 24 = .ok (.iload_n 1, 1) := by decide +kernel
theorem dX10_ones_25 : decode cX10_ones 25 = .ok (.ireturn, 1) := by decide +kernel
theorem dX10_type_0 : decode cX10_type 0 = .ok (.aload_n 0, 1) := by decide +kernel
theorem dX10_type_1 : decode cX10_type 1 = .ok (.iconst 0, 1) := by decide +kernel
theorem dX10_type_2 : decode cX10_type 2 = .ok (.putfield 89, 3) := by decide +kernel
theorem dX10_type_5 : decode cX10_type 5 = .ok (.iload_n 1, 1) := by decide +kernel
theorem dX10_type_6 : decode cX10_type 6 = .ok (.iconst 0, 1) := by decide +kernel
theorem dX10_type_7 : decode cX10_type 7 = .ok (.sipush 255, 3) := by decide +kernel
theorem dX10_type_10 : decode cX10_type 10 = .ok (.invokestatic 93, 3) := by decide +kernel
theorem dX10_type_13 : decode cX10_type 13 = .ok (.ifCond .ne 5, 3) := by decide +kernel
theorem dX10_type_16 : decode cX10_type 16 = .ok (.iconst (-1), 1) := by decide +kernel
theorem dX10_type_17 : decode cX10_type 17 = .ok (.ireturn, 1) := by decide +kernel
theorem dX10_type_18 : decode cX10_type 18 = .ok (.aload_n 0, 1) := by decide +kernel
theorem dX10_type_19 : decode cX10_type 19 = .ok (.getfield 97, 3) := by decide +kernel
theorem dX10_type_22 : decode cX10_type 22 = .ok (.bipush 120, 2) := by decide +kernel
theorem dX10_type_24 : decode cX10_type 24 = .ok (.if_icmp .ne 6, 3) := by decide +kernel
theorem dX10_type_27 : decode cX10_type 27 = .ok (.bipush (-3), 2) := by decide +kernel
theorem dX10_type_29 : decode cX10_type 29 = .ok (.ireturn, 1) := by decide +kernel
theorem dX10_type_30 : decode cX10_type 30 = .ok (.aload_n 0, 1) := by decide +kernel
theorem dX10_type_31 : decode cX10_type 31 = .ok (.getfield 7, 3) := by decide +kernel
theorem dX10_type_34 : decode cX10_type 34 = .ok (.aload_n 0, 1) := by decide +kernel
theorem dX10_type_35 : decode cX10_type 35 = .ok (.getfield 97, 3) := by decide +kernel
theorem dX10_type_38 : decode cX10_type 38 = .ok (.iload_n 1, 1) := by decide +kernel
theorem dX10_type_39 : decode cX10_type 39 = .ok (.iastore, 1) := by decide +kernel
theorem dX10_type_40 : decode cX10_type 40 = .ok (.aload_n 0, 1) := by decide +kernel
theorem dX10_type_41 : decode cX10_type 41 = .ok (.dup, 1) := by decide +kernel
theorem dX10_type_42 : decode cX10_type 42 = .ok (.getfield 97, 3) := by decide +kernel
theorem dX10_type_45 : decode cX10_type 45 = .ok (.iconst 1, 1) := by decide +kernel
theorem dX10_type_46 : decode cX10_type 46 = .ok (.iadd, 1) := by decide +kernel
theorem dX10_type_47 : decode cX10_type 47 = .ok (.putfield 97, 3) := by decide +kernel
theorem dX10_type_50 : decode cX10_type 50 = .ok (.aload_n 0, 1) := by decide +kernel
theorem dX10_type_51 : decode cX10_type 51 = .ok (.getfield 97, 3) := by decide +kernel
theorem dX10_type_54 : decode cX10_type 54 = .ok (.ireturn, 1) := by decide +kernel
theorem dX10_clear_0 : decode cX10_clear 0 = .ok (.aload_n 0, 1) := by decide +kernel
theorem dX10_clear_1 : decode cX10_clear 1 = .ok (.iconst 0, 1) := by decide +kernel
theorem dX10_clear_2 : decode cX10_clear 2 = .ok (.putfield 89, 3) := by decide +kernel
theorem dX10_clear_5 : decode cX10_clear 5 = .ok (.aload_n 0, 1) := by decide +kernel
theorem dX10_clear_6 : decode cX10_clear 6 = .ok (.getfield 97, 3) := by decide +kernel
theorem dX10_clear_9 : decode cX10_clear 9 = .ok (.istore_n 1, 1) := by decide +kernel
theorem dX10_clear_10 : decode cX10_clear 10 = .ok (.aload_n 0, 1) := by decide +kernel
theorem dX10_clear_11 : decode cX10_clear 11 = .ok (.iconst 0, 1) := by decide +kernel
theorem dX10_clear_12 : decode cX10_clear 12 = .ok (.putfield 97, 3) := by decide +kernel
theorem dX10_clear_15 : decode cX10_clear 15 = .ok (.iload_n 1, 1) := by decide +kernel
theorem dX10_clear_16 : decode cX10_clear 16 = .ok (.ireturn, 1) := by decide +kernel
theorem dX10_letterAt_0 : decode cX10_letterAt 0 = .ok (.iload_n 1, 1) := by decide +kernel
theorem dX10_letterAt_1 : decode cX10_letterAt 1 = .ok (.aload_n 0, 1) := by decide +kernel
theorem dX10_letterAt_2 : decode cX10_letterAt 2 = .ok (.getfield 97, 3) := by decide +kernel
theorem dX10_letterAt_5 : decode cX10_letterAt 5 = .ok (.if_icmp .ge 12, 3) := by decide +kernel
theorem dX10_letterAt_8 : decode cX10_letterAt 8 = .ok (.aload_n 0, 1) := by decide +kernel
theorem dX10_letterAt_9 : decode cX10_letterAt 9 = .ok (.getfield 7, 3) := by decide +kernel
theorem dX10_letterAt_12 : decode cX10_letterAt 12 = .ok (.iload_n 1, 1) := by decide +kernel
theorem dX10_letterAt_13 : decode cX10_letterAt 13 = .ok (.iaload, 1) := by decide +kernel
theorem dX10_letterAt_14 : decode cX10_letterAt 14 = .ok (.goto 4, 3) := by decide +kernel
theorem dX10_letterAt_17 : decode cX10_letterAt 17 = .ok (.iconst (-1), 1) := by decide +kernel
theorem dX10_letterAt_18 : decode cX10_letterAt 18 = .ok (.ireturn, 1) := by decide +kernel
theorem dX10_advances_0 : decode cX10_advances 0 = .ok (.aload_n 0, 1) := by decide +kernel
theorem dX10_advances_1 : decode cX10_advances 1 = .ok (.aload_n 0, 1) := by decide +kernel
theorem dX10_advances_2 : decode cX10_advances 2 = .ok (.getfield 100, 3) := by decide +kernel
theorem dX10_advances_5 : decode cX10_advances 5 = .ok (.invokevirtual 103, 3) := by decide +kernel
theorem dX10_advances_8 : decode cX10_advances 8 = .ok (.bipush 32, 2) := by decide +kernel
theorem dX10_advances_10 : decode cX10_advances 10 = .ok (.if_icmp .ne 16, 3) := by decide +kernel
theorem dX10_advances_13 : decode cX10_advances 13 = .ok (.aload_n 0, 1) := by decide +kernel
theorem dX10_advances_14 : decode cX10_advances 14 = .ok (.dup, 1) := by decide +kernel
theorem dX10_advances_15 : decode cX10_advances 15 = .ok (.getfield 100, 3) := by decide +kernel
theorem dX10_advances_18 : decode cX10_advances 18 = .ok (.iconst 1, 1) := by decide +kernel
theorem dX10_advances_19 : decode cX10_advances 19 = .ok (.iadd, 1) := by decide +kernel
theorem dX10_advances_20 : decode cX10_advances 20 = .ok (.putfield 100, 3) := by decide +kernel
theorem dX10_advances_23 : decode cX10_advances 23 = .ok (.goto (-23), 3) := by decide +kernel
theorem dX10_advances_26 : decode cX10_advances 26 = .ok (.aload_n 0, 1) := by decide +kernel
theorem dX10_advances_27 : decode cX10_advances 27 = .ok (.aload_n 0, 1) := by decide +kernel
theorem dX10_advances_28 : decode cX10_advances 28 = .ok (.getfield 100, 3) := by decide +kernel
theorem dX10_advances_31 : decode cX10_advances 31 = .ok (.putfield 107, 3) := by decide +kernel
theorem dX10_advances_34 : decode cX10_advances 34 = .ok (.aload_n 0, 1) := by decide +kernel
theorem dX10_advances_35 : decode cX10_advances 35 = .ok (.aload_n 0, 1) := by decide +kernel
theorem dX10_advances_36 : decode cX10_advances 36 = .ok (.getfield 100, 3) := by decide +kernel
theorem dX10_advances_39 : decode cX10_advances 39 = .ok (.invokevirtual 103, 3) := by decide +kernel
theorem dX10_advances_42 : decode cX10_advances 42 = .ok (.istore_n 1, 1) := by decide +kernel
theorem dX10_advances_43 : decode cX10_advances 43 = .ok (.iload_n 1, 1) := by decide +kernel
theorem dX10_advances_44 : decode cX10_advances 44 = .ok (.ifCond .ge 11, 3) := by decide +kernel
theorem dX10_advances_47 : decode cX10_advances 47 = .ok (.aload_n 0, 1) := by decide +kernel
theorem dX10_advances_48 : decode cX10_advances 48 = .ok (.iconst 0, 1) := by decide +kernel
theorem dX10_advances_49 : decode cX10_advances 49 = .ok (.putfield 110, 3) := by decide +kernel
theorem dX10_advances_52 : decode cX10_advances 52 = .ok (.goto 181, 3) := by decide +kernel
theorem dX10_advances_55 : decode cX10_advances 55 = .ok (.iload_n 1, 1) := by decide +kernel
theorem dX10_advances_56 : decode cX10_advances 56 = .ok (.bipush 48, 2) := by decide +kernel
theorem dX10_advances_58 : decode cX10_advances 58 = .ok (.bipush 57, 2) := by decide +kernel
theorem dX10_advances_60 : decode cX10_advances 60 = .ok (.invokestatic 93, 3) := by decide +kernel
theorem dX10_advances_63 : decode cX10_advances 63 = .ok (.ifCond .eq 118, 3) := by decide +kernel
theorem dX10_advances_66 : decode cX10_advances 66 = .ok (.aload_n 0, 1) := by decide +kernel
theorem dX10_advances_67 : decode cX10_advances 67 = .ok (.iconst 0, 1) := by decide +kernel
theorem dX10_advances_68 : decode cX10_advances 68 = .ok (.putfield 113, 3) := by decide +kernel
theorem dX10_advances_71 : decode cX10_advances 71 = .ok (.aload_n 0, 1) := by decide +kernel
theorem dX10_advances_72 : decode cX10_advances 72 = .ok (.aload_n 0, 1) := by decide +kernel
theorem dX10_advances_73 : decode cX10_advances 73 = .ok (.getfield 100, 3) := by decide +kernel
theorem dX10_advances_76 : decode cX10_advances 76 = .ok (.invokevirtual 103, 3) := by decide +kernel
theorem dX10_advances_79 : decode cX10_advances 79 = .ok (.bipush 48, 2) := by decide +kernel
theorem dX10_advances_81 : decode cX10_advances 81 = .ok (.bipush 57, 2) := by decide +kernel
theorem dX10_advances_83 : decode cX10_advances 83 = .ok (.invokestatic 93, 3) := by decide +kernel
theorem dX10_advances_86 : decode cX10_advances 86 = .ok (.ifCond .eq 55, 3) := by decide +kernel
theorem dX10_advances_89 : decode cX10_advances 89 = .ok (.aload_n 0, 1) := by decide +kernel
theorem dX10_advances_90 : decode cX10_advances 90 = .ok (.aload_n 0, 1) := by decide +kernel
theorem dX10_advances_91 : decode cX10_advances 91 = .ok (.getfield 113, 3) := by decide +kernel
theorem dX10_advances_94 : decode cX10_advances 94 = .ok (.bipush 99, 2) := by decide +kernel
theorem dX10_advances_96 : decode cX10_advances 96 = .ok (.if_icmp .le 10, 3) := by decide +kernel
theorem dX10_advances_99 : decode cX10_advances 99 = .ok (.aload_n 0, 1) := by decide +kernel
theorem dX10_advances_100 : decode cX10_advances 100 = .ok (.getfield 113, 3) := by decide +kernel
theorem dX10_advances_103 : decode cX10_advances 103 = .ok (.goto 22, 3) := by decide +kernel
theorem dX10_advances_106 : decode cX10_advances 106 = .ok (.bipush 10, 2) := by decide +kernel
theorem dX10_advances_108 : decode cX10_advances 108 = .ok (.aload_n 0, 1) := by decide +kernel
theorem dX10_advances_109 : decode cX10_advances 109 = .ok (.getfield 113, 3) := by decide +kernel
theorem dX10_advances_112 : decode cX10_advances 112 = .ok (.imul, 1) := by decide +kernel
theorem dX10_advances_113 : decode cX10_advances 113 = .ok (.aload_n 0, 1) := by decide +kernel
theorem dX10_advances_114 : decode cX10_advances 114 = .ok (.aload_n 0, 1) := by decide +kernel
theorem dX10_advances_115 : decode cX10_advances 115 = .ok (.getfield 100, 3) := by decide +kernel
theorem dX10_advances_118 : decode cX10_advances 118 = .ok (.invokevirtual 103, 3) := by decide +kernel
theorem dX10_advances_121 : decode cX10_advances 121 = .ok (.iadd, 1) := by decide +kernel
theorem dX10_advances_122 : decode cX10_advances 122 = .ok (.bipush 48, 2) := by decide +kernel
theorem dX10_advances_124 : decode cX10_advances 124 = .ok (.isub, 1) := by decide +kernel
theorem dX10_advances_125 : decode cX10_advances 125 = .ok (.putfield 113, 3) := by decide +kernel
theorem dX10_advances_128 : decode cX10_advances 128 = .ok (.aload_n 0, 1) := by decide +kernel
theorem dX10_advances_129 : decode cX10_advances 129 = .ok (.dup, 1) := by decide +kernel
theorem dX10_advances_130 : decode cX10_advances 130 = .ok (.getfield 100, 3) := by decide +kernel
theorem dX10_advances_133 : decode cX10_advances 133 = .ok (.iconst 1, 1) := by decide +kernel
theorem dX10_advances_134 : decode cX10_advances 134 = .ok (.iadd, 1) := by decide +kernel
theorem dX10_advances_135 : decode cX10_advances 135 = .ok (.putfield 100, 3) := by decide +kernel
theorem dX10_advances_138 : decode cX10_advances 138 = .ok (.goto (-67), 3) := by decide +kernel
theorem dX10_advances_141 : decode cX10_advances 141 = .ok (.aload_n 0, 1) := by decide +kernel
theorem dX10_advances_142 : decode cX10_advances 142 = .ok (.aload_n 0, 1) := by decide +kernel
theorem dX10_advances_143 : decode cX10_advances 143 = .ok (.getfield 113, 3) := by decide +kernel
theorem dX10_advances_146 : decode cX10_advances 146 = .ok (.bipush 99, 2) := by decide +kernel
theorem dX10_advances_148 : decode cX10_advances 148 = .ok (.if_icmp .gt 22, 3) := by decide +kernel
theorem dX10_advances_151 : decode cX10_advances 151 = .ok (.iload_n 1, 1) := by decide +kernel
theorem dX10_advances_152 : decode cX10_advances 152 = .ok (.bipush 48, 2) := by decide +kernel
theorem dX10_advances_154 : decode cX10_advances 154 = .ok (.if_icmp .ne 20, 3) := by decide +kernel
theorem dX10_advances_157 : decode cX10_advances 157 = .ok (.aload_n 0, 1) := by decide +kernel
theorem dX10_advances_158 : decode cX10_advances 158 = .ok (.getfield 100, 3) := by decide +kernel
theorem dX10_advances_161 : decode cX10_advances 161 = .ok (.aload_n 0, 1) := by decide +kernel
theorem dX10_advances_162 : decode cX10_advances 162 = .ok (.getfield 107, 3) := by decide +kernel
theorem dX10_advances_165 : decode cX10_advances 165 = .ok (.isub, 1) := by decide +kernel
theorem dX10_advances_166 : decode cX10_advances 166 = .ok (.iconst 1, 1) := by decide +kernel
theorem dX10_advances_167 : decode cX10_advances 167 = .ok (.if_icmp .le 7, 3) := by decide +kernel
theorem dX10_advances_170 : decode cX10_advances 170 = .ok (.iconst 4, 1) := by decide +kernel
theorem dX10_advances_171 : decode cX10_advances 171 = .ok (.goto 4, 3) := by decide +kernel
theorem dX10_advances_174 : decode cX10_advances 174 = .ok (.iconst 2, 1) := by decide +kernel
theorem dX10_advances_175 : decode cX10_advances 175 = .ok (.putfield 110, 3) := by decide +kernel
theorem dX10_advances_178 : decode cX10_advances 178 = .ok (.goto 55, 3) := by decide +kernel
theorem dX10_advances_181 : decode cX10_advances 181 = .ok (.aload_n 0, 1) := by decide +kernel
theorem dX10_advances_182 : decode cX10_advances 182 = .ok (.dup, 1) := by decide +kernel
theorem dX10_advances_183 : decode cX10_advances 183 = .ok (.getfield 100, 3) := by decide +kernel
theorem dX10_advances_186 : decode cX10_advances 186 = .ok (.iconst 1, 1) := by decide +kernel
theorem dX10_advances_187 : decode cX10_advances 187 = .ok (.iadd, 1) := by decide +kernel
theorem dX10_advances_188 : decode cX10_advances 188 = .ok (.putfield 100, 3) := by decide +kernel
theorem dX10_advances_191 : decode cX10_advances 191 = .ok (.aload_n 0, 1) := by decide +kernel
theorem dX10_advances_192 : decode cX10_advances 192 = .ok (.iload_n 1, 1) := by decide +kernel
theorem dX10_advances_193 : decode cX10_advances 193 = .ok (.putfield 113, 3) := by decide +kernel
theorem dX10_advances_196 : decode cX10_advances 196 = .ok (.aload_n 0, 1) := by decide +kernel
theorem dX10_advances_197 : decode cX10_advances 197 = .ok (.iload_n 1, 1) := by decide +kernel
theorem dX10_advances_198 : decode cX10_advances 198 = .ok (.bipush 59, 2) := by decide +kernel
theorem dX10_advances_200 : decode cX10_advances 200 = .ok (.if_icmp .ne 7, 3) := by decide +kernel
theorem dX10_advances_203 : decode cX10_advances 203 = .ok (.iconst 3, 1) := by decide +kernel
theorem dX10_advances_204 : decode cX10_advances 204 = .ok (.goto 26, 3) := by decide +kernel
theorem dX10_advances_207 : decode cX10_advances 207 = .ok (.iload_n 1, 1) := by decide +kernel
theorem dX10_advances_208 : decode cX10_advances 208 = .ok (.bipush 110, 2) := by decide +kernel
theorem dX10_advances_210 : decode cX10_advances 210 = .ok (.if_icmp .eq 15, 3) := by decide +kernel
theorem dX10_advances_213 : decode cX10_advances 213 = .ok (.iload_n 1, 1) := by decide +kernel
theorem dX10_advances_214 : decode cX10_advances 214 = .ok (.bipush 108, 2) := by decide +kernel
theorem dX10_advances_216 : decode cX10_advances 216 = .ok (.if_icmp .eq 9, 3) := by decide +kernel
theorem dX10_advances_219 : decode cX10_advances 219 = .ok (.iload_n 1, 1) := by decide +kernel
theorem dX10_advances_220 : decode cX10_advances 220 = .ok (.bipush 109, 2) := by decide +kernel
theorem dX10_advances_222 : decode cX10_advances 222 = .ok (.if_icmp .ne 7, 3) := by decide +kernel
theorem dX10_advances_225 : decode cX10_advances 225 = .ok (.iconst 1, 1) := by decide +kernel
theorem dX10_advances_226 : decode cX10_advances 226 = .ok (.goto 4, 3) := by decide +kernel
theorem dX10_advances_229 : decode cX10_advances 229 = .ok (.iconst 4, 1) := by decide +kernel
theorem dX10_advances_230 : decode cX10_advances 230 = .ok (.putfield 110, 3) := by decide +kernel
theorem dX10_advances_233 : decode cX10_advances 233 = .ok (.return_, 1) := by decide +kernel
theorem dX10_isWell_0 : decode cX10_isWell 0 = .ok (.aload_n 0, 1) := by decide +kernel
theorem dX10_isWell_1 : decode cX10_isWell 1 = .ok (.getfield 116, 3) := by decide +kernel
theorem dX10_isWell_4 : decode cX10_isWell 4 = .ok (.ifCond .ge 7, 3) := by decide +kernel
theorem dX10_isWell_7 : decode cX10_isWell 7 = .ok (.iconst 1, 1) := by decide +kernel
theorem dX10_isWell_8 : decode cX10_isWell 8 = .ok (.goto 4, 3) := by decide +kernel
theorem dX10_isWell_11 : decode cX10_isWell 11 = .ok (.iconst 0, 1) := by decide +kernel
theorem dX10_isWell_12 : decode cX10_isWell 12 = .ok (.ireturn, 1) := by decide +kernel
theorem dX10_takes_0 : decode cX10_takes 0 = .ok (.aload_n 0, 1) := by decide +kernel
theorem dX10_takes_1 : decode cX10_takes 1 = .ok (.invokevirtual 119, 3) := by decide +kernel
theorem dX10_takes_4 : decode cX10_takes 4 = .ok (.ifCond .ne 5, 3) := by decide +kernel
theorem dX10_takes_7 : decode cX10_takes 7 = .ok (.iconst 0, 1) := by decide +kernel
theorem dX10_takes_8 : decode cX10_takes 8 = .ok (.ireturn, 1) := by decide +kernel
theorem dX10_takes_9 : decode cX10_takes 9 = .ok (.iload_n 1, 1) := by decide +kernel
