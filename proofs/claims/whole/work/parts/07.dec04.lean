theorem dX9_far_5 : decode cX9_far 5 = .ok (.ifCond .eq 11, 3) := by decide +kernel
theorem dX9_far_8 : decode cX9_far 8 = .ok (.aload_n 0, 1) := by decide +kernel
theorem dX9_far_9 : decode cX9_far 9 = .ok (.iload_n 2, 1) := by decide +kernel
theorem dX9_far_10 : decode cX9_far 10 = .ok (.invokevirtual 187, 3) := by decide +kernel
theorem dX9_far_13 : decode cX9_far 13 = .ok (.ifCond .ne 5, 3) := by decide +kernel
theorem dX9_far_16 : decode cX9_far 16 = .ok (.iconst (-1), 1) := by decide +kernel
theorem dX9_far_17 : decode cX9_far 17 = .ok (.ireturn, 1) := by decide +kernel
theorem dX9_far_18 : decode cX9_far 18 = .ok (.iload_n 1, 1) := by decide +kernel
theorem dX9_far_19 : decode cX9_far 19 = .ok (.iload_n 2, 1) := by decide +kernel
theorem dX9_far_20 : decode cX9_far 20 = .ok (.if_icmp .ne 5, 3) := by decide +kernel
theorem dX9_far_23 : decode cX9_far 23 = .ok (.iconst 0, 1) := by decide +kernel
theorem dX9_far_24 : decode cX9_far 24 = .ok (.ireturn, 1) := by decide +kernel
theorem dX9_far_25 : decode cX9_far 25 = .ok (.aload_n 0, 1) := by decide +kernel
theorem dX9_far_26 : decode cX9_far 26 = .ok (.getfield 39, 3) := by decide +kernel
theorem dX9_far_29 : decode cX9_far 29 = .ok (.aload_n 0, 1) := by decide +kernel
theorem dX9_far_30 : decode cX9_far 30 = .ok (.getfield 19, 3) := by decide +kernel
theorem dX9_far_33 : decode cX9_far 33 = .ok (.aload_n 0, 1) := by decide +kernel
theorem dX9_far_34 : decode cX9_far 34 = .ok (.getfield 29, 3) := by decide +kernel
theorem dX9_far_37 : decode cX9_far 37 = .ok (.getfield 131, 3) := by decide +kernel
theorem dX9_far_40 : decode cX9_far 40 = .ok (.invokevirtual 177, 3) := by decide +kernel
theorem dX9_far_43 : decode cX9_far 43 = .ok (.aload_n 0, 1) := by decide +kernel
theorem dX9_far_44 : decode cX9_far 44 = .ok (.getfield 39, 3) := by decide +kernel
theorem dX9_far_47 : decode cX9_far 47 = .ok (.iload_n 1, 1) := by decide +kernel
theorem dX9_far_48 : decode cX9_far 48 = .ok (.iload_n 2, 1) := by decide +kernel
theorem dX9_far_49 : decode cX9_far 49 = .ok (.invokevirtual 244, 3) := by decide +kernel
theorem dX9_far_52 : decode cX9_far 52 = .ok (.ireturn, 1) := by decide +kernel
theorem dX9_by_0 : decode cX9_by 0 = .ok (.aload_n 0, 1) := by decide +kernel
theorem dX9_by_1 : decode cX9_by 1 = .ok (.iload_n 1, 1) := by decide +kernel
theorem dX9_by_2 : decode cX9_by 2 = .ok (.invokevirtual 187, 3) := by decide +kernel
theorem dX9_by_5 : decode cX9_by 5 = .ok (.ifCond .eq 16, 3) := by decide +kernel
theorem dX9_by_8 : decode cX9_by 8 = .ok (.aload_n 0, 1) := by decide +kernel
theorem dX9_by_9 : decode cX9_by 9 = .ok (.iload_n 2, 1) := by decide +kernel
theorem dX9_by_10 : decode cX9_by 10 = .ok (.invokevirtual 187, 3) := by decide +kernel
theorem dX9_by_13 : decode cX9_by 13 = .ok (.ifCond .eq 8, 3) := by decide +kernel
theorem dX9_by_16 : decode cX9_by 16 = .ok (.iload_n 1, 1) := by decide +kernel
theorem dX9_by_17 : decode cX9_by 17 = .ok (.iload_n 2, 1) := by decide +kernel
theorem dX9_by_18 : decode cX9_by 18 = .ok (.if_icmp .ne 5, 3) := by decide +kernel
theorem dX9_by_21 : decode cX9_by 21 = .ok (.iconst (-1), 1) := by decide +kernel
theorem dX9_by_22 : decode cX9_by 22 = .ok (.ireturn, 1) := by decide +kernel
theorem dX9_by_23 : decode cX9_by 23 = .ok (.aload_n 0, 1) := by decide +kernel
theorem dX9_by_24 : decode cX9_by 24 = .ok (.getfield 39, 3) := by decide +kernel
theorem dX9_by_27 : decode cX9_by 27 = .ok (.aload_n 0, 1) := by decide +kernel
theorem dX9_by_28 : decode cX9_by 28 = .ok (.getfield 19, 3) := by decide +kernel
theorem dX9_by_31 : decode cX9_by 31 = .ok (.aload_n 0, 1) := by decide +kernel
theorem dX9_by_32 : decode cX9_by 32 = .ok (.getfield 29, 3) := by decide +kernel
theorem dX9_by_35 : decode cX9_by 35 = .ok (.getfield 131, 3) := by decide +kernel
theorem dX9_by_38 : decode cX9_by 38 = .ok (.invokevirtual 177, 3) := by decide +kernel
theorem dX9_by_41 : decode cX9_by 41 = .ok (.aload_n 0, 1) := by decide +kernel
theorem dX9_by_42 : decode cX9_by 42 = .ok (.getfield 39, 3) := by decide +kernel
theorem dX9_by_45 : decode cX9_by 45 = .ok (.iload_n 1, 1) := by decide +kernel
theorem dX9_by_46 : decode cX9_by 46 = .ok (.iload_n 2, 1) := by decide +kernel
theorem dX9_by_47 : decode cX9_by 47 = .ok (.invokevirtual 247, 3) := by decide +kernel
theorem dX9_by_50 : decode cX9_by 50 = .ok (.ireturn, 1) := by decide +kernel
theorem dX9_knot_0 : decode cX9_knot 0 = .ok (.aload_n 0, 1) := by decide +kernel
theorem dX9_knot_1 : decode cX9_knot 1 = .ok (.iload_n 1, 1) := by decide +kernel
theorem dX9_knot_2 : decode cX9_knot 2 = .ok (.invokevirtual 187, 3) := by decide +kernel
theorem dX9_knot_5 : decode cX9_knot 5 = .ok (.ifCond .ne 5, 3) := by decide +kernel
theorem dX9_knot_8 : decode cX9_knot 8 = .ok (.iconst (-1), 1) := by decide +kernel
theorem dX9_knot_9 : decode cX9_knot 9 = .ok (.ireturn, 1) := by decide +kernel
theorem dX9_knot_10 : decode cX9_knot 10 = .ok (.iconst 0, 1) := by decide +kernel
theorem dX9_knot_11 : decode cX9_knot 11 = .ok (.istore_n 2, 1) := by decide +kernel
theorem dX9_knot_12 : decode cX9_knot 12 = .ok (.iconst 0, 1) := by decide +kernel
theorem dX9_knot_13 : decode cX9_knot 13 = .ok (.istore_n 3, 1) := by decide +kernel
theorem dX9_knot_14 : decode cX9_knot 14 = .ok (.iload_n 3, 1) := by decide +kernel
theorem dX9_knot_15 : decode cX9_knot 15 = .ok (.aload_n 0, 1) := by decide +kernel
theorem dX9_knot_16 : decode cX9_knot 16 = .ok (.getfield 19, 3) := by decide +kernel
theorem dX9_knot_19 : decode cX9_knot 19 = .ok (.getfield 171, 3) := by decide +kernel
theorem dX9_knot_22 : decode cX9_knot 22 = .ok (.if_icmp .ge 57, 3) := by decide +kernel
theorem dX9_knot_25 : decode cX9_knot 25 = .ok (.aload_n 0, 1) := by decide +kernel
theorem dX9_knot_26 : decode cX9_knot 26 = .ok (.getfield 19, 3) := by decide +kernel
theorem dX9_knot_29 : decode cX9_knot 29 = .ok (.getfield 124, 3) := by decide +kernel
theorem dX9_knot_32 : decode cX9_knot 32 = .ok (.iload_n 3, 1) := by decide +kernel
theorem dX9_knot_33 : decode cX9_knot 33 = .ok (.iaload, 1) := by decide +kernel
theorem dX9_knot_34 : decode cX9_knot 34 = .ok (.iload_n 1, 1) := by decide +kernel
theorem dX9_knot_35 : decode cX9_knot 35 = .ok (.if_icmp .eq 16, 3) := by decide +kernel
theorem dX9_knot_38 : decode cX9_knot 38 = .ok (.aload_n 0, 1) := by decide +kernel
theorem dX9_knot_39 : decode cX9_knot 39 = .ok (.getfield 19, 3) := by decide +kernel
theorem dX9_knot_42 : decode cX9_knot 42 = .ok (.getfield 128, 3) := by decide +kernel
theorem dX9_knot_45 : decode cX9_knot 45 = .ok (.iload_n 3, 1) := by decide +kernel
theorem dX9_knot_46 : decode cX9_knot 46 = .ok (.iaload, 1) := by decide +kernel
theorem dX9_knot_47 : decode cX9_knot 47 = .ok (.iload_n 1, 1) := by decide +kernel
theorem dX9_knot_48 : decode cX9_knot 48 = .ok (.if_icmp .ne 25, 3) := by decide +kernel
theorem dX9_knot_51 : decode cX9_knot 51 = .ok (.iload_n 2, 1) := by decide +kernel
theorem dX9_knot_52 : decode cX9_knot 52 = .ok (.aload_n 0, 1) := by decide +kernel
theorem dX9_knot_53 : decode cX9_knot 53 = .ok (.getfield 19, 3) := by decide +kernel
theorem dX9_knot_56 : decode cX9_knot 56 = .ok (.getfield 134, 3) := by decide +kernel
theorem dX9_knot_59 : decode cX9_knot 59 = .ok (.iload_n 3, 1) := by decide +kernel
theorem dX9_knot_60 : decode cX9_knot 60 = .ok (.iaload, 1) := by decide +kernel
theorem dX9_knot_61 : decode cX9_knot 61 = .ok (.aload_n 0, 1) := by decide +kernel
theorem dX9_knot_62 : decode cX9_knot 62 = .ok (.getfield 29, 3) := by decide +kernel
theorem dX9_knot_65 : decode cX9_knot 65 = .ok (.getfield 131, 3) := by decide +kernel
theorem dX9_knot_68 : decode cX9_knot 68 = .ok (.iload_n 3, 1) := by decide +kernel
theorem dX9_knot_69 : decode cX9_knot 69 = .ok (.iaload, 1) := by decide +kernel
theorem dX9_knot_70 : decode cX9_knot 70 = .ok (.imul, 1) := by decide +kernel
theorem dX9_knot_71 : decode cX9_knot 71 = .ok (.iadd, 1) := by decide +kernel
theorem dX9_knot_72 : decode cX9_knot 72 = .ok (.istore_n 2, 1) := by decide +kernel
theorem dX9_knot_73 : decode cX9_knot 73 = .ok (.iinc 3 1, 3) := by decide +kernel
theorem dX9_knot_76 : decode cX9_knot 76 = .ok (.goto (-62), 3) := by decide +kernel
theorem dX9_knot_79 : decode cX9_knot 79 = .ok (.iload_n 2, 1) := by decide +kernel
theorem dX9_knot_80 : decode cX9_knot 80 = .ok (.ireturn, 1) := by decide +kernel
theorem dX9_asking_0 : decode cX9_asking 0 = .ok (.iload_n 1, 1) := by decide +kernel
theorem dX9_asking_1 : decode cX9_asking 1 = .ok (.iconst (-1), 1) := by decide +kernel
theorem dX9_asking_2 : decode cX9_asking 2 = .ok (.if_icmp .eq 13, 3) := by decide +kernel
theorem dX9_asking_5 : decode cX9_asking 5 = .ok (.aload_n 0, 1) := by decide +kernel
theorem dX9_asking_6 : decode cX9_asking 6 = .ok (.iload_n 1, 1) := by decide +kernel
theorem dX9_asking_7 : decode cX9_asking 7 = .ok (.invokevirtual 121, 3) := by decide +kernel
theorem dX9_asking_10 : decode cX9_asking 10 = .ok (.ifCond .ne 5, 3) := by decide +kernel
theorem dX9_asking_13 : decode cX9_asking 13 = .ok (.iconst (-1), 1) := by decide +kernel
theorem dX9_asking_14 : decode cX9_asking 14 = .ok (.ireturn, 1) := by decide +kernel
theorem dX9_asking_15 : decode cX9_asking 15 = .ok (.aload_n 0, 1) := by decide +kernel
theorem dX9_asking_16 : decode cX9_asking 16 = .ok (.invokevirtual 205, 3) := by decide +kernel
theorem dX9_asking_19 : decode cX9_asking 19 = .ok (.istore_n 2, 1) := by decide +kernel
theorem dX9_asking_20 : decode cX9_asking 20 = .ok (.iload_n 1, 1) := by decide +kernel
theorem dX9_asking_21 : decode cX9_asking 21 = .ok (.iconst (-1), 1) := by decide +kernel
theorem dX9_asking_22 : decode cX9_asking 22 = .ok (.if_icmp .eq 9, 3) := by decide +kernel
theorem dX9_asking_25 : decode cX9_asking 25 = .ok (.iload_n 2, 1) := by decide +kernel
theorem dX9_asking_26 : decode cX9_asking 26 = .ok (.bipush (-9), 2) := by decide +kernel
theorem dX9_asking_28 : decode cX9_asking 28 = .ok (.if_icmp .ne 7, 3) := by decide +kernel
theorem dX9_asking_31 : decode cX9_asking 31 = .ok (.iload_n 2, 1) := by decide +kernel
theorem dX9_asking_32 : decode cX9_asking 32 = .ok (.goto 12, 3) := by decide +kernel
theorem dX9_asking_35 : decode cX9_asking 35 = .ok (.aload_n 0, 1) := by decide +kernel
theorem dX9_asking_36 : decode cX9_asking 36 = .ok (.getfield 68, 3) := by decide +kernel
theorem dX9_asking_39 : decode cX9_asking 39 = .ok (.getfield 208, 3) := by decide +kernel
theorem dX9_asking_42 : decode cX9_asking 42 = .ok (.iload_n 1, 1) := by decide +kernel
theorem dX9_asking_43 : decode cX9_asking 43 = .ok (.iaload, 1) := by decide +kernel
theorem dX9_asking_44 : decode cX9_asking 44 = .ok (.ireturn, 1) := by decide +kernel
theorem dX9_clash_0 : decode cX9_clash 0 = .ok (.aload_n 0, 1) := by decide +kernel
theorem dX9_clash_1 : decode cX9_clash 1 = .ok (.invokevirtual 250, 3) := by decide +kernel
theorem dX9_clash_4 : decode cX9_clash 4 = .ok (.istore_n 1, 1) := by decide +kernel
theorem dX9_clash_5 : decode cX9_clash 5 = .ok (.iconst 0, 1) := by decide +kernel
theorem dX9_clash_6 : decode cX9_clash 6 = .ok (.istore_n 2, 1) := by decide +kernel
theorem dX9_clash_7 : decode cX9_clash 7 = .ok (.iconst 1, 1) := by decide +kernel
theorem dX9_clash_8 : decode cX9_clash 8 = .ok (.istore_n 3, 1) := by decide +kernel
theorem dX9_clash_9 : decode cX9_clash 9 = .ok (.iload_n 3, 1) := by decide +kernel
theorem dX9_clash_10 : decode cX9_clash 10 = .ok (.iconst 1, 1) := by decide +kernel
theorem dX9_clash_11 : decode cX9_clash 11 = .ok (.aload_n 0, 1) := by decide +kernel
theorem dX9_clash_12 : decode cX9_clash 12 = .ok (.getfield 29, 3) := by decide +kernel
theorem dX9_clash_15 : decode cX9_clash 15 = .ok (.getfield 174, 3) := by decide +kernel
theorem dX9_clash_18 : decode cX9_clash 18 = .ok (.ishl, 1) := by decide +kernel
theorem dX9_clash_19 : decode cX9_clash 19 = .ok (.if_icmp .ge 46, 3) := by decide +kernel
theorem dX9_clash_22 : decode cX9_clash 22 = .ok (.iload_n 2, 1) := by decide +kernel
theorem dX9_clash_23 : decode cX9_clash 23 = .ok (.ifCond .eq 14, 3) := by decide +kernel
theorem dX9_clash_26 : decode cX9_clash 26 = .ok (.iload_n 3, 1) := by decide +kernel
theorem dX9_clash_27 : decode cX9_clash 27 = .ok (.invokestatic 253, 3) := by decide +kernel
theorem dX9_clash_30 : decode cX9_clash 30 = .ok (.iload_n 2, 1) := by decide +kernel
theorem dX9_clash_31 : decode cX9_clash 31 = .ok (.invokestatic 253, 3) := by decide +kernel
theorem dX9_clash_34 : decode cX9_clash 34 = .ok (.if_icmp .ge 7, 3) := by decide +kernel
theorem dX9_clash_37 : decode cX9_clash 37 = .ok (.iconst 1, 1) := by decide +kernel
theorem dX9_clash_38 : decode cX9_clash 38 = .ok (.goto 4, 3) := by decide +kernel
theorem dX9_clash_41 : decode cX9_clash 41 = .ok (.iconst 0, 1) := by decide +kernel
theorem dX9_clash_42 : decode cX9_clash 42 = .ok (.istore 4, 2) := by decide +kernel
theorem dX9_clash_44 : decode cX9_clash 44 = .ok (.iload_n 1, 1) := by decide +kernel
theorem dX9_clash_45 : decode cX9_clash 45 = .ok (.iload_n 3, 1) := by decide +kernel
theorem dX9_clash_46 : decode cX9_clash 46 = .ok (.ishr, 1) := by decide +kernel
theorem dX9_clash_47 : decode cX9_clash 47 = .ok (.iconst 1, 1) := by decide +kernel
theorem dX9_clash_48 : decode cX9_clash 48 = .ok (.iand, 1) := by decide +kernel
theorem dX9_clash_49 : decode cX9_clash 49 = .ok (.ifCond .ne 10, 3) := by decide +kernel
theorem dX9_clash_52 : decode cX9_clash 52 = .ok (.iload 4, 2) := by decide +kernel
theorem dX9_clash_54 : decode cX9_clash 54 = .ok (.ifCond .eq 5, 3) := by decide +kernel
theorem dX9_clash_57 : decode cX9_clash 57 = .ok (.iload_n 3, 1) := by decide +kernel
theorem dX9_clash_58 : decode cX9_clash 58 = .ok (.istore_n 2, 1) := by decide +kernel
theorem dX9_clash_59 : decode cX9_clash 59 = .ok (.iinc 3 1, 3) := by decide +kernel
theorem dX9_clash_62 : decode cX9_clash 62 = .ok (.goto (-53), 3) := by decide +kernel
theorem dX9_clash_65 : decode cX9_clash 65 = .ok (.iload_n 2, 1) := by decide +kernel
theorem dX9_clash_66 : decode cX9_clash 66 = .ok (.ireturn, 1) := by decide +kernel
theorem dX9_fire_0 : decode cX9_fire 0 = .ok (.iload_n 1, 1) := by decide +kernel
theorem dX9_fire_1 : decode cX9_fire 1 = .ok (.ifCond .eq 10, 3) := by decide +kernel
theorem dX9_fire_4 : decode cX9_fire 4 = .ok (.iload_n 1, 1) := by decide +kernel
theorem dX9_fire_5 : decode cX9_fire 5 = .ok (.iconst 1, 1) := by decide +kernel
theorem dX9_fire_6 : decode cX9_fire 6 = .ok (.if_icmp .eq 5, 3) := by decide +kernel
theorem dX9_fire_9 : decode cX9_fire 9 = .ok (.iconst (-1), 1) := by decide +kernel
theorem dX9_fire_10 : decode cX9_fire 10 = .ok (.ireturn, 1) := by decide +kernel
theorem dX9_fire_11 : decode cX9_fire 11 = .ok (.bipush (-9), 2) := by decide +kernel
theorem dX9_fire_13 : decode cX9_fire 13 = .ok (.istore_n 2, 1) := by decide +kernel
theorem dX9_fire_14 : decode cX9_fire 14 = .ok (.bipush (-9), 2) := by decide +kernel
theorem dX9_fire_16 : decode cX9_fire 16 = .ok (.istore_n 3, 1) := by decide +kernel
theorem dX9_fire_17 : decode cX9_fire 17 = .ok (.iconst 0, 1) := by decide +kernel
theorem dX9_fire_18 : decode cX9_fire 18 = .ok (.istore 4, 2) := by decide +kernel
theorem dX9_fire_20 : decode cX9_fire 20 = .ok (.iload 4, 2) := by decide +kernel
theorem dX9_fire_22 : decode cX9_fire 22 = .ok (.aload_n 0, 1) := by decide +kernel
theorem dX9_fire_23 : decode cX9_fire 23 = .ok (.getfield 29, 3) := by decide +kernel
theorem dX9_fire_26 : decode cX9_fire 26 = .ok (.getfield 174, 3) := by decide +kernel
theorem dX9_fire_29 : decode cX9_fire 29 = .ok (.if_icmp .ge 61, 3) := by decide +kernel
theorem dX9_fire_32 : decode cX9_fire 32 = .ok (.aload_n 0, 1) := by decide +kernel
theorem dX9_fire_33 : decode cX9_fire 33 = .ok (.aload_n 0, 1) := by decide +kernel
theorem dX9_fire_34 : decode cX9_fire 34 = .ok (.aload_n 0, 1) := by decide +kernel
theorem dX9_fire_35 : decode cX9_fire 35 = .ok (.invokevirtual 258, 3) := by decide +kernel
theorem dX9_fire_38 : decode cX9_fire 38 = .ok (.iconst 1, 1) := by decide +kernel
theorem dX9_fire_39 : decode cX9_fire 39 = .ok (.iload 4, 2) := by decide +kernel
theorem dX9_fire_41 : decode cX9_fire 41 = .ok (.ishl, 1) := by decide +kernel
theorem dX9_fire_42 : decode cX9_fire 42 = .ok (.iconst (-1), 1) := by decide +kernel
theorem dX9_fire_43 : decode cX9_fire 43 = .ok (.ixor, 1) := by decide +kernel
theorem dX9_fire_44 : decode cX9_fire 44 = .ok (.iand, 1) := by decide +kernel
theorem dX9_fire_45 : decode cX9_fire 45 = .ok (.invokevirtual 261, 3) := by decide +kernel
theorem dX9_fire_48 : decode cX9_fire 48 = .ok (.invokevirtual 265, 3) := by decide +kernel
theorem dX9_fire_51 : decode cX9_fire 51 = .ok (.istore 5, 2) := by decide +kernel
theorem dX9_fire_53 : decode cX9_fire 53 = .ok (.iload_n 2, 1) := by decide +kernel
theorem dX9_fire_54 : decode cX9_fire 54 = .ok (.bipush (-9), 2) := by decide +kernel
theorem dX9_fire_56 : decode cX9_fire 56 = .ok (.if_icmp .eq 22, 3) := by decide +kernel
theorem dX9_fire_59 : decode cX9_fire 59 = .ok (.iload 5, 2) := by decide +kernel
theorem dX9_fire_61 : decode cX9_fire 61 = .ok (.bipush (-9), 2) := by decide +kernel
theorem dX9_fire_63 : decode cX9_fire 63 = .ok (.if_icmp .eq 21, 3) := by decide +kernel
theorem dX9_fire_66 : decode cX9_fire 66 = .ok (.iload_n 3, 1) := by decide +kernel
theorem dX9_fire_67 : decode cX9_fire 67 = .ok (.bipush (-9), 2) := by decide +kernel
theorem dX9_fire_69 : decode cX9_fire 69 = .ok (.if_icmp .eq 9, 3) := by decide +kernel
theorem dX9_fire_72 : decode cX9_fire 72 = .ok (.iload 5, 2) := by decide +kernel
theorem dX9_fire_74 : decode cX9_fire 74 = .ok (.iload_n 3, 1) := by decide +kernel
theorem dX9_fire_75 : decode cX9_fire 75 = .ok (.if_icmp .ge 9, 3) := by decide +kernel
theorem dX9_fire_78 : decode cX9_fire 78 = .ok (.iload 4, 2) := by decide +kernel
theorem dX9_fire_80 : decode cX9_fire 80 = .ok (.istore_n 2, 1) := by decide +kernel
theorem dX9_fire_81 : decode cX9_fire 81 = .ok (.iload 5, 2) := by decide +kernel
theorem dX9_fire_83 : decode cX9_fire 83 = .ok (.istore_n 3, 1) := by decide +kernel
theorem dX9_fire_84 : decode cX9_fire 84 = .ok (.iinc 4 1, 3) := by decide +kernel
theorem dX9_fire_87 : decode cX9_fire 87 = .ok (.goto (-67), 3) := by decide +kernel
theorem dX9_fire_90 : decode cX9_fire 90 = .ok (.iload_n 1, 1) := by decide +kernel
theorem dX9_fire_91 : decode cX9_fire 91 = .ok (.ifCond .ne 7, 3) := by decide +kernel
theorem dX9_fire_94 : decode cX9_fire 94 = .ok (.iload_n 2, 1) := by decide +kernel
theorem dX9_fire_95 : decode cX9_fire 95 = .ok (.goto 4, 3) := by decide +kernel
theorem dX9_fire_98 : decode cX9_fire 98 = .ok (.iload_n 3, 1) := by decide +kernel
theorem dX9_fire_99 : decode cX9_fire 99 = .ok (.ireturn, 1) := by decide +kernel
theorem dX9_spite_0 : decode cX9_spite 0 = .ok (.iload_n 1, 1) := by decide +kernel
theorem dX9_spite_1 : decode cX9_spite 1 = .ok (.ifCond .lt 8, 3) := by decide +kernel
theorem dX9_spite_4 : decode cX9_spite 4 = .ok (.iload_n 1, 1) := by decide +kernel
theorem dX9_spite_5 : decode cX9_spite 5 = .ok (.iconst 2, 1) := by decide +kernel
theorem dX9_spite_6 : decode cX9_spite 6 = .ok (.if_icmp .le 5, 3) := by decide +kernel
theorem dX9_spite_9 : decode cX9_spite 9 = .ok (.iconst (-1), 1) := by decide +kernel
theorem dX9_spite_10 : decode cX9_spite 10 = .ok (.ireturn, 1) := by decide +kernel
theorem dX9_spite_11 : decode cX9_spite 11 = .ok (.aload_n 0, 1) := by decide +kernel
theorem dX9_spite_12 : decode cX9_spite 12 = .ok (.getfield 29, 3) := by decide +kernel
theorem dX9_spite_15 : decode cX9_spite 15 = .ok (.getfield 144, 3) := by decide +kernel
theorem dX9_spite_18 : decode cX9_spite 18 = .ok (.iconst 4, 1) := by decide +kernel
theorem dX9_spite_19 : decode cX9_spite 19 = .ok (.iaload, 1) := by decide +kernel
theorem dX9_spite_20 : decode cX9_spite 20 = .ok (.ifCond .eq 6, 3) := by decide +kernel
theorem dX9_spite_23 : decode cX9_spite 23 = .ok (.bipush (-2), 2) := by decide +kernel
theorem dX9_spite_25 : decode cX9_spite 25 = .ok (.ireturn, 1) := by decide +kernel
theorem dX9_spite_26 : decode cX9_spite 26 = .ok (.iload_n 1, 1) := by decide +kernel
theorem dX9_spite_27 : decode cX9_spite 27 = .ok (.iconst 2, 1) := by decide +kernel
theorem dX9_spite_28 : decode cX9_spite 28 = .ok (.if_icmp .ne 11, 3) := by decide +kernel
theorem dX9_spite_31 : decode cX9_spite 31 = .ok (.aload_n 0, 1) := by decide +kernel
theorem dX9_spite_32 : decode cX9_spite 32 = .ok (.getfield 39, 3) := by decide +kernel
theorem dX9_spite_35 : decode cX9_spite 35 = .ok (.getfield 269, 3) := by decide +kernel
theorem dX9_spite_38 : decode cX9_spite 38 = .ok (.ireturn, 1) := by decide +kernel
theorem dX9_spite_39 : decode cX9_spite 39 = .ok (.aload_n 0, 1) := by decide +kernel
theorem dX9_spite_40 : decode cX9_spite 40 = .ok (.invokevirtual 272, 3) := by decide +kernel
theorem dX9_spite_43 : decode cX9_spite 43 = .ok (.iload_n 1, 1) := by decide +kernel
theorem dX9_spite_44 : decode cX9_spite 44 = .ok (.ifCond .ne 13, 3) := by decide +kernel
theorem dX9_spite_47 : decode cX9_spite 47 = .ok (.aload_n 0, 1) := by decide +kernel
theorem dX9_spite_48 : decode cX9_spite 48 = .ok (.getfield 75, 3) := by decide +kernel
theorem dX9_spite_51 : decode cX9_spite 51 = .ok (.getfield 275, 3) := by decide +kernel
theorem dX9_spite_54 : decode cX9_spite 54 = .ok (.goto 10, 3) := by decide +kernel
theorem dX9_spite_57 : decode cX9_spite 57 = .ok (.aload_n 0, 1) := by decide +kernel
theorem dX9_spite_58 : decode cX9_spite 58 = .ok (.getfield 75, 3) := by decide +kernel
theorem dX9_spite_61 : decode cX9_spite 61 = .ok (.getfield 278, 3) := by decide +kernel
theorem dX9_spite_64 : decode cX9_spite 64 = .ok (.ireturn, 1) := by decide +kernel
theorem dX9_spiteful_0 : decode cX9_spiteful 0 = .ok (.iload_n 1, 1) := by decide +kernel
theorem dX9_spiteful_1 : decode cX9_spiteful 1 = .ok (.ifCond .lt 8, 3) := by decide +kernel
theorem dX9_spiteful_4 : decode cX9_spiteful 4 = .ok (.iload_n 1, 1) := by decide +kernel
theorem dX9_spiteful_5 : decode cX9_spiteful 5 = .ok (.iconst 5, 1) := by decide +kernel
theorem dX9_spiteful_6 : decode cX9_spiteful 6 = .ok (.if_icmp .lt 5, 3) := by decide +kernel
theorem dX9_spiteful_9 : decode cX9_spiteful 9 = .ok (.iconst (-1), 1) := by decide +kernel
theorem dX9_spiteful_10 : decode cX9_spiteful 10 = .ok (.ireturn, 1) := by decide +kernel
theorem dX9_spiteful_11 : decode cX9_spiteful 11 = .ok (.aload_n 0, 1) := by decide +kernel
theorem dX9_spiteful_12 : decode cX9_spiteful 12 = .ok (.getfield 29, 3) := by decide +kernel
theorem dX9_spiteful_15 : decode cX9_spiteful 15 = .ok (.getfield 144, 3) := by decide +kernel
theorem dX9_spiteful_18 : decode cX9_spiteful 18 = .ok (.iconst 4, 1) := by decide +kernel
theorem dX9_spiteful_19 : decode cX9_spiteful 19 = .ok (.iaload, 1) := by decide +kernel
theorem dX9_spiteful_20 : decode cX9_spiteful 20 = .ok (.ifCond .eq 6, 3) := by decide +kernel
theorem dX9_spiteful_23 : decode cX9_spiteful 23 = .ok (.bipush (-2), 2) := by decide +kernel
theorem dX9_spiteful_25 : decode cX9_spiteful 25 = .ok (.ireturn, 1) := by decide +kernel
theorem dX9_spiteful_26 : decode cX9_spiteful 26 = .ok (.aload_n 0, 1) := by decide +kernel
theorem dX9_spiteful_27 : decode cX9_spiteful 27 = .ok (.invokevirtual 272, 3) := by decide +kernel
theorem dX9_spiteful_30 : decode cX9_spiteful 30 = .ok (.aload_n 0, 1) := by decide +kernel
theorem dX9_spiteful_31 : decode cX9_spiteful 31 = .ok (.getfield 39, 3) := by decide +kernel
theorem dX9_spiteful_34 : decode cX9_spiteful 34 = .ok (.aload_n 0, 1) := by decide +kernel
theorem dX9_spiteful_35 : decode cX9_spiteful 35 = .ok (.getfield 75, 3) := by decide +kernel
theorem dX9_spiteful_38 : decode cX9_spiteful 38 = .ok (.getfield 281, 3) := by decide +kernel
theorem dX9_spiteful_41 : decode cX9_spiteful 41 = .ok (.iload_n 1, 1) := by decide +kernel
theorem dX9_spiteful_42 : decode cX9_spiteful 42 = .ok (.invokevirtual 284, 3) := by decide +kernel
theorem dX9_spiteful_45 : decode cX9_spiteful 45 = .ok (.ireturn, 1) := by decide +kernel
theorem dX9_odds_0 : decode cX9_odds 0 = .ok (.iload_n 1, 1) := by decide +kernel
theorem dX9_odds_1 : decode cX9_odds 1 = .ok (.ifCond .lt 18, 3) := by decide +kernel
theorem dX9_odds_4 : decode cX9_odds 4 = .ok (.iload_n 1, 1) := by decide +kernel
theorem dX9_odds_5 : decode cX9_odds 5 = .ok (.bipush 10, 2) := by decide +kernel
theorem dX9_odds_7 : decode cX9_odds 7 = .ok (.if_icmp .gt 12, 3) := by decide +kernel
theorem dX9_odds_10 : decode cX9_odds 10 = .ok (.iload_n 2, 1) := by decide +kernel
theorem dX9_odds_11 : decode cX9_odds 11 = .ok (.ifCond .eq 10, 3) := by decide +kernel
theorem dX9_odds_14 : decode cX9_odds 14 = .ok (.iload_n 2, 1) := by decide +kernel
theorem dX9_odds_15 : decode cX9_odds 15 = .ok (.iconst 1, 1) := by decide +kernel
theorem dX9_odds_16 : decode cX9_odds 16 = .ok (.if_icmp .eq 5, 3) := by decide +kernel
theorem dX9_odds_19 : decode cX9_odds 19 = .ok (.iconst (-1), 1) := by decide +kernel
theorem dX9_odds_20 : decode cX9_odds 20 = .ok (.ireturn, 1) := by decide +kernel
theorem dX9_odds_21 : decode cX9_odds 21 = .ok (.aload_n 0, 1) := by decide +kernel
theorem dX9_odds_22 : decode cX9_odds 22 = .ok (.invokevirtual 250, 3) := by decide +kernel
theorem dX9_odds_25 : decode cX9_odds 25 = .ok (.istore_n 3, 1) := by decide +kernel
theorem dX9_odds_26 : decode cX9_odds 26 = .ok (.iconst 0, 1) := by decide +kernel
theorem dX9_odds_27 : decode cX9_odds 27 = .ok (.istore 4, 2) := by decide +kernel
theorem dX9_odds_29 : decode cX9_odds 29 = .ok (.iconst 1, 1) := by decide +kernel
theorem dX9_odds_30 : decode cX9_odds 30 = .ok (.istore 5, 2) := by decide +kernel
theorem dX9_odds_32 : decode cX9_odds 32 = .ok (.iconst 0, 1) := by decide +kernel
theorem dX9_odds_33 : decode cX9_odds 33 = .ok (.istore 6, 2) := by decide +kernel
theorem dX9_odds_35 : decode cX9_odds 35 = .ok (.iload 6, 2) := by decide +kernel
theorem dX9_odds_37 : decode cX9_odds 37 = .ok (.iconst 1, 1) := by decide +kernel
theorem dX9_odds_38 : decode cX9_odds 38 = .ok (.aload_n 0, 1) := by decide +kernel
theorem dX9_odds_39 : decode cX9_odds 39 = .ok (.getfield 29, 3) := by decide +kernel
theorem dX9_odds_42 : decode cX9_odds 42 = .ok (.getfield 174, 3) := by decide +kernel
theorem dX9_odds_45 : decode cX9_odds 45 = .ok (.ishl, 1) := by decide +kernel
theorem dX9_odds_46 : decode cX9_odds 46 = .ok (.if_icmp .ge 31, 3) := by decide +kernel
theorem dX9_odds_49 : decode cX9_odds 49 = .ok (.iload_n 3, 1) := by decide +kernel
theorem dX9_odds_50 : decode cX9_odds 50 = .ok (.iload 6, 2) := by decide +kernel
theorem dX9_odds_52 : decode cX9_odds 52 = .ok (.ishr, 1) := by decide +kernel
theorem dX9_odds_53 : decode cX9_odds 53 = .ok (.iconst 1, 1) := by decide +kernel
theorem dX9_odds_54 : decode cX9_odds 54 = .ok (.iand, 1) := by decide +kernel
theorem dX9_odds_55 : decode cX9_odds 55 = .ok (.iconst 1, 1) := by decide +kernel
theorem dX9_odds_56 : decode cX9_odds 56 = .ok (.if_icmp .ne 15, 3) := by decide +kernel
theorem dX9_odds_59 : decode cX9_odds 59 = .ok (.iload 4, 2) := by decide +kernel
theorem dX9_odds_61 : decode cX9_odds 61 = .ok (.aload_n 0, 1) := by decide +kernel
theorem dX9_odds_62 : decode cX9_odds 62 = .ok (.iload 6, 2) := by decide +kernel
theorem dX9_odds_64 : decode cX9_odds 64 = .ok (.iload_n 1, 1) := by decide +kernel
theorem dX9_odds_65 : decode cX9_odds 65 = .ok (.invokevirtual 285, 3) := by decide +kernel
theorem dX9_odds_68 : decode cX9_odds 68 = .ok (.iadd, 1) := by decide +kernel
theorem dX9_odds_69 : decode cX9_odds 69 = .ok (.istore 4, 2) := by decide +kernel
theorem dX9_odds_71 : decode cX9_odds 71 = .ok (.iinc 6 1, 3) := by decide +kernel
theorem dX9_odds_74 : decode cX9_odds 74 = .ok (.goto (-39), 3) := by decide +kernel
theorem dX9_odds_77 : decode cX9_odds 77 = .ok (.iconst 0, 1) := by decide +kernel
theorem dX9_odds_78 : decode cX9_odds 78 = .ok (.istore 6, 2) := by decide +kernel
theorem dX9_odds_80 : decode cX9_odds 80 = .ok (.iload 6, 2) := by decide +kernel
theorem dX9_odds_82 : decode cX9_odds 82 = .ok (.aload_n 0, 1) := by decide +kernel
theorem dX9_odds_83 : decode cX9_odds 83 = .ok (.getfield 29, 3) := by decide +kernel
theorem dX9_odds_86 : decode cX9_odds 86 = .ok (.getfield 174, 3) := by decide +kernel
theorem dX9_odds_89 : decode cX9_odds 89 = .ok (.if_icmp .ge 16, 3) := by decide +kernel
theorem dX9_odds_92 : decode cX9_odds 92 = .ok (.iload 5, 2) := by decide +kernel
theorem dX9_odds_94 : decode cX9_odds 94 = .ok (.bipush 10, 2) := by decide +kernel
theorem dX9_odds_96 : decode cX9_odds 96 = .ok (.imul, 1) := by decide +kernel
theorem dX9_odds_97 : decode cX9_odds 97 = .ok (.istore 5, 2) := by decide +kernel
theorem dX9_odds_99 : decode cX9_odds 99 = .ok (.iinc 6 1, 3) := by decide +kernel
theorem dX9_odds_102 : decode cX9_odds 102 = .ok (.goto (-22), 3) := by decide +kernel
theorem dX9_odds_105 : decode cX9_odds 105 = .ok (.iload 4, 2) := by decide +kernel
theorem dX9_odds_107 : decode cX9_odds 107 = .ok (.iload 5, 2) := by decide +kernel
theorem dX9_odds_109 : decode cX9_odds 109 = .ok (.invokestatic 288, 3) := by decide +kernel
theorem dX9_odds_112 : decode cX9_odds 112 = .ok (.istore 6, 2) := by decide +kernel
theorem dX9_odds_114 : decode cX9_odds 114 = .ok (.iload_n 2, 1) := by decide +kernel
theorem dX9_odds_115 : decode cX9_odds 115 = .ok (.ifCond .ne 8, 3) := by decide +kernel
theorem dX9_odds_118 : decode cX9_odds 118 = .ok (.iload 4, 2) := by decide +kernel
theorem dX9_odds_120 : decode cX9_odds 120 = .ok (.goto 5, 3) := by decide +kernel
theorem dX9_odds_123 : decode cX9_odds 123 = .ok (.iload 5, 2) := by decide +kernel
theorem dX9_odds_125 : decode cX9_odds 125 = .ok (.istore 7, 2) := by decide +kernel
theorem dX9_odds_127 : decode cX9_odds 127 = .ok (.iload 6, 2) := by decide +kernel
theorem dX9_odds_129 : decode cX9_odds 129 = .ok (.ifCond .ne 8, 3) := by decide +kernel
theorem dX9_odds_132 : decode cX9_odds 132 = .ok (.iload 7, 2) := by decide +kernel
theorem dX9_odds_134 : decode cX9_odds 134 = .ok (.goto 8, 3) := by decide +kernel
theorem dX9_odds_137 : decode cX9_odds 137 = .ok (.iload 7, 2) := by decide +kernel
theorem dX9_odds_139 : decode cX9_odds 139 = .ok (.iload 6, 2) := by decide +kernel
theorem dX9_odds_141 : decode cX9_odds 141 = .ok (.idiv, 1) := by decide +kernel
theorem dX9_odds_142 : decode cX9_odds 142 = .ok (.ireturn, 1) := by decide +kernel
theorem dX9_allMaps_0 : decode cX9_allMaps 0 = .ok (.iconst 1, 1) := by decide +kernel
theorem dX9_allMaps_1 : decode cX9_allMaps 1 = .ok (.aload_n 0, 1) := by decide +kernel
theorem dX9_allMaps_2 : decode cX9_allMaps 2 = .ok (.getfield 29, 3) := by decide +kernel
theorem dX9_allMaps_5 : decode cX9_allMaps 5 = .ok (.getfield 174, 3) := by decide +kernel
theorem dX9_allMaps_8 : decode cX9_allMaps 8 = .ok (.ishl, 1) := by decide +kernel
theorem dX9_allMaps_9 : decode cX9_allMaps 9 = .ok (.iconst 1, 1) := by decide +kernel
theorem dX9_allMaps_10 : decode cX9_allMaps 10 = .ok (.isub, 1) := by decide +kernel
theorem dX9_allMaps_11 : decode cX9_allMaps 11 = .ok (.ireturn, 1) := by decide +kernel
theorem dX9_waysOf_0 : decode cX9_waysOf 0 = .ok (.lconst 0, 1) := by decide +kernel
theorem dX9_waysOf_1 : decode cX9_waysOf 1 = .ok (.lstore_n 2, 1) := by decide +kernel
theorem dX9_waysOf_2 : decode cX9_waysOf 2 = .ok (.iconst 0, 1) := by decide +kernel
theorem dX9_waysOf_3 : decode cX9_waysOf 3 = .ok (.istore 4, 2) := by decide +kernel
theorem dX9_waysOf_5 : decode cX9_waysOf 5 = .ok (.iload 4, 2) := by decide +kernel
theorem dX9_waysOf_7 : decode cX9_waysOf 7 = .ok (.aload_n 0, 1) := by decide +kernel
theorem dX9_waysOf_8 : decode cX9_waysOf 8 = .ok (.getfield 29, 3) := by decide +kernel
theorem dX9_waysOf_11 : decode cX9_waysOf 11 = .ok (.getfield 174, 3) := by decide +kernel
theorem dX9_waysOf_14 : decode cX9_waysOf 14 = .ok (.if_icmp .ge 42, 3) := by decide +kernel
theorem dX9_waysOf_17 : decode cX9_waysOf 17 = .ok (.iload_n 1, 1) := by decide +kernel
theorem dX9_waysOf_18 : decode cX9_waysOf 18 = .ok (.iload 4, 2) := by decide +kernel
theorem dX9_waysOf_20 : decode cX9_waysOf 20 = .ok (.ishr, 1) := by decide +kernel
theorem dX9_waysOf_21 : decode cX9_waysOf 21 = .ok (.iconst 1, 1) := by decide +kernel
theorem dX9_waysOf_22 : decode cX9_waysOf 22 = .ok (.iand, 1) := by decide +kernel
theorem dX9_waysOf_23 : decode cX9_waysOf 23 = .ok (.iconst 1, 1) := by decide +kernel
theorem dX9_waysOf_24 : decode cX9_waysOf 24 = .ok (.if_icmp .ne 26, 3) := by decide +kernel
theorem dX9_waysOf_27 : decode cX9_waysOf 27 = .ok (.lload_n 2, 1) := by decide +kernel
theorem dX9_waysOf_28 : decode cX9_waysOf 28 = .ok (.aload_n 0, 1) := by decide +kernel
theorem dX9_waysOf_29 : decode cX9_waysOf 29 = .ok (.getfield 39, 3) := by decide +kernel
theorem dX9_waysOf_32 : decode cX9_waysOf 32 = .ok (.aload_n 0, 1) := by decide +kernel
theorem dX9_waysOf_33 : decode cX9_waysOf 33 = .ok (.getfield 29, 3) := by decide +kernel
theorem dX9_waysOf_36 : decode cX9_waysOf 36 = .ok (.aload_n 0, 1) := by decide +kernel
theorem dX9_waysOf_37 : decode cX9_waysOf 37 = .ok (.getfield 19, 3) := by decide +kernel
theorem dX9_waysOf_40 : decode cX9_waysOf 40 = .ok (.iload 4, 2) := by decide +kernel
theorem dX9_waysOf_42 : decode cX9_waysOf 42 = .ok (.invokevirtual 147, 3) := by decide +kernel
theorem dX9_waysOf_45 : decode cX9_waysOf 45 = .ok (.invokevirtual 291, 3) := by decide +kernel
theorem dX9_waysOf_48 : decode cX9_waysOf 48 = .ok (.lor, 1) := by decide +kernel
theorem dX9_waysOf_49 : decode cX9_waysOf 49 = .ok (.lstore_n 2, 1) := by decide +kernel
theorem dX9_waysOf_50 : decode cX9_waysOf 50 = .ok (.iinc 4 1, 3) := by decide +kernel
theorem dX9_waysOf_53 : decode cX9_waysOf 53 = .ok (.goto (-48), 3) := by decide +kernel
theorem dX9_waysOf_56 : decode cX9_waysOf 56 = .ok (.aload_n 0, 1) := by decide +kernel
theorem dX9_waysOf_57 : decode cX9_waysOf 57 = .ok (.invokevirtual 201, 3) := by decide +kernel
theorem dX9_waysOf_60 : decode cX9_waysOf 60 = .ok (.ifCond .eq 27, 3) := by decide +kernel
theorem dX9_waysOf_63 : decode cX9_waysOf 63 = .ok (.lload_n 2, 1) := by decide +kernel
theorem dX9_waysOf_64 : decode cX9_waysOf 64 = .ok (.aload_n 0, 1) := by decide +kernel
theorem dX9_waysOf_65 : decode cX9_waysOf 65 = .ok (.getfield 39, 3) := by decide +kernel
theorem dX9_waysOf_68 : decode cX9_waysOf 68 = .ok (.aload_n 0, 1) := by decide +kernel
theorem dX9_waysOf_69 : decode cX9_waysOf 69 = .ok (.getfield 29, 3) := by decide +kernel
theorem dX9_waysOf_72 : decode cX9_waysOf 72 = .ok (.aload_n 0, 1) := by decide +kernel
theorem dX9_waysOf_73 : decode cX9_waysOf 73 = .ok (.getfield 19, 3) := by decide +kernel
theorem dX9_waysOf_76 : decode cX9_waysOf 76 = .ok (.iconst 4, 1) := by decide +kernel
theorem dX9_waysOf_77 : decode cX9_waysOf 77 = .ok (.invokevirtual 147, 3) := by decide +kernel
theorem dX9_waysOf_80 : decode cX9_waysOf 80 = .ok (.invokevirtual 291, 3) := by decide +kernel
theorem dX9_waysOf_83 : decode cX9_waysOf 83 = .ok (.lor, 1) := by decide +kernel
theorem dX9_waysOf_84 : decode cX9_waysOf 84 = .ok (.goto 4, 3) := by decide +kernel
theorem dX9_waysOf_87 : decode cX9_waysOf 87 = .ok (.lload_n 2, 1) := by decide +kernel
theorem dX9_waysOf_88 : decode cX9_waysOf 88 = .ok (.lreturn, 1) := by decide +kernel
theorem dX9_costOf_0 : decode cX9_costOf 0 = .ok (.aload_n 0, 1) := by decide +kernel
theorem dX9_costOf_1 : decode cX9_costOf 1 = .ok (.getfield 61, 3) := by decide +kernel
theorem dX9_costOf_4 : decode cX9_costOf 4 = .ok (.aload_n 0, 1) := by decide +kernel
theorem dX9_costOf_5 : decode cX9_costOf 5 = .ok (.getfield 19, 3) := by decide +kernel
theorem dX9_costOf_8 : decode cX9_costOf 8 = .ok (.aload_n 0, 1) := by decide +kernel
theorem dX9_costOf_9 : decode cX9_costOf 9 = .ok (.getfield 39, 3) := by decide +kernel
theorem dX9_costOf_12 : decode cX9_costOf 12 = .ok (.aload_n 0, 1) := by decide +kernel
theorem dX9_costOf_13 : decode cX9_costOf 13 = .ok (.getfield 29, 3) := by decide +kernel
theorem dX9_costOf_16 : decode cX9_costOf 16 = .ok (.getfield 131, 3) := by decide +kernel
theorem dX9_costOf_19 : decode cX9_costOf 19 = .ok (.lload_n 1, 1) := by decide +kernel
theorem dX9_costOf_20 : decode cX9_costOf 20 = .ok (.invokevirtual 294, 3) := by decide +kernel
theorem dX9_costOf_23 : decode cX9_costOf 23 = .ok (.aload_n 0, 1) := by decide +kernel
theorem dX9_costOf_24 : decode cX9_costOf 24 = .ok (.getfield 61, 3) := by decide +kernel
theorem dX9_costOf_27 : decode cX9_costOf 27 = .ok (.invokevirtual 298, 3) := by decide +kernel
theorem dX9_costOf_30 : decode cX9_costOf 30 = .ok (.ireturn, 1) := by decide +kernel
theorem dX9_canHold_0 : decode cX9_canHold 0 = .ok (.aload_n 0, 1) := by decide +kernel
theorem dX9_canHold_1 : decode cX9_canHold 1 = .ok (.getfield 61, 3) := by decide +kernel
theorem dX9_canHold_4 : decode cX9_canHold 4 = .ok (.aload_n 0, 1) := by decide +kernel
theorem dX9_canHold_5 : decode cX9_canHold 5 = .ok (.getfield 19, 3) := by decide +kernel
theorem dX9_canHold_8 : decode cX9_canHold 8 = .ok (.aload_n 0, 1) := by decide +kernel
theorem dX9_canHold_9 : decode cX9_canHold 9 = .ok (.getfield 39, 3) := by decide +kernel
theorem dX9_canHold_12 : decode cX9_canHold 12 = .ok (.aload_n 0, 1) := by decide +kernel
theorem dX9_canHold_13 : decode cX9_canHold 13 = .ok (.getfield 29, 3) := by decide +kernel
theorem dX9_canHold_16 : decode cX9_canHold 16 = .ok (.getfield 131, 3) := by decide +kernel
theorem dX9_canHold_19 : decode cX9_canHold 19 = .ok (.lload_n 1, 1) := by decide +kernel
theorem dX9_canHold_20 : decode cX9_canHold 20 = .ok (.invokevirtual 294, 3) := by decide +kernel
theorem dX9_canHold_23 : decode cX9_canHold 23 = .ok (.aload_n 0, 1) := by decide +kernel
theorem dX9_canHold_24 : decode cX9_canHold 24 = .ok (.getfield 61, 3) := by decide +kernel
theorem dX9_canHold_27 : decode cX9_canHold 27 = .ok (.sipush 1000, 3) := by decide +kernel
theorem dX9_canHold_30 : decode cX9_canHold 30 = .ok (.invokevirtual 301, 3) := by decide +kernel
theorem dX9_canHold_33 : decode cX9_canHold 33 = .ok (.ireturn, 1) := by decide +kernel
theorem dX9_askedCost_0 : decode cX9_askedCost 0 = .ok (.aload_n 0, 1) := by decide +kernel
theorem dX9_askedCost_1 : decode cX9_askedCost 1 = .ok (.getfield 68, 3) := by decide +kernel
theorem dX9_askedCost_4 : decode cX9_askedCost 4 = .ok (.getfield 240, 3) := by decide +kernel
theorem dX9_askedCost_7 : decode cX9_askedCost 7 = .ok (.ifCond .ne 80, 3) := by decide +kernel
theorem dX9_askedCost_10 : decode cX9_askedCost 10 = .ok (.aload_n 0, 1) := by decide +kernel
theorem dX9_askedCost_11 : decode cX9_askedCost 11 = .ok (.getfield 68, 3) := by decide +kernel
theorem dX9_askedCost_14 : decode cX9_askedCost 14 = .ok (.aload_n 0, 1) := by decide +kernel
theorem dX9_askedCost_15 : decode cX9_askedCost 15 = .ok (.aload_n 0, 1) := by decide +kernel
theorem dX9_askedCost_16 : decode cX9_askedCost 16 = .ok (.aload_n 0, 1) := by decide +kernel
theorem dX9_askedCost_17 : decode cX9_askedCost 17 = .ok (.invokevirtual 258, 3) := by decide +kernel
theorem dX9_askedCost_20 : decode cX9_askedCost 20 = .ok (.invokevirtual 261, 3) := by decide +kernel
theorem dX9_askedCost_23 : decode cX9_askedCost 23 = .ok (.invokevirtual 265, 3) := by decide +kernel
theorem dX9_askedCost_26 : decode cX9_askedCost 26 = .ok (.putfield 304, 3) := by decide +kernel
theorem dX9_askedCost_29 : decode cX9_askedCost 29 = .ok (.aload_n 0, 1) := by decide +kernel
theorem dX9_askedCost_30 : decode cX9_askedCost 30 = .ok (.getfield 68, 3) := by decide +kernel
theorem dX9_askedCost_33 : decode cX9_askedCost 33 = .ok (.getfield 304, 3) := by decide +kernel
theorem dX9_askedCost_36 : decode cX9_askedCost 36 = .ok (.bipush (-9), 2) := by decide +kernel
theorem dX9_askedCost_38 : decode cX9_askedCost 38 = .ok (.if_icmp .eq 41, 3) := by decide +kernel
theorem dX9_askedCost_41 : decode cX9_askedCost 41 = .ok (.aload_n 0, 1) := by decide +kernel
theorem dX9_askedCost_42 : decode cX9_askedCost 42 = .ok (.getfield 61, 3) := by decide +kernel
theorem dX9_askedCost_45 : decode cX9_askedCost 45 = .ok (.aload_n 0, 1) := by decide +kernel
theorem dX9_askedCost_46 : decode cX9_askedCost 46 = .ok (.getfield 68, 3) := by decide +kernel
theorem dX9_askedCost_49 : decode cX9_askedCost 49 = .ok (.getfield 304, 3) := by decide +kernel
theorem dX9_askedCost_52 : decode cX9_askedCost 52 = .ok (.invokevirtual 301, 3) := by decide +kernel
theorem dX9_askedCost_55 : decode cX9_askedCost 55 = .ok (.ifCond .eq 24, 3) := by decide +kernel
theorem dX9_askedCost_58 : decode cX9_askedCost 58 = .ok (.aload_n 0, 1) := by decide +kernel
theorem dX9_askedCost_59 : decode cX9_askedCost 59 = .ok (.getfield 61, 3) := by decide +kernel
theorem dX9_askedCost_62 : decode cX9_askedCost 62 = .ok (.getfield 305, 3) := by decide +kernel
theorem dX9_askedCost_65 : decode cX9_askedCost 65 = .ok (.iconst 0, 1) := by decide +kernel
theorem dX9_askedCost_66 : decode cX9_askedCost 66 = .ok (.aload_n 0, 1) := by decide +kernel
theorem dX9_askedCost_67 : decode cX9_askedCost 67 = .ok (.getfield 68, 3) := by decide +kernel
theorem dX9_askedCost_70 : decode cX9_askedCost 70 = .ok (.getfield 208, 3) := by decide +kernel
theorem dX9_askedCost_73 : decode cX9_askedCost 73 = .ok (.iconst 0, 1) := by decide +kernel
theorem dX9_askedCost_74 : decode cX9_askedCost 74 = .ok (.bipush 6, 2) := by decide +kernel
theorem dX9_askedCost_76 : decode cX9_askedCost 76 = .ok (.invokestatic 209, 3) := by decide +kernel
theorem dX9_askedCost_79 : decode cX9_askedCost 79 = .ok (.aload_n 0, 1) := by decide +kernel
theorem dX9_askedCost_80 : decode cX9_askedCost 80 = .ok (.getfield 68, 3) := by decide +kernel
theorem dX9_askedCost_83 : decode cX9_askedCost 83 = .ok (.iconst 1, 1) := by decide +kernel
theorem dX9_askedCost_84 : decode cX9_askedCost 84 = .ok (.putfield 240, 3) := by decide +kernel
theorem dX9_askedCost_87 : decode cX9_askedCost 87 = .ok (.aload_n 0, 1) := by decide +kernel
theorem dX9_askedCost_88 : decode cX9_askedCost 88 = .ok (.getfield 68, 3) := by decide +kernel
theorem dX9_askedCost_91 : decode cX9_askedCost 91 = .ok (.getfield 304, 3) := by decide +kernel
theorem dX9_askedCost_94 : decode cX9_askedCost 94 = .ok (.ireturn, 1) := by decide +kernel
theorem dX9_standing_0 : decode cX9_standing 0 = .ok (.aload_n 0, 1) := by decide +kernel
theorem dX9_standing_1 : decode cX9_standing 1 = .ok (.invokevirtual 258, 3) := by decide +kernel
theorem dX9_standing_4 : decode cX9_standing 4 = .ok (.istore_n 1, 1) := by decide +kernel
theorem dX9_standing_5 : decode cX9_standing 5 = .ok (.aload_n 0, 1) := by decide +kernel
theorem dX9_standing_6 : decode cX9_standing 6 = .ok (.aload_n 0, 1) := by decide +kernel
theorem dX9_standing_7 : decode cX9_standing 7 = .ok (.iload_n 1, 1) := by decide +kernel
theorem dX9_standing_8 : decode cX9_standing 8 = .ok (.invokevirtual 261, 3) := by decide +kernel
theorem dX9_standing_11 : decode cX9_standing 11 = .ok (.invokevirtual 308, 3) := by decide +kernel
theorem dX9_standing_14 : decode cX9_standing 14 = .ok (.ifCond .eq 11, 3) := by decide +kernel
theorem dX9_standing_17 : decode cX9_standing 17 = .ok (.iconst 1, 1) := by decide +kernel
theorem dX9_standing_18 : decode cX9_standing 18 = .ok (.iload_n 1, 1) := by decide +kernel
theorem dX9_standing_19 : decode cX9_standing 19 = .ok (.iconst 1, 1) := by decide +kernel
theorem dX9_standing_20 : decode cX9_standing 20 = .ok (.iadd, 1) := by decide +kernel
theorem dX9_standing_21 : decode cX9_standing 21 = .ok (.ishl, 1) := by decide +kernel
theorem dX9_standing_22 : decode cX9_standing 22 = .ok (.iconst 1, 1) := by decide +kernel
theorem dX9_standing_23 : decode cX9_standing 23 = .ok (.isub, 1) := by decide +kernel
theorem dX9_standing_24 : decode cX9_standing 24 = .ok (.ireturn, 1) := by decide +kernel
theorem dX9_standing_25 : decode cX9_standing 25 = .ok (.iconst 0, 1) := by decide +kernel
theorem dX9_standing_26 : decode cX9_standing 26 = .ok (.istore_n 2, 1) := by decide +kernel
theorem dX9_standing_27 : decode cX9_standing 27 = .ok (.iconst 0, 1) := by decide +kernel
theorem dX9_standing_28 : decode cX9_standing 28 = .ok (.istore_n 3, 1) := by decide +kernel
theorem dX9_standing_29 : decode cX9_standing 29 = .ok (.iload_n 3, 1) := by decide +kernel
theorem dX9_standing_30 : decode cX9_standing 30 = .ok (.iload_n 1, 1) := by decide +kernel
theorem dX9_standing_31 : decode cX9_standing 31 = .ok (.if_icmp .ge 36, 3) := by decide +kernel
theorem dX9_standing_34 : decode cX9_standing 34 = .ok (.aload_n 0, 1) := by decide +kernel
theorem dX9_standing_35 : decode cX9_standing 35 = .ok (.iload_n 2, 1) := by decide +kernel
theorem dX9_standing_36 : decode cX9_standing 36 = .ok (.iload_n 3, 1) := by decide +kernel
theorem dX9_standing_37 : decode cX9_standing 37 = .ok (.invokevirtual 312, 3) := by decide +kernel
theorem dX9_standing_40 : decode cX9_standing 40 = .ok (.ifCond .eq 21, 3) := by decide +kernel
theorem dX9_standing_43 : decode cX9_standing 43 = .ok (.aload_n 0, 1) := by decide +kernel
theorem dX9_standing_44 : decode cX9_standing 44 = .ok (.aload_n 0, 1) := by decide +kernel
theorem dX9_standing_45 : decode cX9_standing 45 = .ok (.iload_n 3, 1) := by decide +kernel
theorem dX9_standing_46 : decode cX9_standing 46 = .ok (.invokevirtual 261, 3) := by decide +kernel
theorem dX9_standing_49 : decode cX9_standing 49 = .ok (.invokevirtual 308, 3) := by decide +kernel
theorem dX9_standing_52 : decode cX9_standing 52 = .ok (.ifCond .eq 9, 3) := by decide +kernel
theorem dX9_standing_55 : decode cX9_standing 55 = .ok (.iload_n 2, 1) := by decide +kernel
theorem dX9_standing_56 : decode cX9_standing 56 = .ok (.iconst 1, 1) := by decide +kernel
theorem dX9_standing_57 : decode cX9_standing 57 = .ok (.iload_n 3, 1) := by decide +kernel
theorem dX9_standing_58 : decode cX9_standing 58 = .ok (.ishl, 1) := by decide +kernel
theorem dX9_standing_59 : decode cX9_standing 59 = .ok (.ior, 1) := by decide +kernel
theorem dX9_standing_60 : decode cX9_standing 60 = .ok (.istore_n 2, 1) := by decide +kernel
theorem dX9_standing_61 : decode cX9_standing 61 = .ok (.iinc 3 1, 3) := by decide +kernel
theorem dX9_standing_64 : decode cX9_standing 64 = .ok (.goto (-35), 3) := by decide +kernel
theorem dX9_standing_67 : decode cX9_standing 67 = .ok (.iload_n 2, 1) := by decide +kernel
theorem dX9_standing_68 : decode cX9_standing 68 = .ok (.ireturn, 1) := by decide +kernel
theorem dX9_partsStand_0 : decode cX9_partsStand 0 = .ok (.iconst 0, 1) := by decide +kernel
theorem dX9_partsStand_1 : decode cX9_partsStand 1 = .ok (.istore_n 3, 1) := by decide +kernel
theorem dX9_partsStand_2 : decode cX9_partsStand 2 = .ok (.iload_n 3, 1) := by decide +kernel
theorem dX9_partsStand_3 : decode cX9_partsStand 3 = .ok (.aload_n 0, 1) := by decide +kernel
theorem dX9_partsStand_4 : decode cX9_partsStand 4 = .ok (.getfield 29, 3) := by decide +kernel
theorem dX9_partsStand_7 : decode cX9_partsStand 7 = .ok (.getfield 174, 3) := by decide +kernel
theorem dX9_partsStand_10 : decode cX9_partsStand 10 = .ok (.if_icmp .ge 34, 3) := by decide +kernel
theorem dX9_partsStand_13 : decode cX9_partsStand 13 = .ok (.iload_n 2, 1) := by decide +kernel
theorem dX9_partsStand_14 : decode cX9_partsStand 14 = .ok (.iload_n 3, 1) := by decide +kernel
theorem dX9_partsStand_15 : decode cX9_partsStand 15 = .ok (.ishr, 1) := by decide +kernel
theorem dX9_partsStand_16 : decode cX9_partsStand 16 = .ok (.iconst 1, 1) := by decide +kernel
theorem dX9_partsStand_17 : decode cX9_partsStand 17 = .ok (.iand, 1) := by decide +kernel
theorem dX9_partsStand_18 : decode cX9_partsStand 18 = .ok (.iconst 1, 1) := by decide +kernel
theorem dX9_partsStand_19 : decode cX9_partsStand 19 = .ok (.if_icmp .ne 19, 3) := by decide +kernel
theorem dX9_partsStand_22 : decode cX9_partsStand 22 = .ok (.iload_n 1, 1) := by decide +kernel
theorem dX9_partsStand_23 : decode cX9_partsStand 23 = .ok (.iload_n 2, 1) := by decide +kernel
theorem dX9_partsStand_24 : decode cX9_partsStand 24 = .ok (.iconst 1, 1) := by decide +kernel
theorem dX9_partsStand_25 : decode cX9_partsStand 25 = .ok (.iload_n 3, 1) := by decide +kernel
theorem dX9_partsStand_26 : decode cX9_partsStand 26 = .ok (.ishl, 1) := by decide +kernel
theorem dX9_partsStand_27 : decode cX9_partsStand 27 = .ok (.iconst (-1), 1) := by decide +kernel
theorem dX9_partsStand_28 : decode cX9_partsStand 28 = .ok (.ixor, 1) := by decide +kernel
theorem dX9_partsStand_29 : decode cX9_partsStand 29 = .ok (.iand, 1) := by decide +kernel
theorem dX9_partsStand_30 : decode cX9_partsStand 30 = .ok (.ishr, 1) := by decide +kernel
theorem dX9_partsStand_31 : decode cX9_partsStand 31 = .ok (.iconst 1, 1) := by decide +kernel
theorem dX9_partsStand_32 : decode cX9_partsStand 32 = .ok (.iand, 1) := by decide +kernel
theorem dX9_partsStand_33 : decode cX9_partsStand 33 = .ok (.ifCond .ne 5, 3) := by decide +kernel
theorem dX9_partsStand_36 : decode cX9_partsStand 36 = .ok (.iconst 0, 1) := by decide +kernel
theorem dX9_partsStand_37 : decode cX9_partsStand 37 = .ok (.ireturn, 1) := by decide +kernel
theorem dX9_partsStand_38 : decode cX9_partsStand 38 = .ok (.iinc 3 1, 3) := by decide +kernel
theorem dX9_partsStand_41 : decode cX9_partsStand 41 = .ok (.goto (-39), 3) := by decide +kernel
theorem dX9_partsStand_44 : decode cX9_partsStand 44 = .ok (.iconst 1, 1) := by decide +kernel
theorem dX9_partsStand_45 : decode cX9_partsStand 45 = .ok (.ireturn, 1) := by decide +kernel
theorem dX9_chances_0 : decode cX9_chances 0 = .ok (.iconst 1, 1) := by decide +kernel
theorem dX9_chances_1 : decode cX9_chances 1 = .ok (.istore_n 3, 1) := by decide +kernel
theorem dX9_chances_2 : decode cX9_chances 2 = .ok (.iconst 0, 1) := by decide +kernel
theorem dX9_chances_3 : decode cX9_chances 3 = .ok (.istore 4, 2) := by decide +kernel
theorem dX9_chances_5 : decode cX9_chances 5 = .ok (.iload 4, 2) := by decide +kernel
theorem dX9_chances_7 : decode cX9_chances 7 = .ok (.aload_n 0, 1) := by decide +kernel
theorem dX9_chances_8 : decode cX9_chances 8 = .ok (.getfield 29, 3) := by decide +kernel
theorem dX9_chances_11 : decode cX9_chances 11 = .ok (.getfield 174, 3) := by decide +kernel
theorem dX9_chances_14 : decode cX9_chances 14 = .ok (.if_icmp .ge 30, 3) := by decide +kernel
theorem dX9_chances_17 : decode cX9_chances 17 = .ok (.iload_n 3, 1) := by decide +kernel
theorem dX9_chances_18 : decode cX9_chances 18 = .ok (.iload_n 1, 1) := by decide +kernel
theorem dX9_chances_19 : decode cX9_chances 19 = .ok (.iload 4, 2) := by decide +kernel
theorem dX9_chances_21 : decode cX9_chances 21 = .ok (.ishr, 1) := by decide +kernel
theorem dX9_chances_22 : decode cX9_chances 22 = .ok (.iconst 1, 1) := by decide +kernel
theorem dX9_chances_23 : decode cX9_chances 23 = .ok (.iand, 1) := by decide +kernel
theorem dX9_chances_24 : decode cX9_chances 24 = .ok (.iconst 1, 1) := by decide +kernel
theorem dX9_chances_25 : decode cX9_chances 25 = .ok (.if_icmp .ne 10, 3) := by decide +kernel
theorem dX9_chances_28 : decode cX9_chances 28 = .ok (.bipush 10, 2) := by decide +kernel
theorem dX9_chances_30 : decode cX9_chances 30 = .ok (.iload_n 2, 1) := by decide +kernel
theorem dX9_chances_31 : decode cX9_chances 31 = .ok (.isub, 1) := by decide +kernel
theorem dX9_chances_32 : decode cX9_chances 32 = .ok (.goto 4, 3) := by decide +kernel
theorem dX9_chances_35 : decode cX9_chances 35 = .ok (.iload_n 2, 1) := by decide +kernel
theorem dX9_chances_36 : decode cX9_chances 36 = .ok (.imul, 1) := by decide +kernel
theorem dX9_chances_37 : decode cX9_chances 37 = .ok (.istore_n 3, 1) := by decide +kernel
theorem dX9_chances_38 : decode cX9_chances 38 = .ok (.iinc 4 1, 3) := by decide +kernel
theorem dX9_chances_41 : decode cX9_chances 41 = .ok (.goto (-36), 3) := by decide +kernel
theorem dX9_chances_44 : decode cX9_chances 44 = .ok (.iload_n 3, 1) := by decide +kernel
theorem dX9_chances_45 : decode cX9_chances 45 = .ok (.ireturn, 1) := by decide +kernel
theorem dX9_commonDivisor_0 : decode cX9_commonDivisor 0 = .ok (.iload_n 0, 1) := by decide +kernel
theorem dX9_commonDivisor_1 : decode cX9_commonDivisor 1 = .ok (.istore_n 2, 1) := by decide +kernel
theorem dX9_commonDivisor_2 : decode cX9_commonDivisor 2 = .ok (.iload_n 1, 1) := by decide +kernel
theorem dX9_commonDivisor_3 : decode cX9_commonDivisor 3 = .ok (.istore_n 3, 1) := by decide +kernel
theorem dX9_commonDivisor_4 : decode cX9_commonDivisor 4 = .ok (.iconst 0, 1) := by decide +kernel
theorem dX9_commonDivisor_5 : decode cX9_commonDivisor 5 = .ok (.istore 4, 2) := by decide +kernel
theorem dX9_commonDivisor_7 : decode cX9_commonDivisor 7 = .ok (.iload 4, 2) := by decide +kernel
theorem dX9_commonDivisor_9 : decode cX9_commonDivisor 9 = .ok (.bipush 64, 2) := by decide +kernel
theorem dX9_commonDivisor_11 : decode cX9_commonDivisor 11 = .ok (.if_icmp .ge 23, 3) := by decide +kernel
theorem dX9_commonDivisor_14 : decode cX9_commonDivisor 14 = .ok (.iload_n 3, 1) := by decide +kernel
theorem dX9_commonDivisor_15 : decode cX9_commonDivisor 15 = .ok (.ifCond .eq 19, 3) := by decide +kernel
theorem dX9_commonDivisor_18 : decode cX9_commonDivisor 18 = .ok (.iload_n 2, 1) := by decide +kernel
theorem dX9_commonDivisor_19 : decode cX9_commonDivisor 19 = .ok (.iload_n 3, 1) := by decide +kernel
theorem dX9_commonDivisor_20 : decode cX9_commonDivisor 20 = .ok (.irem, 1) := by decide +kernel
theorem dX9_commonDivisor_21 : decode cX9_commonDivisor 21 = .ok (.istore 5, 2) := by decide +kernel
theorem dX9_commonDivisor_23 : decode cX9_commonDivisor 23 = .ok (.iload_n 3, 1) := by decide +kernel
theorem dX9_commonDivisor_24 : decode cX9_commonDivisor 24 = .ok (.istore_n 2, 1) := by decide +kernel
theorem dX9_commonDivisor_25 : decode cX9_commonDivisor 25 = .ok (.iload 5, 2) := by decide +kernel
theorem dX9_commonDivisor_27 : decode cX9_commonDivisor 27 = .ok (.istore_n 3, 1) := by decide +kernel
theorem dX9_commonDivisor_28 : decode cX9_commonDivisor 28 = .ok (.iinc 4 1, 3) := by decide +kernel
theorem dX9_commonDivisor_31 : decode cX9_commonDivisor 31 = .ok (.goto (-24), 3) := by decide +kernel
theorem dX9_commonDivisor_34 : decode cX9_commonDivisor 34 = .ok (.iload_n 2, 1) := by decide +kernel
theorem dX9_commonDivisor_35 : decode cX9_commonDivisor 35 = .ok (.ireturn, 1) := by decide +kernel
theorem dX9_findSpite_0 : decode cX9_findSpite 0 = .ok (.aload_n 0, 1) := by decide +kernel
theorem dX9_findSpite_1 : decode cX9_findSpite 1 = .ok (.getfield 75, 3) := by decide +kernel
theorem dX9_findSpite_4 : decode cX9_findSpite 4 = .ok (.getfield 243, 3) := by decide +kernel
theorem dX9_findSpite_7 : decode cX9_findSpite 7 = .ok (.ifCond .eq 4, 3) := by decide +kernel
theorem dX9_findSpite_10 : decode cX9_findSpite 10 = .ok (.return_, 1) := by decide +kernel
theorem dX9_findSpite_11 : decode cX9_findSpite 11 = .ok (.aload_n 0, 1) := by decide +kernel
theorem dX9_findSpite_12 : decode cX9_findSpite 12 = .ok (.getfield 75, 3) := by decide +kernel
theorem dX9_findSpite_15 : decode cX9_findSpite 15 = .ok (.invokevirtual 316, 3) := by decide +kernel
theorem dX9_findSpite_18 : decode cX9_findSpite 18 = .ok (.aload_n 0, 1) := by decide +kernel
theorem dX9_findSpite_19 : decode cX9_findSpite 19 = .ok (.aload_n 0, 1) := by decide +kernel
theorem dX9_findSpite_20 : decode cX9_findSpite 20 = .ok (.invokevirtual 258, 3) := by decide +kernel
theorem dX9_findSpite_23 : decode cX9_findSpite 23 = .ok (.invokevirtual 261, 3) := by decide +kernel
theorem dX9_findSpite_26 : decode cX9_findSpite 26 = .ok (.lstore_n 1, 1) := by decide +kernel
theorem dX9_findSpite_27 : decode cX9_findSpite 27 = .ok (.aload_n 0, 1) := by decide +kernel
theorem dX9_findSpite_28 : decode cX9_findSpite 28 = .ok (.lload_n 1, 1) := by decide +kernel
theorem dX9_findSpite_29 : decode cX9_findSpite 29 = .ok (.invokevirtual 308, 3) := by decide +kernel
theorem dX9_findSpite_32 : decode cX9_findSpite 32 = .ok (.istore_n 3, 1) := by decide +kernel
theorem dX9_findSpite_33 : decode cX9_findSpite 33 = .ok (.iconst 0, 1) := by decide +kernel
theorem dX9_findSpite_34 : decode cX9_findSpite 34 = .ok (.istore 4, 2) := by decide +kernel
theorem dX9_findSpite_36 : decode cX9_findSpite 36 = .ok (.iload 4, 2) := by decide +kernel
theorem dX9_findSpite_38 : decode cX9_findSpite 38 = .ok (.aload_n 0, 1) := by decide +kernel
theorem dX9_findSpite_39 : decode cX9_findSpite 39 = .ok (.getfield 39, 3) := by decide +kernel
theorem dX9_findSpite_42 : decode cX9_findSpite 42 = .ok (.getfield 269, 3) := by decide +kernel
theorem dX9_findSpite_45 : decode cX9_findSpite 45 = .ok (.if_icmp .ge 37, 3) := by decide +kernel
theorem dX9_findSpite_48 : decode cX9_findSpite 48 = .ok (.aload_n 0, 1) := by decide +kernel
theorem dX9_findSpite_49 : decode cX9_findSpite 49 = .ok (.getfield 75, 3) := by decide +kernel
theorem dX9_findSpite_52 : decode cX9_findSpite 52 = .ok (.iload 4, 2) := by decide +kernel
theorem dX9_findSpite_54 : decode cX9_findSpite 54 = .ok (.iload_n 3, 1) := by decide +kernel
theorem dX9_findSpite_55 : decode cX9_findSpite 55 = .ok (.ifCond .eq 16, 3) := by decide +kernel
theorem dX9_findSpite_58 : decode cX9_findSpite 58 = .ok (.aload_n 0, 1) := by decide +kernel
theorem dX9_findSpite_59 : decode cX9_findSpite 59 = .ok (.lload_n 1, 1) := by decide +kernel
theorem dX9_findSpite_60 : decode cX9_findSpite 60 = .ok (.lconst 1, 1) := by decide +kernel
theorem dX9_findSpite_61 : decode cX9_findSpite 61 = .ok (.iload 4, 2) := by decide +kernel
theorem dX9_findSpite_63 : decode cX9_findSpite 63 = .ok (.lshl, 1) := by decide +kernel
theorem dX9_findSpite_64 : decode cX9_findSpite 64 = .ok (.lor, 1) := by decide +kernel
theorem dX9_findSpite_65 : decode cX9_findSpite 65 = .ok (.invokevirtual 265, 3) := by decide +kernel
theorem dX9_findSpite_68 : decode cX9_findSpite 68 = .ok (.goto 5, 3) := by decide +kernel
theorem dX9_findSpite_71 : decode cX9_findSpite 71 = .ok (.bipush (-9), 2) := by decide +kernel
theorem dX9_findSpite_73 : decode cX9_findSpite 73 = .ok (.invokevirtual 317, 3) := by decide +kernel
