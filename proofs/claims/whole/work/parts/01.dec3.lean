theorem dX5_said_20 : decode cX5_said 20 = .ok (.iload 4, 2) := by decide +kernel
theorem dX5_said_22 : decode cX5_said 22 = .ok (.aload_n 0, 1) := by decide +kernel
theorem dX5_said_23 : decode cX5_said 23 = .ok (.getfield 276, 3) := by decide +kernel
theorem dX5_said_26 : decode cX5_said 26 = .ok (.if_icmp .ge 42, 3) := by decide +kernel
theorem dX5_said_29 : decode cX5_said 29 = .ok (.iload_n 3, 1) := by decide +kernel
theorem dX5_said_30 : decode cX5_said 30 = .ok (.ifCond .eq 30, 3) := by decide +kernel
theorem dX5_said_33 : decode cX5_said 33 = .ok (.aload_n 0, 1) := by decide +kernel
theorem dX5_said_34 : decode cX5_said 34 = .ok (.getfield 89, 3) := by decide +kernel
theorem dX5_said_37 : decode cX5_said 37 = .ok (.iload 4, 2) := by decide +kernel
theorem dX5_said_39 : decode cX5_said 39 = .ok (.iaload, 1) := by decide +kernel
theorem dX5_said_40 : decode cX5_said 40 = .ok (.bipush 99, 2) := by decide +kernel
theorem dX5_said_42 : decode cX5_said 42 = .ok (.if_icmp .eq 14, 3) := by decide +kernel
theorem dX5_said_45 : decode cX5_said 45 = .ok (.aload_n 0, 1) := by decide +kernel
theorem dX5_said_46 : decode cX5_said 46 = .ok (.getfield 89, 3) := by decide +kernel
theorem dX5_said_49 : decode cX5_said 49 = .ok (.iload 4, 2) := by decide +kernel
theorem dX5_said_51 : decode cX5_said 51 = .ok (.iaload, 1) := by decide +kernel
theorem dX5_said_52 : decode cX5_said 52 = .ok (.iload_n 2, 1) := by decide +kernel
theorem dX5_said_53 : decode cX5_said 53 = .ok (.if_icmp .ne 7, 3) := by decide +kernel
theorem dX5_said_56 : decode cX5_said 56 = .ok (.iconst 1, 1) := by decide +kernel
theorem dX5_said_57 : decode cX5_said 57 = .ok (.goto 4, 3) := by decide +kernel
theorem dX5_said_60 : decode cX5_said 60 = .ok (.iconst 0, 1) := by decide +kernel
theorem dX5_said_61 : decode cX5_said 61 = .ok (.istore_n 3, 1) := by decide +kernel
theorem dX5_said_62 : decode cX5_said 62 = .ok (.iinc 4 1, 3) := by decide +kernel
theorem dX5_said_65 : decode cX5_said 65 = .ok (.goto (-45), 3) := by decide +kernel
theorem dX5_said_68 : decode cX5_said 68 = .ok (.iload_n 1, 1) := by decide +kernel
theorem dX5_said_69 : decode cX5_said 69 = .ok (.iload_n 3, 1) := by decide +kernel
theorem dX5_said_70 : decode cX5_said 70 = .ok (.ifCond .eq 9, 3) := by decide +kernel
theorem dX5_said_73 : decode cX5_said 73 = .ok (.iconst 1, 1) := by decide +kernel
theorem dX5_said_74 : decode cX5_said 74 = .ok (.iload_n 2, 1) := by decide +kernel
theorem dX5_said_75 : decode cX5_said 75 = .ok (.ishl, 1) := by decide +kernel
theorem dX5_said_76 : decode cX5_said 76 = .ok (.goto 4, 3) := by decide +kernel
theorem dX5_said_79 : decode cX5_said 79 = .ok (.iconst 0, 1) := by decide +kernel
theorem dX5_said_80 : decode cX5_said 80 = .ok (.ior, 1) := by decide +kernel
theorem dX5_said_81 : decode cX5_said 81 = .ok (.istore_n 1, 1) := by decide +kernel
theorem dX5_said_82 : decode cX5_said 82 = .ok (.iinc 2 1, 3) := by decide +kernel
theorem dX5_said_85 : decode cX5_said 85 = .ok (.goto (-76), 3) := by decide +kernel
theorem dX5_said_88 : decode cX5_said 88 = .ok (.iload_n 1, 1) := by decide +kernel
theorem dX5_said_89 : decode cX5_said 89 = .ok (.ireturn, 1) := by decide +kernel
theorem dX5_lies_0 : decode cX5_lies 0 = .ok (.aload_n 0, 1) := by decide +kernel
theorem dX5_lies_1 : decode cX5_lies 1 = .ok (.iconst 0, 1) := by decide +kernel
theorem dX5_lies_2 : decode cX5_lies 2 = .ok (.putfield 92, 3) := by decide +kernel
theorem dX5_lies_5 : decode cX5_lies 5 = .ok (.bipush 99, 2) := by decide +kernel
theorem dX5_lies_7 : decode cX5_lies 7 = .ok (.istore_n 1, 1) := by decide +kernel
theorem dX5_lies_8 : decode cX5_lies 8 = .ok (.iconst 0, 1) := by decide +kernel
theorem dX5_lies_9 : decode cX5_lies 9 = .ok (.istore_n 2, 1) := by decide +kernel
theorem dX5_lies_10 : decode cX5_lies 10 = .ok (.iload_n 2, 1) := by decide +kernel
theorem dX5_lies_11 : decode cX5_lies 11 = .ok (.aload_n 0, 1) := by decide +kernel
theorem dX5_lies_12 : decode cX5_lies 12 = .ok (.getfield 276, 3) := by decide +kernel
theorem dX5_lies_15 : decode cX5_lies 15 = .ok (.if_icmp .ge 49, 3) := by decide +kernel
theorem dX5_lies_18 : decode cX5_lies 18 = .ok (.iload_n 1, 1) := by decide +kernel
theorem dX5_lies_19 : decode cX5_lies 19 = .ok (.bipush 99, 2) := by decide +kernel
theorem dX5_lies_21 : decode cX5_lies 21 = .ok (.if_icmp .ne 12, 3) := by decide +kernel
theorem dX5_lies_24 : decode cX5_lies 24 = .ok (.aload_n 0, 1) := by decide +kernel
theorem dX5_lies_25 : decode cX5_lies 25 = .ok (.getfield 89, 3) := by decide +kernel
theorem dX5_lies_28 : decode cX5_lies 28 = .ok (.iload_n 2, 1) := by decide +kernel
theorem dX5_lies_29 : decode cX5_lies 29 = .ok (.iaload, 1) := by decide +kernel
theorem dX5_lies_30 : decode cX5_lies 30 = .ok (.goto 4, 3) := by decide +kernel
theorem dX5_lies_33 : decode cX5_lies 33 = .ok (.iload_n 1, 1) := by decide +kernel
theorem dX5_lies_34 : decode cX5_lies 34 = .ok (.istore_n 1, 1) := by decide +kernel
theorem dX5_lies_35 : decode cX5_lies 35 = .ok (.aload_n 0, 1) := by decide +kernel
theorem dX5_lies_36 : decode cX5_lies 36 = .ok (.getfield 89, 3) := by decide +kernel
theorem dX5_lies_39 : decode cX5_lies 39 = .ok (.iload_n 2, 1) := by decide +kernel
theorem dX5_lies_40 : decode cX5_lies 40 = .ok (.iaload, 1) := by decide +kernel
theorem dX5_lies_41 : decode cX5_lies 41 = .ok (.bipush 99, 2) := by decide +kernel
theorem dX5_lies_43 : decode cX5_lies 43 = .ok (.if_icmp .eq 15, 3) := by decide +kernel
theorem dX5_lies_46 : decode cX5_lies 46 = .ok (.aload_n 0, 1) := by decide +kernel
theorem dX5_lies_47 : decode cX5_lies 47 = .ok (.getfield 89, 3) := by decide +kernel
theorem dX5_lies_50 : decode cX5_lies 50 = .ok (.iload_n 2, 1) := by decide +kernel
theorem dX5_lies_51 : decode cX5_lies 51 = .ok (.iaload, 1) := by decide +kernel
theorem dX5_lies_52 : decode cX5_lies 52 = .ok (.iload_n 1, 1) := by decide +kernel
theorem dX5_lies_53 : decode cX5_lies 53 = .ok (.if_icmp .eq 5, 3) := by decide +kernel
theorem dX5_lies_56 : decode cX5_lies 56 = .ok (.iload_n 2, 1) := by decide +kernel
theorem dX5_lies_57 : decode cX5_lies 57 = .ok (.ireturn, 1) := by decide +kernel
theorem dX5_lies_58 : decode cX5_lies 58 = .ok (.iinc 2 1, 3) := by decide +kernel
theorem dX5_lies_61 : decode cX5_lies 61 = .ok (.goto (-51), 3) := by decide +kernel
theorem dX5_lies_64 : decode cX5_lies 64 = .ok (.bipush (-9), 2) := by decide +kernel
theorem dX5_lies_66 : decode cX5_lies 66 = .ok (.ireturn, 1) := by decide +kernel
theorem dX5_besideMean_0 : decode cX5_besideMean 0 = .ok (.iload_n 1, 1) := by decide +kernel
theorem dX5_besideMean_1 : decode cX5_besideMean 1 = .ok (.ifCond .ne 12, 3) := by decide +kernel
theorem dX5_besideMean_4 : decode cX5_besideMean 4 = .ok (.aload_n 0, 1) := by decide +kernel
theorem dX5_besideMean_5 : decode cX5_besideMean 5 = .ok (.getfield 20, 3) := by decide +kernel
theorem dX5_besideMean_8 : decode cX5_besideMean 8 = .ok (.iconst 1, 1) := by decide +kernel
theorem dX5_besideMean_9 : decode cX5_besideMean 9 = .ok (.iaload, 1) := by decide +kernel
theorem dX5_besideMean_10 : decode cX5_besideMean 10 = .ok (.goto 43, 3) := by decide +kernel
theorem dX5_besideMean_13 : decode cX5_besideMean 13 = .ok (.iload_n 1, 1) := by decide +kernel
theorem dX5_besideMean_14 : decode cX5_besideMean 14 = .ok (.aload_n 0, 1) := by decide +kernel
theorem dX5_besideMean_15 : decode cX5_besideMean 15 = .ok (.getfield 7, 3) := by decide +kernel
theorem dX5_besideMean_18 : decode cX5_besideMean 18 = .ok (.iconst 1, 1) := by decide +kernel
theorem dX5_besideMean_19 : decode cX5_besideMean 19 = .ok (.isub, 1) := by decide +kernel
theorem dX5_besideMean_20 : decode cX5_besideMean 20 = .ok (.if_icmp .ne 14, 3) := by decide +kernel
theorem dX5_besideMean_23 : decode cX5_besideMean 23 = .ok (.aload_n 0, 1) := by decide +kernel
theorem dX5_besideMean_24 : decode cX5_besideMean 24 = .ok (.getfield 20, 3) := by decide +kernel
theorem dX5_besideMean_27 : decode cX5_besideMean 27 = .ok (.iload_n 1, 1) := by decide +kernel
theorem dX5_besideMean_28 : decode cX5_besideMean 28 = .ok (.iconst 1, 1) := by decide +kernel
theorem dX5_besideMean_29 : decode cX5_besideMean 29 = .ok (.isub, 1) := by decide +kernel
theorem dX5_besideMean_30 : decode cX5_besideMean 30 = .ok (.iaload, 1) := by decide +kernel
theorem dX5_besideMean_31 : decode cX5_besideMean 31 = .ok (.goto 22, 3) := by decide +kernel
theorem dX5_besideMean_34 : decode cX5_besideMean 34 = .ok (.aload_n 0, 1) := by decide +kernel
theorem dX5_besideMean_35 : decode cX5_besideMean 35 = .ok (.getfield 20, 3) := by decide +kernel
theorem dX5_besideMean_38 : decode cX5_besideMean 38 = .ok (.iload_n 1, 1) := by decide +kernel
theorem dX5_besideMean_39 : decode cX5_besideMean 39 = .ok (.iconst 1, 1) := by decide +kernel
theorem dX5_besideMean_40 : decode cX5_besideMean 40 = .ok (.isub, 1) := by decide +kernel
theorem dX5_besideMean_41 : decode cX5_besideMean 41 = .ok (.iaload, 1) := by decide +kernel
theorem dX5_besideMean_42 : decode cX5_besideMean 42 = .ok (.aload_n 0, 1) := by decide +kernel
theorem dX5_besideMean_43 : decode cX5_besideMean 43 = .ok (.getfield 20, 3) := by decide +kernel
theorem dX5_besideMean_46 : decode cX5_besideMean 46 = .ok (.iload_n 1, 1) := by decide +kernel
theorem dX5_besideMean_47 : decode cX5_besideMean 47 = .ok (.iconst 1, 1) := by decide +kernel
theorem dX5_besideMean_48 : decode cX5_besideMean 48 = .ok (.iadd, 1) := by decide +kernel
theorem dX5_besideMean_49 : decode cX5_besideMean 49 = .ok (.iaload, 1) := by decide +kernel
theorem dX5_besideMean_50 : decode cX5_besideMean 50 = .ok (.iadd, 1) := by decide +kernel
theorem dX5_besideMean_51 : decode cX5_besideMean 51 = .ok (.iconst 2, 1) := by decide +kernel
theorem dX5_besideMean_52 : decode cX5_besideMean 52 = .ok (.idiv, 1) := by decide +kernel
theorem dX5_besideMean_53 : decode cX5_besideMean 53 = .ok (.istore_n 2, 1) := by decide +kernel
theorem dX5_besideMean_54 : decode cX5_besideMean 54 = .ok (.aload_n 0, 1) := by decide +kernel
theorem dX5_besideMean_55 : decode cX5_besideMean 55 = .ok (.getfield 20, 3) := by decide +kernel
theorem dX5_besideMean_58 : decode cX5_besideMean 58 = .ok (.iload_n 1, 1) := by decide +kernel
theorem dX5_besideMean_59 : decode cX5_besideMean 59 = .ok (.iaload, 1) := by decide +kernel
theorem dX5_besideMean_60 : decode cX5_besideMean 60 = .ok (.iload_n 2, 1) := by decide +kernel
theorem dX5_besideMean_61 : decode cX5_besideMean 61 = .ok (.isub, 1) := by decide +kernel
theorem dX5_besideMean_62 : decode cX5_besideMean 62 = .ok (.ireturn, 1) := by decide +kernel
theorem dX5_tells_0 : decode cX5_tells 0 = .ok (.aload_n 0, 1) := by decide +kernel
theorem dX5_tells_1 : decode cX5_tells 1 = .ok (.iconst 0, 1) := by decide +kernel
theorem dX5_tells_2 : decode cX5_tells 2 = .ok (.putfield 92, 3) := by decide +kernel
theorem dX5_tells_5 : decode cX5_tells 5 = .ok (.iconst 0, 1) := by decide +kernel
theorem dX5_tells_6 : decode cX5_tells 6 = .ok (.istore_n 1, 1) := by decide +kernel
theorem dX5_tells_7 : decode cX5_tells 7 = .ok (.iconst 1, 1) := by decide +kernel
theorem dX5_tells_8 : decode cX5_tells 8 = .ok (.istore_n 2, 1) := by decide +kernel
theorem dX5_tells_9 : decode cX5_tells 9 = .ok (.iload_n 2, 1) := by decide +kernel
theorem dX5_tells_10 : decode cX5_tells 10 = .ok (.aload_n 0, 1) := by decide +kernel
theorem dX5_tells_11 : decode cX5_tells 11 = .ok (.getfield 7, 3) := by decide +kernel
theorem dX5_tells_14 : decode cX5_tells 14 = .ok (.if_icmp .ge 28, 3) := by decide +kernel
theorem dX5_tells_17 : decode cX5_tells 17 = .ok (.aload_n 0, 1) := by decide +kernel
theorem dX5_tells_18 : decode cX5_tells 18 = .ok (.iload_n 2, 1) := by decide +kernel
theorem dX5_tells_19 : decode cX5_tells 19 = .ok (.invokevirtual 279, 3) := by decide +kernel
theorem dX5_tells_22 : decode cX5_tells 22 = .ok (.aload_n 0, 1) := by decide +kernel
theorem dX5_tells_23 : decode cX5_tells 23 = .ok (.iload_n 1, 1) := by decide +kernel
theorem dX5_tells_24 : decode cX5_tells 24 = .ok (.invokevirtual 279, 3) := by decide +kernel
theorem dX5_tells_27 : decode cX5_tells 27 = .ok (.if_icmp .ge 7, 3) := by decide +kernel
theorem dX5_tells_30 : decode cX5_tells 30 = .ok (.iload_n 2, 1) := by decide +kernel
theorem dX5_tells_31 : decode cX5_tells 31 = .ok (.goto 4, 3) := by decide +kernel
theorem dX5_tells_34 : decode cX5_tells 34 = .ok (.iload_n 1, 1) := by decide +kernel
theorem dX5_tells_35 : decode cX5_tells 35 = .ok (.istore_n 1, 1) := by decide +kernel
theorem dX5_tells_36 : decode cX5_tells 36 = .ok (.iinc 2 1, 3) := by decide +kernel
theorem dX5_tells_39 : decode cX5_tells 39 = .ok (.goto (-30), 3) := by decide +kernel
theorem dX5_tells_42 : decode cX5_tells 42 = .ok (.iload_n 1, 1) := by decide +kernel
theorem dX5_tells_43 : decode cX5_tells 43 = .ok (.ireturn, 1) := by decide +kernel
theorem dX5_haltNear_0 : decode cX5_haltNear 0 = .ok (.bipush (-9), 2) := by decide +kernel
theorem dX5_haltNear_2 : decode cX5_haltNear 2 = .ok (.istore_n 2, 1) := by decide +kernel
theorem dX5_haltNear_3 : decode cX5_haltNear 3 = .ok (.bipush 99, 2) := by decide +kernel
theorem dX5_haltNear_5 : decode cX5_haltNear 5 = .ok (.istore_n 3, 1) := by decide +kernel
theorem dX5_haltNear_6 : decode cX5_haltNear 6 = .ok (.iconst 0, 1) := by decide +kernel
theorem dX5_haltNear_7 : decode cX5_haltNear 7 = .ok (.istore 4, 2) := by decide +kernel
theorem dX5_haltNear_9 : decode cX5_haltNear 9 = .ok (.iload 4, 2) := by decide +kernel
theorem dX5_haltNear_11 : decode cX5_haltNear 11 = .ok (.aload_n 0, 1) := by decide +kernel
theorem dX5_haltNear_12 : decode cX5_haltNear 12 = .ok (.getfield 7, 3) := by decide +kernel
theorem dX5_haltNear_15 : decode cX5_haltNear 15 = .ok (.if_icmp .ge 76, 3) := by decide +kernel
theorem dX5_haltNear_18 : decode cX5_haltNear 18 = .ok (.iload 4, 2) := by decide +kernel
theorem dX5_haltNear_20 : decode cX5_haltNear 20 = .ok (.iload_n 1, 1) := by decide +kernel
theorem dX5_haltNear_21 : decode cX5_haltNear 21 = .ok (.if_icmp .le 10, 3) := by decide +kernel
theorem dX5_haltNear_24 : decode cX5_haltNear 24 = .ok (.iload 4, 2) := by decide +kernel
theorem dX5_haltNear_26 : decode cX5_haltNear 26 = .ok (.iload_n 1, 1) := by decide +kernel
theorem dX5_haltNear_27 : decode cX5_haltNear 27 = .ok (.isub, 1) := by decide +kernel
theorem dX5_haltNear_28 : decode cX5_haltNear 28 = .ok (.goto 7, 3) := by decide +kernel
theorem dX5_haltNear_31 : decode cX5_haltNear 31 = .ok (.iload_n 1, 1) := by decide +kernel
theorem dX5_haltNear_32 : decode cX5_haltNear 32 = .ok (.iload 4, 2) := by decide +kernel
theorem dX5_haltNear_34 : decode cX5_haltNear 34 = .ok (.isub, 1) := by decide +kernel
theorem dX5_haltNear_35 : decode cX5_haltNear 35 = .ok (.istore 5, 2) := by decide +kernel
theorem dX5_haltNear_37 : decode cX5_haltNear 37 = .ok (.aload_n 0, 1) := by decide +kernel
theorem dX5_haltNear_38 : decode cX5_haltNear 38 = .ok (.getfield 13, 3) := by decide +kernel
theorem dX5_haltNear_41 : decode cX5_haltNear 41 = .ok (.iload 4, 2) := by decide +kernel
theorem dX5_haltNear_43 : decode cX5_haltNear 43 = .ok (.iaload, 1) := by decide +kernel
theorem dX5_haltNear_44 : decode cX5_haltNear 44 = .ok (.iconst 4, 1) := by decide +kernel
theorem dX5_haltNear_45 : decode cX5_haltNear 45 = .ok (.if_icmp .ne 14, 3) := by decide +kernel
theorem dX5_haltNear_48 : decode cX5_haltNear 48 = .ok (.iload 5, 2) := by decide +kernel
theorem dX5_haltNear_50 : decode cX5_haltNear 50 = .ok (.iload_n 3, 1) := by decide +kernel
theorem dX5_haltNear_51 : decode cX5_haltNear 51 = .ok (.if_icmp .ge 8, 3) := by decide +kernel
theorem dX5_haltNear_54 : decode cX5_haltNear 54 = .ok (.iload 4, 2) := by decide +kernel
theorem dX5_haltNear_56 : decode cX5_haltNear 56 = .ok (.goto 4, 3) := by decide +kernel
theorem dX5_haltNear_59 : decode cX5_haltNear 59 = .ok (.iload_n 2, 1) := by decide +kernel
theorem dX5_haltNear_60 : decode cX5_haltNear 60 = .ok (.istore_n 2, 1) := by decide +kernel
theorem dX5_haltNear_61 : decode cX5_haltNear 61 = .ok (.aload_n 0, 1) := by decide +kernel
theorem dX5_haltNear_62 : decode cX5_haltNear 62 = .ok (.getfield 13, 3) := by decide +kernel
theorem dX5_haltNear_65 : decode cX5_haltNear 65 = .ok (.iload 4, 2) := by decide +kernel
theorem dX5_haltNear_67 : decode cX5_haltNear 67 = .ok (.iaload, 1) := by decide +kernel
theorem dX5_haltNear_68 : decode cX5_haltNear 68 = .ok (.iconst 4, 1) := by decide +kernel
theorem dX5_haltNear_69 : decode cX5_haltNear 69 = .ok (.if_icmp .ne 14, 3) := by decide +kernel
theorem dX5_haltNear_72 : decode cX5_haltNear 72 = .ok (.iload 5, 2) := by decide +kernel
theorem dX5_haltNear_74 : decode cX5_haltNear 74 = .ok (.iload_n 3, 1) := by decide +kernel
theorem dX5_haltNear_75 : decode cX5_haltNear 75 = .ok (.if_icmp .ge 8, 3) := by decide +kernel
theorem dX5_haltNear_78 : decode cX5_haltNear 78 = .ok (.iload 5, 2) := by decide +kernel
theorem dX5_haltNear_80 : decode cX5_haltNear 80 = .ok (.goto 4, 3) := by decide +kernel
theorem dX5_haltNear_83 : decode cX5_haltNear 83 = .ok (.iload_n 3, 1) := by decide +kernel
theorem dX5_haltNear_84 : decode cX5_haltNear 84 = .ok (.istore_n 3, 1) := by decide +kernel
theorem dX5_haltNear_85 : decode cX5_haltNear 85 = .ok (.iinc 4 1, 3) := by decide +kernel
theorem dX5_haltNear_88 : decode cX5_haltNear 88 = .ok (.goto (-79), 3) := by decide +kernel
theorem dX5_haltNear_91 : decode cX5_haltNear 91 = .ok (.iload_n 2, 1) := by decide +kernel
theorem dX5_haltNear_92 : decode cX5_haltNear 92 = .ok (.ireturn, 1) := by decide +kernel
theorem dX5_near_0 : decode cX5_near 0 = .ok (.aload_n 0, 1) := by decide +kernel
theorem dX5_near_1 : decode cX5_near 1 = .ok (.iconst 0, 1) := by decide +kernel
theorem dX5_near_2 : decode cX5_near 2 = .ok (.putfield 92, 3) := by decide +kernel
theorem dX5_near_5 : decode cX5_near 5 = .ok (.aload_n 0, 1) := by decide +kernel
theorem dX5_near_6 : decode cX5_near 6 = .ok (.iload_n 1, 1) := by decide +kernel
theorem dX5_near_7 : decode cX5_near 7 = .ok (.invokevirtual 181, 3) := by decide +kernel
theorem dX5_near_10 : decode cX5_near 10 = .ok (.ifCond .ne 9, 3) := by decide +kernel
theorem dX5_near_13 : decode cX5_near 13 = .ok (.aload_n 0, 1) := by decide +kernel
theorem dX5_near_14 : decode cX5_near 14 = .ok (.iconst (-1), 1) := by decide +kernel
theorem dX5_near_15 : decode cX5_near 15 = .ok (.invokevirtual 139, 3) := by decide +kernel
theorem dX5_near_18 : decode cX5_near 18 = .ok (.ireturn, 1) := by decide +kernel
theorem dX5_near_19 : decode cX5_near 19 = .ok (.aload_n 0, 1) := by decide +kernel
theorem dX5_near_20 : decode cX5_near 20 = .ok (.iload_n 1, 1) := by decide +kernel
theorem dX5_near_21 : decode cX5_near 21 = .ok (.invokevirtual 282, 3) := by decide +kernel
theorem dX5_near_24 : decode cX5_near 24 = .ok (.istore_n 2, 1) := by decide +kernel
theorem dX5_near_25 : decode cX5_near 25 = .ok (.iload_n 2, 1) := by decide +kernel
theorem dX5_near_26 : decode cX5_near 26 = .ok (.ifCond .ge 8, 3) := by decide +kernel
theorem dX5_near_29 : decode cX5_near 29 = .ok (.bipush (-9), 2) := by decide +kernel
theorem dX5_near_31 : decode cX5_near 31 = .ok (.goto 17, 3) := by decide +kernel
theorem dX5_near_34 : decode cX5_near 34 = .ok (.iload_n 2, 1) := by decide +kernel
theorem dX5_near_35 : decode cX5_near 35 = .ok (.iload_n 1, 1) := by decide +kernel
theorem dX5_near_36 : decode cX5_near 36 = .ok (.if_icmp .le 9, 3) := by decide +kernel
theorem dX5_near_39 : decode cX5_near 39 = .ok (.iload_n 2, 1) := by decide +kernel
theorem dX5_near_40 : decode cX5_near 40 = .ok (.iload_n 1, 1) := by decide +kernel
theorem dX5_near_41 : decode cX5_near 41 = .ok (.isub, 1) := by decide +kernel
theorem dX5_near_42 : decode cX5_near 42 = .ok (.goto 6, 3) := by decide +kernel
theorem dX5_near_45 : decode cX5_near 45 = .ok (.iload_n 1, 1) := by decide +kernel
theorem dX5_near_46 : decode cX5_near 46 = .ok (.iload_n 2, 1) := by decide +kernel
theorem dX5_near_47 : decode cX5_near 47 = .ok (.isub, 1) := by decide +kernel
theorem dX5_near_48 : decode cX5_near 48 = .ok (.ireturn, 1) := by decide +kernel
theorem dX5_rescue_0 : decode cX5_rescue 0 = .ok (.aload_n 0, 1) := by decide +kernel
theorem dX5_rescue_1 : decode cX5_rescue 1 = .ok (.iconst 0, 1) := by decide +kernel
theorem dX5_rescue_2 : decode cX5_rescue 2 = .ok (.putfield 92, 3) := by decide +kernel
theorem dX5_rescue_5 : decode cX5_rescue 5 = .ok (.aload_n 0, 1) := by decide +kernel
theorem dX5_rescue_6 : decode cX5_rescue 6 = .ok (.iload_n 1, 1) := by decide +kernel
theorem dX5_rescue_7 : decode cX5_rescue 7 = .ok (.invokevirtual 192, 3) := by decide +kernel
theorem dX5_rescue_10 : decode cX5_rescue 10 = .ok (.ifCond .ne 7, 3) := by decide +kernel
theorem dX5_rescue_13 : decode cX5_rescue 13 = .ok (.iconst (-1), 1) := by decide +kernel
theorem dX5_rescue_14 : decode cX5_rescue 14 = .ok (.goto 28, 3) := by decide +kernel
theorem dX5_rescue_17 : decode cX5_rescue 17 = .ok (.aload_n 0, 1) := by decide +kernel
theorem dX5_rescue_18 : decode cX5_rescue 18 = .ok (.getfield 38, 3) := by decide +kernel
theorem dX5_rescue_21 : decode cX5_rescue 21 = .ok (.iload_n 1, 1) := by decide +kernel
theorem dX5_rescue_22 : decode cX5_rescue 22 = .ok (.iaload, 1) := by decide +kernel
theorem dX5_rescue_23 : decode cX5_rescue 23 = .ok (.ifCond .lt 13, 3) := by decide +kernel
theorem dX5_rescue_26 : decode cX5_rescue 26 = .ok (.aload_n 0, 1) := by decide +kernel
theorem dX5_rescue_27 : decode cX5_rescue 27 = .ok (.getfield 44, 3) := by decide +kernel
theorem dX5_rescue_30 : decode cX5_rescue 30 = .ok (.iload_n 1, 1) := by decide +kernel
theorem dX5_rescue_31 : decode cX5_rescue 31 = .ok (.iaload, 1) := by decide +kernel
theorem dX5_rescue_32 : decode cX5_rescue 32 = .ok (.iconst 1, 1) := by decide +kernel
theorem dX5_rescue_33 : decode cX5_rescue 33 = .ok (.if_icmp .ne 8, 3) := by decide +kernel
theorem dX5_rescue_36 : decode cX5_rescue 36 = .ok (.bipush (-3), 2) := by decide +kernel
theorem dX5_rescue_38 : decode cX5_rescue 38 = .ok (.goto 4, 3) := by decide +kernel
theorem dX5_rescue_41 : decode cX5_rescue 41 = .ok (.iconst 0, 1) := by decide +kernel
theorem dX5_rescue_42 : decode cX5_rescue 42 = .ok (.istore_n 2, 1) := by decide +kernel
theorem dX5_rescue_43 : decode cX5_rescue 43 = .ok (.iload_n 2, 1) := by decide +kernel
theorem dX5_rescue_44 : decode cX5_rescue 44 = .ok (.ifCond .ge 11, 3) := by decide +kernel
theorem dX5_rescue_47 : decode cX5_rescue 47 = .ok (.aload_n 0, 1) := by decide +kernel
theorem dX5_rescue_48 : decode cX5_rescue 48 = .ok (.iload_n 2, 1) := by decide +kernel
theorem dX5_rescue_49 : decode cX5_rescue 49 = .ok (.invokevirtual 139, 3) := by decide +kernel
theorem dX5_rescue_52 : decode cX5_rescue 52 = .ok (.goto 13, 3) := by decide +kernel
theorem dX5_rescue_55 : decode cX5_rescue 55 = .ok (.aload_n 0, 1) := by decide +kernel
theorem dX5_rescue_56 : decode cX5_rescue 56 = .ok (.aload_n 0, 1) := by decide +kernel
theorem dX5_rescue_57 : decode cX5_rescue 57 = .ok (.getfield 38, 3) := by decide +kernel
theorem dX5_rescue_60 : decode cX5_rescue 60 = .ok (.iload_n 1, 1) := by decide +kernel
theorem dX5_rescue_61 : decode cX5_rescue 61 = .ok (.iaload, 1) := by decide +kernel
theorem dX5_rescue_62 : decode cX5_rescue 62 = .ok (.invokevirtual 282, 3) := by decide +kernel
theorem dX5_rescue_65 : decode cX5_rescue 65 = .ok (.ireturn, 1) := by decide +kernel
theorem dX5_leastOfFew_0 : decode cX5_leastOfFew 0 = .ok (.bipush 99, 2) := by decide +kernel
theorem dX5_leastOfFew_2 : decode cX5_leastOfFew 2 = .ok (.istore 4, 2) := by decide +kernel
theorem dX5_leastOfFew_4 : decode cX5_leastOfFew 4 = .ok (.iconst 0, 1) := by decide +kernel
theorem dX5_leastOfFew_5 : decode cX5_leastOfFew 5 = .ok (.istore 5, 2) := by decide +kernel
theorem dX5_leastOfFew_7 : decode cX5_leastOfFew 7 = .ok (.iload 5, 2) := by decide +kernel
theorem dX5_leastOfFew_9 : decode cX5_leastOfFew 9 = .ok (.iload_n 3, 1) := by decide +kernel
theorem dX5_leastOfFew_10 : decode cX5_leastOfFew 10 = .ok (.if_icmp .ge 86, 3) := by decide +kernel
theorem dX5_leastOfFew_13 : decode cX5_leastOfFew 13 = .ok (.aload_n 0, 1) := by decide +kernel
theorem dX5_leastOfFew_14 : decode cX5_leastOfFew 14 = .ok (.getfield 20, 3) := by decide +kernel
theorem dX5_leastOfFew_17 : decode cX5_leastOfFew 17 = .ok (.iload 5, 2) := by decide +kernel
theorem dX5_leastOfFew_19 : decode cX5_leastOfFew 19 = .ok (.iaload, 1) := by decide +kernel
theorem dX5_leastOfFew_20 : decode cX5_leastOfFew 20 = .ok (.istore 6, 2) := by decide +kernel
theorem dX5_leastOfFew_22 : decode cX5_leastOfFew 22 = .ok (.iload_n 1, 1) := by decide +kernel
theorem dX5_leastOfFew_23 : decode cX5_leastOfFew 23 = .ok (.iload_n 2, 1) := by decide +kernel
theorem dX5_leastOfFew_24 : decode cX5_leastOfFew 24 = .ok (.if_icmp .eq 20, 3) := by decide +kernel
theorem dX5_leastOfFew_27 : decode cX5_leastOfFew 27 = .ok (.iload 5, 2) := by decide +kernel
theorem dX5_leastOfFew_29 : decode cX5_leastOfFew 29 = .ok (.iload_n 1, 1) := by decide +kernel
theorem dX5_leastOfFew_30 : decode cX5_leastOfFew 30 = .ok (.if_icmp .ne 14, 3) := by decide +kernel
theorem dX5_leastOfFew_33 : decode cX5_leastOfFew 33 = .ok (.iload 6, 2) := by decide +kernel
theorem dX5_leastOfFew_35 : decode cX5_leastOfFew 35 = .ok (.bipush 10, 2) := by decide +kernel
theorem dX5_leastOfFew_37 : decode cX5_leastOfFew 37 = .ok (.iadd, 1) := by decide +kernel
theorem dX5_leastOfFew_38 : decode cX5_leastOfFew 38 = .ok (.invokestatic 117, 3) := by decide +kernel
theorem dX5_leastOfFew_41 : decode cX5_leastOfFew 41 = .ok (.goto 5, 3) := by decide +kernel
theorem dX5_leastOfFew_44 : decode cX5_leastOfFew 44 = .ok (.iload 6, 2) := by decide +kernel
theorem dX5_leastOfFew_46 : decode cX5_leastOfFew 46 = .ok (.istore 6, 2) := by decide +kernel
theorem dX5_leastOfFew_48 : decode cX5_leastOfFew 48 = .ok (.iload_n 1, 1) := by decide +kernel
theorem dX5_leastOfFew_49 : decode cX5_leastOfFew 49 = .ok (.iload_n 2, 1) := by decide +kernel
theorem dX5_leastOfFew_50 : decode cX5_leastOfFew 50 = .ok (.if_icmp .eq 20, 3) := by decide +kernel
theorem dX5_leastOfFew_53 : decode cX5_leastOfFew 53 = .ok (.iload 5, 2) := by decide +kernel
theorem dX5_leastOfFew_55 : decode cX5_leastOfFew 55 = .ok (.iload_n 2, 1) := by decide +kernel
theorem dX5_leastOfFew_56 : decode cX5_leastOfFew 56 = .ok (.if_icmp .ne 14, 3) := by decide +kernel
theorem dX5_leastOfFew_59 : decode cX5_leastOfFew 59 = .ok (.iload 6, 2) := by decide +kernel
theorem dX5_leastOfFew_61 : decode cX5_leastOfFew 61 = .ok (.bipush 10, 2) := by decide +kernel
theorem dX5_leastOfFew_63 : decode cX5_leastOfFew 63 = .ok (.isub, 1) := by decide +kernel
theorem dX5_leastOfFew_64 : decode cX5_leastOfFew 64 = .ok (.invokestatic 117, 3) := by decide +kernel
theorem dX5_leastOfFew_67 : decode cX5_leastOfFew 67 = .ok (.goto 5, 3) := by decide +kernel
theorem dX5_leastOfFew_70 : decode cX5_leastOfFew 70 = .ok (.iload 6, 2) := by decide +kernel
theorem dX5_leastOfFew_72 : decode cX5_leastOfFew 72 = .ok (.istore 6, 2) := by decide +kernel
theorem dX5_leastOfFew_74 : decode cX5_leastOfFew 74 = .ok (.iload 6, 2) := by decide +kernel
theorem dX5_leastOfFew_76 : decode cX5_leastOfFew 76 = .ok (.iload 4, 2) := by decide +kernel
theorem dX5_leastOfFew_78 : decode cX5_leastOfFew 78 = .ok (.if_icmp .ge 8, 3) := by decide +kernel
theorem dX5_leastOfFew_81 : decode cX5_leastOfFew 81 = .ok (.iload 6, 2) := by decide +kernel
theorem dX5_leastOfFew_83 : decode cX5_leastOfFew 83 = .ok (.goto 5, 3) := by decide +kernel
theorem dX5_leastOfFew_86 : decode cX5_leastOfFew 86 = .ok (.iload 4, 2) := by decide +kernel
theorem dX5_leastOfFew_88 : decode cX5_leastOfFew 88 = .ok (.istore 4, 2) := by decide +kernel
theorem dX5_leastOfFew_90 : decode cX5_leastOfFew 90 = .ok (.iinc 5 1, 3) := by decide +kernel
theorem dX5_leastOfFew_93 : decode cX5_leastOfFew 93 = .ok (.goto (-86), 3) := by decide +kernel
theorem dX5_leastOfFew_96 : decode cX5_leastOfFew 96 = .ok (.iload 4, 2) := by decide +kernel
theorem dX5_leastOfFew_98 : decode cX5_leastOfFew 98 = .ok (.ireturn, 1) := by decide +kernel
theorem dX5_march_0 : decode cX5_march 0 = .ok (.aload_n 0, 1) := by decide +kernel
theorem dX5_march_1 : decode cX5_march 1 = .ok (.iconst 0, 1) := by decide +kernel
theorem dX5_march_2 : decode cX5_march 2 = .ok (.putfield 92, 3) := by decide +kernel
theorem dX5_march_5 : decode cX5_march 5 = .ok (.iload_n 1, 1) := by decide +kernel
theorem dX5_march_6 : decode cX5_march 6 = .ok (.i2l, 1) := by decide +kernel
theorem dX5_march_7 : decode cX5_march 7 = .ok (.lconst 0, 1) := by decide +kernel
theorem dX5_march_8 : decode cX5_march 8 = .ok (.ldc2_w 174, 3) := by decide +kernel
theorem dX5_march_11 : decode cX5_march 11 = .ok (.invokestatic 95, 3) := by decide +kernel
theorem dX5_march_14 : decode cX5_march 14 = .ok (.ifCond .ne 10, 3) := by decide +kernel
theorem dX5_march_17 : decode cX5_march 17 = .ok (.aload_n 0, 1) := by decide +kernel
theorem dX5_march_18 : decode cX5_march 18 = .ok (.bipush (-2), 2) := by decide +kernel
theorem dX5_march_20 : decode cX5_march 20 = .ok (.invokevirtual 139, 3) := by decide +kernel
theorem dX5_march_23 : decode cX5_march 23 = .ok (.ireturn, 1) := by decide +kernel
theorem dX5_march_24 : decode cX5_march 24 = .ok (.aload_n 0, 1) := by decide +kernel
theorem dX5_march_25 : decode cX5_march 25 = .ok (.getfield 7, 3) := by decide +kernel
theorem dX5_march_28 : decode cX5_march 28 = .ok (.iconst 5, 1) := by decide +kernel
theorem dX5_march_29 : decode cX5_march 29 = .ok (.if_icmp .ge 10, 3) := by decide +kernel
theorem dX5_march_32 : decode cX5_march 32 = .ok (.aload_n 0, 1) := by decide +kernel
theorem dX5_march_33 : decode cX5_march 33 = .ok (.getfield 7, 3) := by decide +kernel
theorem dX5_march_36 : decode cX5_march 36 = .ok (.goto 4, 3) := by decide +kernel
theorem dX5_march_39 : decode cX5_march 39 = .ok (.iconst 5, 1) := by decide +kernel
theorem dX5_march_40 : decode cX5_march 40 = .ok (.istore_n 2, 1) := by decide +kernel
theorem dX5_march_41 : decode cX5_march 41 = .ok (.iconst 0, 1) := by decide +kernel
theorem dX5_march_42 : decode cX5_march 42 = .ok (.istore_n 3, 1) := by decide +kernel
theorem dX5_march_43 : decode cX5_march 43 = .ok (.iconst (-1), 1) := by decide +kernel
theorem dX5_march_44 : decode cX5_march 44 = .ok (.istore 4, 2) := by decide +kernel
theorem dX5_march_46 : decode cX5_march 46 = .ok (.sipush 999, 3) := by decide +kernel
theorem dX5_march_49 : decode cX5_march 49 = .ok (.istore 5, 2) := by decide +kernel
theorem dX5_march_51 : decode cX5_march 51 = .ok (.iconst 0, 1) := by decide +kernel
theorem dX5_march_52 : decode cX5_march 52 = .ok (.istore 6, 2) := by decide +kernel
theorem dX5_march_54 : decode cX5_march 54 = .ok (.iload 6, 2) := by decide +kernel
theorem dX5_march_56 : decode cX5_march 56 = .ok (.iload_n 2, 1) := by decide +kernel
theorem dX5_march_57 : decode cX5_march 57 = .ok (.if_icmp .ge 132, 3) := by decide +kernel
theorem dX5_march_60 : decode cX5_march 60 = .ok (.sipush 999, 3) := by decide +kernel
theorem dX5_march_63 : decode cX5_march 63 = .ok (.istore 7, 2) := by decide +kernel
theorem dX5_march_65 : decode cX5_march 65 = .ok (.iconst (-1), 1) := by decide +kernel
theorem dX5_march_66 : decode cX5_march 66 = .ok (.istore 8, 2) := by decide +kernel
theorem dX5_march_68 : decode cX5_march 68 = .ok (.iconst 0, 1) := by decide +kernel
theorem dX5_march_69 : decode cX5_march 69 = .ok (.istore 9, 2) := by decide +kernel
theorem dX5_march_71 : decode cX5_march 71 = .ok (.iload 9, 2) := by decide +kernel
theorem dX5_march_73 : decode cX5_march 73 = .ok (.iload_n 2, 1) := by decide +kernel
theorem dX5_march_74 : decode cX5_march 74 = .ok (.if_icmp .ge 63, 3) := by decide +kernel
theorem dX5_march_77 : decode cX5_march 77 = .ok (.aload_n 0, 1) := by decide +kernel
theorem dX5_march_78 : decode cX5_march 78 = .ok (.iload 6, 2) := by decide +kernel
theorem dX5_march_80 : decode cX5_march 80 = .ok (.iload 9, 2) := by decide +kernel
theorem dX5_march_82 : decode cX5_march 82 = .ok (.iload_n 2, 1) := by decide +kernel
theorem dX5_march_83 : decode cX5_march 83 = .ok (.invokevirtual 285, 3) := by decide +kernel
theorem dX5_march_86 : decode cX5_march 86 = .ok (.istore 10, 2) := by decide +kernel
theorem dX5_march_88 : decode cX5_march 88 = .ok (.aload_n 0, 1) := by decide +kernel
theorem dX5_march_89 : decode cX5_march 89 = .ok (.iload 9, 2) := by decide +kernel
theorem dX5_march_91 : decode cX5_march 91 = .ok (.iload 6, 2) := by decide +kernel
theorem dX5_march_93 : decode cX5_march 93 = .ok (.iload_n 2, 1) := by decide +kernel
theorem dX5_march_94 : decode cX5_march 94 = .ok (.invokevirtual 285, 3) := by decide +kernel
theorem dX5_march_97 : decode cX5_march 97 = .ok (.istore 11, 2) := by decide +kernel
theorem dX5_march_99 : decode cX5_march 99 = .ok (.iload 10, 2) := by decide +kernel
theorem dX5_march_101 : decode cX5_march 101 = .ok (.iload 7, 2) := by decide +kernel
theorem dX5_march_103 : decode cX5_march 103 = .ok (.if_icmp .ge 8, 3) := by decide +kernel
theorem dX5_march_106 : decode cX5_march 106 = .ok (.iload 10, 2) := by decide +kernel
theorem dX5_march_108 : decode cX5_march 108 = .ok (.goto 5, 3) := by decide +kernel
theorem dX5_march_111 : decode cX5_march 111 = .ok (.iload 7, 2) := by decide +kernel
theorem dX5_march_113 : decode cX5_march 113 = .ok (.istore 7, 2) := by decide +kernel
theorem dX5_march_115 : decode cX5_march 115 = .ok (.iload 11, 2) := by decide +kernel
theorem dX5_march_117 : decode cX5_march 117 = .ok (.iload 8, 2) := by decide +kernel
theorem dX5_march_119 : decode cX5_march 119 = .ok (.if_icmp .le 8, 3) := by decide +kernel
theorem dX5_march_122 : decode cX5_march 122 = .ok (.iload 11, 2) := by decide +kernel
theorem dX5_march_124 : decode cX5_march 124 = .ok (.goto 5, 3) := by decide +kernel
theorem dX5_march_127 : decode cX5_march 127 = .ok (.iload 8, 2) := by decide +kernel
theorem dX5_march_129 : decode cX5_march 129 = .ok (.istore 8, 2) := by decide +kernel
theorem dX5_march_131 : decode cX5_march 131 = .ok (.iinc 9 1, 3) := by decide +kernel
theorem dX5_march_134 : decode cX5_march 134 = .ok (.goto (-63), 3) := by decide +kernel
theorem dX5_march_137 : decode cX5_march 137 = .ok (.iload 7, 2) := by decide +kernel
theorem dX5_march_139 : decode cX5_march 139 = .ok (.iload 4, 2) := by decide +kernel
theorem dX5_march_141 : decode cX5_march 141 = .ok (.if_icmp .le 8, 3) := by decide +kernel
theorem dX5_march_144 : decode cX5_march 144 = .ok (.iload 6, 2) := by decide +kernel
theorem dX5_march_146 : decode cX5_march 146 = .ok (.goto 4, 3) := by decide +kernel
theorem dX5_march_149 : decode cX5_march 149 = .ok (.iload_n 3, 1) := by decide +kernel
theorem dX5_march_150 : decode cX5_march 150 = .ok (.istore_n 3, 1) := by decide +kernel
theorem dX5_march_151 : decode cX5_march 151 = .ok (.iload 7, 2) := by decide +kernel
theorem dX5_march_153 : decode cX5_march 153 = .ok (.iload 4, 2) := by decide +kernel
theorem dX5_march_155 : decode cX5_march 155 = .ok (.if_icmp .le 8, 3) := by decide +kernel
theorem dX5_march_158 : decode cX5_march 158 = .ok (.iload 7, 2) := by decide +kernel
theorem dX5_march_160 : decode cX5_march 160 = .ok (.goto 5, 3) := by decide +kernel
theorem dX5_march_163 : decode cX5_march 163 = .ok (.iload 4, 2) := by decide +kernel
theorem dX5_march_165 : decode cX5_march 165 = .ok (.istore 4, 2) := by decide +kernel
theorem dX5_march_167 : decode cX5_march 167 = .ok (.iload 8, 2) := by decide +kernel
theorem dX5_march_169 : decode cX5_march 169 = .ok (.iload 5, 2) := by decide +kernel
theorem dX5_march_171 : decode cX5_march 171 = .ok (.if_icmp .ge 8, 3) := by decide +kernel
theorem dX5_march_174 : decode cX5_march 174 = .ok (.iload 8, 2) := by decide +kernel
theorem dX5_march_176 : decode cX5_march 176 = .ok (.goto 5, 3) := by decide +kernel
theorem dX5_march_179 : decode cX5_march 179 = .ok (.iload 5, 2) := by decide +kernel
theorem dX5_march_181 : decode cX5_march 181 = .ok (.istore 5, 2) := by decide +kernel
theorem dX5_march_183 : decode cX5_march 183 = .ok (.iinc 6 1, 3) := by decide +kernel
theorem dX5_march_186 : decode cX5_march 186 = .ok (.goto (-132), 3) := by decide +kernel
theorem dX5_march_189 : decode cX5_march 189 = .ok (.iload_n 1, 1) := by decide +kernel
theorem dX5_march_190 : decode cX5_march 190 = .ok (.ifCond .ne 8, 3) := by decide +kernel
theorem dX5_march_193 : decode cX5_march 193 = .ok (.iload 4, 2) := by decide +kernel
theorem dX5_march_195 : decode cX5_march 195 = .ok (.goto 14, 3) := by decide +kernel
theorem dX5_march_198 : decode cX5_march 198 = .ok (.iload_n 1, 1) := by decide +kernel
theorem dX5_march_199 : decode cX5_march 199 = .ok (.iconst 1, 1) := by decide +kernel
theorem dX5_march_200 : decode cX5_march 200 = .ok (.if_icmp .ne 7, 3) := by decide +kernel
theorem dX5_march_203 : decode cX5_march 203 = .ok (.iload_n 3, 1) := by decide +kernel
theorem dX5_march_204 : decode cX5_march 204 = .ok (.goto 5, 3) := by decide +kernel
theorem dX5_march_207 : decode cX5_march 207 = .ok (.iload 5, 2) := by decide +kernel
theorem dX5_march_209 : decode cX5_march 209 = .ok (.ireturn, 1) := by decide +kernel
theorem dX5_divisor_0 : decode cX5_divisor 0 = .ok (.lload_n 0, 1) := by decide +kernel
theorem dX5_divisor_1 : decode cX5_divisor 1 = .ok (.lstore 4, 2) := by decide +kernel
theorem dX5_divisor_3 : decode cX5_divisor 3 = .ok (.lload_n 2, 1) := by decide +kernel
theorem dX5_divisor_4 : decode cX5_divisor 4 = .ok (.lstore 6, 2) := by decide +kernel
theorem dX5_divisor_6 : decode cX5_divisor 6 = .ok (.lload 6, 2) := by decide +kernel
theorem dX5_divisor_8 : decode cX5_divisor 8 = .ok (.lconst 0, 1) := by decide +kernel
theorem dX5_divisor_9 : decode cX5_divisor 9 = .ok (.lcmp, 1) := by decide +kernel
theorem dX5_divisor_10 : decode cX5_divisor 10 = .ok (.ifCond .eq 21, 3) := by decide +kernel
theorem dX5_divisor_13 : decode cX5_divisor 13 = .ok (.lload 4, 2) := by decide +kernel
theorem dX5_divisor_15 : decode cX5_divisor 15 = .ok (.lload 6, 2) := by decide +kernel
theorem dX5_divisor_17 : decode cX5_divisor 17 = .ok (.lrem, 1) := by decide +kernel
theorem dX5_divisor_18 : decode cX5_divisor 18 = .ok (.lstore 8, 2) := by decide +kernel
theorem dX5_divisor_20 : decode cX5_divisor 20 = .ok (.lload 6, 2) := by decide +kernel
theorem dX5_divisor_22 : decode cX5_divisor 22 = .ok (.lstore 4, 2) := by decide +kernel
theorem dX5_divisor_24 : decode cX5_divisor 24 = .ok (.lload 8, 2) := by decide +kernel
theorem dX5_divisor_26 : decode cX5_divisor 26 = .ok (.lstore 6, 2) := by decide +kernel
theorem dX5_divisor_28 : decode cX5_divisor 28 = .ok (.goto (-22), 3) := by decide +kernel
theorem dX5_divisor_31 : decode cX5_divisor 31 = .ok (.lload 4, 2) := by decide +kernel
theorem dX5_divisor_33 : decode cX5_divisor 33 = .ok (.lreturn, 1) := by decide +kernel
theorem dX5_noons_0 : decode cX5_noons 0 = .ok (.aload_n 0, 1) := by decide +kernel
theorem dX5_noons_1 : decode cX5_noons 1 = .ok (.iconst 0, 1) := by decide +kernel
theorem dX5_noons_2 : decode cX5_noons 2 = .ok (.putfield 92, 3) := by decide +kernel
theorem dX5_noons_5 : decode cX5_noons 5 = .ok (.aload_n 0, 1) := by decide +kernel
theorem dX5_noons_6 : decode cX5_noons 6 = .ok (.iload_n 1, 1) := by decide +kernel
theorem dX5_noons_7 : decode cX5_noons 7 = .ok (.invokevirtual 192, 3) := by decide +kernel
theorem dX5_noons_10 : decode cX5_noons 10 = .ok (.ifCond .eq 12, 3) := by decide +kernel
theorem dX5_noons_13 : decode cX5_noons 13 = .ok (.iconst 0, 1) := by decide +kernel
theorem dX5_noons_14 : decode cX5_noons 14 = .ok (.iload_n 2, 1) := by decide +kernel
theorem dX5_noons_15 : decode cX5_noons 15 = .ok (.iconst 1, 1) := by decide +kernel
theorem dX5_noons_16 : decode cX5_noons 16 = .ok (.invokestatic 246, 3) := by decide +kernel
theorem dX5_noons_19 : decode cX5_noons 19 = .ok (.goto 4, 3) := by decide +kernel
theorem dX5_noons_22 : decode cX5_noons 22 = .ok (.iconst (-1), 1) := by decide +kernel
theorem dX5_noons_23 : decode cX5_noons 23 = .ok (.istore_n 3, 1) := by decide +kernel
theorem dX5_noons_24 : decode cX5_noons 24 = .ok (.iload_n 3, 1) := by decide +kernel
theorem dX5_noons_25 : decode cX5_noons 25 = .ok (.ifCond .ge 14, 3) := by decide +kernel
theorem dX5_noons_28 : decode cX5_noons 28 = .ok (.ldc2_w 288, 3) := by decide +kernel
theorem dX5_noons_31 : decode cX5_noons 31 = .ok (.aload_n 0, 1) := by decide +kernel
theorem dX5_noons_32 : decode cX5_noons 32 = .ok (.iload_n 3, 1) := by decide +kernel
theorem dX5_noons_33 : decode cX5_noons 33 = .ok (.invokevirtual 139, 3) := by decide +kernel
theorem dX5_noons_36 : decode cX5_noons 36 = .ok (.i2l, 1) := by decide +kernel
theorem dX5_noons_37 : decode cX5_noons 37 = .ok (.lsub, 1) := by decide +kernel
theorem dX5_noons_38 : decode cX5_noons 38 = .ok (.lreturn, 1) := by decide +kernel
theorem dX5_noons_39 : decode cX5_noons 39 = .ok (.lconst 0, 1) := by decide +kernel
theorem dX5_noons_40 : decode cX5_noons 40 = .ok (.lstore 4, 2) := by decide +kernel
theorem dX5_noons_42 : decode cX5_noons 42 = .ok (.aload_n 0, 1) := by decide +kernel
theorem dX5_noons_43 : decode cX5_noons 43 = .ok (.invokevirtual 203, 3) := by decide +kernel
theorem dX5_noons_46 : decode cX5_noons 46 = .ok (.iconst 0, 1) := by decide +kernel
theorem dX5_noons_47 : decode cX5_noons 47 = .ok (.istore 6, 2) := by decide +kernel
theorem dX5_noons_49 : decode cX5_noons 49 = .ok (.iload 6, 2) := by decide +kernel
theorem dX5_noons_51 : decode cX5_noons 51 = .ok (.bipush 10, 2) := by decide +kernel
theorem dX5_noons_53 : decode cX5_noons 53 = .ok (.if_icmp .ge 35, 3) := by decide +kernel
theorem dX5_noons_56 : decode cX5_noons 56 = .ok (.aload_n 0, 1) := by decide +kernel
theorem dX5_noons_57 : decode cX5_noons 57 = .ok (.iload 6, 2) := by decide +kernel
theorem dX5_noons_59 : decode cX5_noons 59 = .ok (.putfield 26, 3) := by decide +kernel
theorem dX5_noons_62 : decode cX5_noons 62 = .ok (.lload 4, 2) := by decide +kernel
theorem dX5_noons_64 : decode cX5_noons 64 = .ok (.aload_n 0, 1) := by decide +kernel
theorem dX5_noons_65 : decode cX5_noons 65 = .ok (.iload_n 1, 1) := by decide +kernel
theorem dX5_noons_66 : decode cX5_noons 66 = .ok (.invokevirtual 252, 3) := by decide +kernel
theorem dX5_noons_69 : decode cX5_noons 69 = .ok (.bipush 99, 2) := by decide +kernel
theorem dX5_noons_71 : decode cX5_noons 71 = .ok (.if_icmp .ge 7, 3) := by decide +kernel
theorem dX5_noons_74 : decode cX5_noons 74 = .ok (.lconst 1, 1) := by decide +kernel
theorem dX5_noons_75 : decode cX5_noons 75 = .ok (.goto 4, 3) := by decide +kernel
theorem dX5_noons_78 : decode cX5_noons 78 = .ok (.lconst 0, 1) := by decide +kernel
theorem dX5_noons_79 : decode cX5_noons 79 = .ok (.ladd, 1) := by decide +kernel
theorem dX5_noons_80 : decode cX5_noons 80 = .ok (.lstore 4, 2) := by decide +kernel
theorem dX5_noons_82 : decode cX5_noons 82 = .ok (.iinc 6 1, 3) := by decide +kernel
theorem dX5_noons_85 : decode cX5_noons 85 = .ok (.goto (-36), 3) := by decide +kernel
theorem dX5_noons_88 : decode cX5_noons 88 = .ok (.lload 4, 2) := by decide +kernel
theorem dX5_noons_90 : decode cX5_noons 90 = .ok (.lconst 0, 1) := by decide +kernel
theorem dX5_noons_91 : decode cX5_noons 91 = .ok (.lcmp, 1) := by decide +kernel
theorem dX5_noons_92 : decode cX5_noons 92 = .ok (.ifCond .ne 6, 3) := by decide +kernel
theorem dX5_noons_95 : decode cX5_noons 95 = .ok (.iload_n 2, 1) := by decide +kernel
theorem dX5_noons_96 : decode cX5_noons 96 = .ok (.i2l, 1) := by decide +kernel
theorem dX5_noons_97 : decode cX5_noons 97 = .ok (.lreturn, 1) := by decide +kernel
theorem dX5_noons_98 : decode cX5_noons 98 = .ok (.lload 4, 2) := by decide +kernel
theorem dX5_noons_100 : decode cX5_noons 100 = .ok (.ldc2_w 290, 3) := by decide +kernel
theorem dX5_noons_103 : decode cX5_noons 103 = .ok (.invokestatic 292, 3) := by decide +kernel
theorem dX5_noons_106 : decode cX5_noons 106 = .ok (.lstore 6, 2) := by decide +kernel
theorem dX5_noons_108 : decode cX5_noons 108 = .ok (.iload_n 2, 1) := by decide +kernel
theorem dX5_noons_109 : decode cX5_noons 109 = .ok (.ifCond .ne 11, 3) := by decide +kernel
theorem dX5_noons_112 : decode cX5_noons 112 = .ok (.lload 4, 2) := by decide +kernel
theorem dX5_noons_114 : decode cX5_noons 114 = .ok (.lload 6, 2) := by decide +kernel
theorem dX5_noons_116 : decode cX5_noons 116 = .ok (.ldiv, 1) := by decide +kernel
theorem dX5_noons_117 : decode cX5_noons 117 = .ok (.goto 9, 3) := by decide +kernel
theorem dX5_noons_120 : decode cX5_noons 120 = .ok (.ldc2_w 290, 3) := by decide +kernel
theorem dX5_noons_123 : decode cX5_noons 123 = .ok (.lload 6, 2) := by decide +kernel
theorem dX5_noons_125 : decode cX5_noons 125 = .ok (.ldiv, 1) := by decide +kernel
theorem dX5_noons_126 : decode cX5_noons 126 = .ok (.lreturn, 1) := by decide +kernel
theorem dX5_thaw_0 : decode cX5_thaw 0 = .ok (.aload_n 0, 1) := by decide +kernel
theorem dX5_thaw_1 : decode cX5_thaw 1 = .ok (.iconst 0, 1) := by decide +kernel
theorem dX5_thaw_2 : decode cX5_thaw 2 = .ok (.putfield 92, 3) := by decide +kernel
theorem dX5_thaw_5 : decode cX5_thaw 5 = .ok (.bipush (-9), 2) := by decide +kernel
theorem dX5_thaw_7 : decode cX5_thaw 7 = .ok (.istore_n 1, 1) := by decide +kernel
theorem dX5_thaw_8 : decode cX5_thaw 8 = .ok (.aload_n 0, 1) := by decide +kernel
theorem dX5_thaw_9 : decode cX5_thaw 9 = .ok (.invokevirtual 203, 3) := by decide +kernel
theorem dX5_thaw_12 : decode cX5_thaw 12 = .ok (.iconst 0, 1) := by decide +kernel
theorem dX5_thaw_13 : decode cX5_thaw 13 = .ok (.istore_n 2, 1) := by decide +kernel
theorem dX5_thaw_14 : decode cX5_thaw 14 = .ok (.iload_n 2, 1) := by decide +kernel
theorem dX5_thaw_15 : decode cX5_thaw 15 = .ok (.bipush 72, 2) := by decide +kernel
theorem dX5_thaw_17 : decode cX5_thaw 17 = .ok (.if_icmp .gt 72, 3) := by decide +kernel
theorem dX5_thaw_20 : decode cX5_thaw 20 = .ok (.iload_n 1, 1) := by decide +kernel
theorem dX5_thaw_21 : decode cX5_thaw 21 = .ok (.ifCond .ge 68, 3) := by decide +kernel
theorem dX5_thaw_24 : decode cX5_thaw 24 = .ok (.iload_n 2, 1) := by decide +kernel
theorem dX5_thaw_25 : decode cX5_thaw 25 = .ok (.ifCond .le 7, 3) := by decide +kernel
theorem dX5_thaw_28 : decode cX5_thaw 28 = .ok (.aload_n 0, 1) := by decide +kernel
theorem dX5_thaw_29 : decode cX5_thaw 29 = .ok (.invokevirtual 133, 3) := by decide +kernel
theorem dX5_thaw_32 : decode cX5_thaw 32 = .ok (.iconst 0, 1) := by decide +kernel
theorem dX5_thaw_33 : decode cX5_thaw 33 = .ok (.istore_n 3, 1) := by decide +kernel
theorem dX5_thaw_34 : decode cX5_thaw 34 = .ok (.iconst 0, 1) := by decide +kernel
theorem dX5_thaw_35 : decode cX5_thaw 35 = .ok (.istore 4, 2) := by decide +kernel
theorem dX5_thaw_37 : decode cX5_thaw 37 = .ok (.iload 4, 2) := by decide +kernel
theorem dX5_thaw_39 : decode cX5_thaw 39 = .ok (.aload_n 0, 1) := by decide +kernel
theorem dX5_thaw_40 : decode cX5_thaw 40 = .ok (.getfield 7, 3) := by decide +kernel
theorem dX5_thaw_43 : decode cX5_thaw 43 = .ok (.if_icmp .ge 29, 3) := by decide +kernel
theorem dX5_thaw_46 : decode cX5_thaw 46 = .ok (.iload_n 3, 1) := by decide +kernel
theorem dX5_thaw_47 : decode cX5_thaw 47 = .ok (.ifCond .ne 13, 3) := by decide +kernel
theorem dX5_thaw_50 : decode cX5_thaw 50 = .ok (.aload_n 0, 1) := by decide +kernel
theorem dX5_thaw_51 : decode cX5_thaw 51 = .ok (.iload 4, 2) := by decide +kernel
theorem dX5_thaw_53 : decode cX5_thaw 53 = .ok (.iconst 1, 1) := by decide +kernel
theorem dX5_thaw_54 : decode cX5_thaw 54 = .ok (.invokevirtual 110, 3) := by decide +kernel
theorem dX5_thaw_57 : decode cX5_thaw 57 = .ok (.ifCond .eq 7, 3) := by decide +kernel
theorem dX5_thaw_60 : decode cX5_thaw 60 = .ok (.iconst 1, 1) := by decide +kernel
theorem dX5_thaw_61 : decode cX5_thaw 61 = .ok (.goto 4, 3) := by decide +kernel
theorem dX5_thaw_64 : decode cX5_thaw 64 = .ok (.iconst 0, 1) := by decide +kernel
theorem dX5_thaw_65 : decode cX5_thaw 65 = .ok (.istore_n 3, 1) := by decide +kernel
theorem dX5_thaw_66 : decode cX5_thaw 66 = .ok (.iinc 4 1, 3) := by decide +kernel
theorem dX5_thaw_69 : decode cX5_thaw 69 = .ok (.goto (-32), 3) := by decide +kernel
theorem dX5_thaw_72 : decode cX5_thaw 72 = .ok (.iload_n 3, 1) := by decide +kernel
theorem dX5_thaw_73 : decode cX5_thaw 73 = .ok (.ifCond .eq 8, 3) := by decide +kernel
theorem dX5_thaw_76 : decode cX5_thaw 76 = .ok (.bipush (-9), 2) := by decide +kernel
theorem dX5_thaw_78 : decode cX5_thaw 78 = .ok (.goto 4, 3) := by decide +kernel
theorem dX5_thaw_81 : decode cX5_thaw 81 = .ok (.iload_n 2, 1) := by decide +kernel
theorem dX5_thaw_82 : decode cX5_thaw 82 = .ok (.istore_n 1, 1) := by decide +kernel
theorem dX5_thaw_83 : decode cX5_thaw 83 = .ok (.iinc 2 1, 3) := by decide +kernel
theorem dX5_thaw_86 : decode cX5_thaw 86 = .ok (.goto (-72), 3) := by decide +kernel
theorem dX5_thaw_89 : decode cX5_thaw 89 = .ok (.aload_n 0, 1) := by decide +kernel
theorem dX5_thaw_90 : decode cX5_thaw 90 = .ok (.invokevirtual 209, 3) := by decide +kernel
theorem dX5_thaw_93 : decode cX5_thaw 93 = .ok (.iload_n 1, 1) := by decide +kernel
theorem dX5_thaw_94 : decode cX5_thaw 94 = .ok (.ireturn, 1) := by decide +kernel
theorem dX5_noon_0 : decode cX5_noon 0 = .ok (.aload_n 0, 1) := by decide +kernel
theorem dX5_noon_1 : decode cX5_noon 1 = .ok (.iconst 0, 1) := by decide +kernel
theorem dX5_noon_2 : decode cX5_noon 2 = .ok (.putfield 92, 3) := by decide +kernel
theorem dX5_noon_5 : decode cX5_noon 5 = .ok (.aload_n 0, 1) := by decide +kernel
theorem dX5_noon_6 : decode cX5_noon 6 = .ok (.iload_n 1, 1) := by decide +kernel
theorem dX5_noon_7 : decode cX5_noon 7 = .ok (.invokevirtual 192, 3) := by decide +kernel
theorem dX5_noon_10 : decode cX5_noon 10 = .ok (.ifCond .ne 9, 3) := by decide +kernel
theorem dX5_noon_13 : decode cX5_noon 13 = .ok (.aload_n 0, 1) := by decide +kernel
theorem dX5_noon_14 : decode cX5_noon 14 = .ok (.iconst (-1), 1) := by decide +kernel
theorem dX5_noon_15 : decode cX5_noon 15 = .ok (.invokevirtual 139, 3) := by decide +kernel
theorem dX5_noon_18 : decode cX5_noon 18 = .ok (.ireturn, 1) := by decide +kernel
theorem dX5_noon_19 : decode cX5_noon 19 = .ok (.bipush (-9), 2) := by decide +kernel
theorem dX5_noon_21 : decode cX5_noon 21 = .ok (.istore_n 2, 1) := by decide +kernel
theorem dX5_noon_22 : decode cX5_noon 22 = .ok (.aload_n 0, 1) := by decide +kernel
theorem dX5_noon_23 : decode cX5_noon 23 = .ok (.invokevirtual 203, 3) := by decide +kernel
theorem dX5_noon_26 : decode cX5_noon 26 = .ok (.iconst 0, 1) := by decide +kernel
theorem dX5_noon_27 : decode cX5_noon 27 = .ok (.istore_n 3, 1) := by decide +kernel
theorem dX5_noon_28 : decode cX5_noon 28 = .ok (.iload_n 3, 1) := by decide +kernel
theorem dX5_noon_29 : decode cX5_noon 29 = .ok (.bipush 10, 2) := by decide +kernel
theorem dX5_noon_31 : decode cX5_noon 31 = .ok (.if_icmp .ge 30, 3) := by decide +kernel
theorem dX5_noon_34 : decode cX5_noon 34 = .ok (.aload_n 0, 1) := by decide +kernel
theorem dX5_noon_35 : decode cX5_noon 35 = .ok (.iload_n 3, 1) := by decide +kernel
theorem dX5_noon_36 : decode cX5_noon 36 = .ok (.putfield 26, 3) := by decide +kernel
theorem dX5_noon_39 : decode cX5_noon 39 = .ok (.aload_n 0, 1) := by decide +kernel
theorem dX5_noon_40 : decode cX5_noon 40 = .ok (.iload_n 1, 1) := by decide +kernel
theorem dX5_noon_41 : decode cX5_noon 41 = .ok (.invokevirtual 252, 3) := by decide +kernel
theorem dX5_noon_44 : decode cX5_noon 44 = .ok (.bipush 99, 2) := by decide +kernel
theorem dX5_noon_46 : decode cX5_noon 46 = .ok (.if_icmp .ge 7, 3) := by decide +kernel
theorem dX5_noon_49 : decode cX5_noon 49 = .ok (.iload_n 3, 1) := by decide +kernel
theorem dX5_noon_50 : decode cX5_noon 50 = .ok (.goto 4, 3) := by decide +kernel
theorem dX5_noon_53 : decode cX5_noon 53 = .ok (.iload_n 2, 1) := by decide +kernel
theorem dX5_noon_54 : decode cX5_noon 54 = .ok (.istore_n 2, 1) := by decide +kernel
theorem dX5_noon_55 : decode cX5_noon 55 = .ok (.iinc 3 1, 3) := by decide +kernel
theorem dX5_noon_58 : decode cX5_noon 58 = .ok (.goto (-30), 3) := by decide +kernel
theorem dX5_noon_61 : decode cX5_noon 61 = .ok (.iload_n 2, 1) := by decide +kernel
theorem dX5_noon_62 : decode cX5_noon 62 = .ok (.ireturn, 1) := by decide +kernel
theorem dX5_needed_0 : decode cX5_needed 0 = .ok (.aload_n 0, 1) := by decide +kernel
theorem dX5_needed_1 : decode cX5_needed 1 = .ok (.iconst 0, 1) := by decide +kernel
theorem dX5_needed_2 : decode cX5_needed 2 = .ok (.putfield 92, 3) := by decide +kernel
theorem dX5_needed_5 : decode cX5_needed 5 = .ok (.aload_n 0, 1) := by decide +kernel
theorem dX5_needed_6 : decode cX5_needed 6 = .ok (.iload_n 1, 1) := by decide +kernel
theorem dX5_needed_7 : decode cX5_needed 7 = .ok (.invokevirtual 181, 3) := by decide +kernel
theorem dX5_needed_10 : decode cX5_needed 10 = .ok (.ifCond .eq 11, 3) := by decide +kernel
theorem dX5_needed_13 : decode cX5_needed 13 = .ok (.aload_n 0, 1) := by decide +kernel
theorem dX5_needed_14 : decode cX5_needed 14 = .ok (.iload_n 2, 1) := by decide +kernel
theorem dX5_needed_15 : decode cX5_needed 15 = .ok (.invokevirtual 192, 3) := by decide +kernel
theorem dX5_needed_18 : decode cX5_needed 18 = .ok (.ifCond .ne 9, 3) := by decide +kernel
theorem dX5_needed_21 : decode cX5_needed 21 = .ok (.aload_n 0, 1) := by decide +kernel
theorem dX5_needed_22 : decode cX5_needed 22 = .ok (.iconst (-1), 1) := by decide +kernel
theorem dX5_needed_23 : decode cX5_needed 23 = .ok (.invokevirtual 139, 3) := by decide +kernel
theorem dX5_needed_26 : decode cX5_needed 26 = .ok (.ireturn, 1) := by decide +kernel
theorem dX5_needed_27 : decode cX5_needed 27 = .ok (.aload_n 0, 1) := by decide +kernel
theorem dX5_needed_28 : decode cX5_needed 28 = .ok (.invokevirtual 203, 3) := by decide +kernel
theorem dX5_needed_31 : decode cX5_needed 31 = .ok (.iconst 0, 1) := by decide +kernel
theorem dX5_needed_32 : decode cX5_needed 32 = .ok (.istore_n 3, 1) := by decide +kernel
theorem dX5_needed_33 : decode cX5_needed 33 = .ok (.iload_n 3, 1) := by decide +kernel
theorem dX5_needed_34 : decode cX5_needed 34 = .ok (.bipush 99, 2) := by decide +kernel
theorem dX5_needed_36 : decode cX5_needed 36 = .ok (.if_icmp .gt 28, 3) := by decide +kernel
theorem dX5_needed_39 : decode cX5_needed 39 = .ok (.aload_n 0, 1) := by decide +kernel
theorem dX5_needed_40 : decode cX5_needed 40 = .ok (.getfield 20, 3) := by decide +kernel
theorem dX5_needed_43 : decode cX5_needed 43 = .ok (.iload_n 1, 1) := by decide +kernel
theorem dX5_needed_44 : decode cX5_needed 44 = .ok (.iload_n 3, 1) := by decide +kernel
theorem dX5_needed_45 : decode cX5_needed 45 = .ok (.iastore, 1) := by decide +kernel
theorem dX5_needed_46 : decode cX5_needed 46 = .ok (.aload_n 0, 1) := by decide +kernel
theorem dX5_needed_47 : decode cX5_needed 47 = .ok (.iload_n 2, 1) := by decide +kernel
theorem dX5_needed_48 : decode cX5_needed 48 = .ok (.invokevirtual 252, 3) := by decide +kernel
theorem dX5_needed_51 : decode cX5_needed 51 = .ok (.bipush 99, 2) := by decide +kernel
theorem dX5_needed_53 : decode cX5_needed 53 = .ok (.if_icmp .ge 5, 3) := by decide +kernel
theorem dX5_needed_56 : decode cX5_needed 56 = .ok (.iload_n 3, 1) := by decide +kernel
theorem dX5_needed_57 : decode cX5_needed 57 = .ok (.ireturn, 1) := by decide +kernel
theorem dX5_needed_58 : decode cX5_needed 58 = .ok (.iinc 3 1, 3) := by decide +kernel
theorem dX5_needed_61 : decode cX5_needed 61 = .ok (.goto (-28), 3) := by decide +kernel
theorem dX5_needed_64 : decode cX5_needed 64 = .ok (.bipush (-9), 2) := by decide +kernel
theorem dX5_needed_66 : decode cX5_needed 66 = .ok (.ireturn, 1) := by decide +kernel
theorem dX5_key_0 : decode cX5_key 0 = .ok (.aload_n 0, 1) := by decide +kernel
theorem dX5_key_1 : decode cX5_key 1 = .ok (.iconst 0, 1) := by decide +kernel
theorem dX5_key_2 : decode cX5_key 2 = .ok (.putfield 92, 3) := by decide +kernel
theorem dX5_key_5 : decode cX5_key 5 = .ok (.aload_n 0, 1) := by decide +kernel
theorem dX5_key_6 : decode cX5_key 6 = .ok (.invokevirtual 203, 3) := by decide +kernel
theorem dX5_key_9 : decode cX5_key 9 = .ok (.aload_n 0, 1) := by decide +kernel
theorem dX5_key_10 : decode cX5_key 10 = .ok (.invokevirtual 255, 3) := by decide +kernel
theorem dX5_key_13 : decode cX5_key 13 = .ok (.istore_n 1, 1) := by decide +kernel
theorem dX5_key_14 : decode cX5_key 14 = .ok (.bipush (-9), 2) := by decide +kernel
theorem dX5_key_16 : decode cX5_key 16 = .ok (.istore_n 2, 1) := by decide +kernel
theorem dX5_key_17 : decode cX5_key 17 = .ok (.iconst 0, 1) := by decide +kernel
theorem dX5_key_18 : decode cX5_key 18 = .ok (.istore_n 3, 1) := by decide +kernel
theorem dX5_key_19 : decode cX5_key 19 = .ok (.iload_n 3, 1) := by decide +kernel
theorem dX5_key_20 : decode cX5_key 20 = .ok (.aload_n 0, 1) := by decide +kernel
theorem dX5_key_21 : decode cX5_key 21 = .ok (.getfield 7, 3) := by decide +kernel
theorem dX5_key_24 : decode cX5_key 24 = .ok (.if_icmp .ge 54, 3) := by decide +kernel
theorem dX5_key_27 : decode cX5_key 27 = .ok (.aload_n 0, 1) := by decide +kernel
theorem dX5_key_28 : decode cX5_key 28 = .ok (.getfield 13, 3) := by decide +kernel
theorem dX5_key_31 : decode cX5_key 31 = .ok (.iload_n 3, 1) := by decide +kernel
theorem dX5_key_32 : decode cX5_key 32 = .ok (.iconst 0, 1) := by decide +kernel
theorem dX5_key_33 : decode cX5_key 33 = .ok (.iastore, 1) := by decide +kernel
theorem dX5_key_34 : decode cX5_key 34 = .ok (.aload_n 0, 1) := by decide +kernel
theorem dX5_key_35 : decode cX5_key 35 = .ok (.getfield 17, 3) := by decide +kernel
theorem dX5_key_38 : decode cX5_key 38 = .ok (.iload_n 3, 1) := by decide +kernel
theorem dX5_key_39 : decode cX5_key 39 = .ok (.iconst 0, 1) := by decide +kernel
theorem dX5_key_40 : decode cX5_key 40 = .ok (.iastore, 1) := by decide +kernel
theorem dX5_key_41 : decode cX5_key 41 = .ok (.aload_n 0, 1) := by decide +kernel
theorem dX5_key_42 : decode cX5_key 42 = .ok (.invokevirtual 255, 3) := by decide +kernel
theorem dX5_key_45 : decode cX5_key 45 = .ok (.istore 4, 2) := by decide +kernel
theorem dX5_key_47 : decode cX5_key 47 = .ok (.iload 4, 2) := by decide +kernel
theorem dX5_key_49 : decode cX5_key 49 = .ok (.iload_n 1, 1) := by decide +kernel
theorem dX5_key_50 : decode cX5_key 50 = .ok (.if_icmp .le 7, 3) := by decide +kernel
theorem dX5_key_53 : decode cX5_key 53 = .ok (.iload_n 3, 1) := by decide +kernel
theorem dX5_key_54 : decode cX5_key 54 = .ok (.goto 4, 3) := by decide +kernel
theorem dX5_key_57 : decode cX5_key 57 = .ok (.iload_n 2, 1) := by decide +kernel
theorem dX5_key_58 : decode cX5_key 58 = .ok (.istore_n 2, 1) := by decide +kernel
theorem dX5_key_59 : decode cX5_key 59 = .ok (.iload 4, 2) := by decide +kernel
theorem dX5_key_61 : decode cX5_key 61 = .ok (.iload_n 1, 1) := by decide +kernel
theorem dX5_key_62 : decode cX5_key 62 = .ok (.if_icmp .le 8, 3) := by decide +kernel
theorem dX5_key_65 : decode cX5_key 65 = .ok (.iload 4, 2) := by decide +kernel
theorem dX5_key_67 : decode cX5_key 67 = .ok (.goto 4, 3) := by decide +kernel
theorem dX5_key_70 : decode cX5_key 70 = .ok (.iload_n 1, 1) := by decide +kernel
theorem dX5_key_71 : decode cX5_key 71 = .ok (.istore_n 1, 1) := by decide +kernel
theorem dX5_key_72 : decode cX5_key 72 = .ok (.iinc 3 1, 3) := by decide +kernel
theorem dX5_key_75 : decode cX5_key 75 = .ok (.goto (-56), 3) := by decide +kernel
theorem dX5_key_78 : decode cX5_key 78 = .ok (.iload_n 2, 1) := by decide +kernel
theorem dX5_key_79 : decode cX5_key 79 = .ok (.ireturn, 1) := by decide +kernel
theorem dX5_othersThrough_0 : decode cX5_othersThrough 0 = .ok (.aload_n 0, 1) := by decide +kernel
theorem dX5_othersThrough_1 : decode cX5_othersThrough 1 = .ok (.bipush 72, 2) := by decide +kernel
theorem dX5_othersThrough_3 : decode cX5_othersThrough 3 = .ok (.invokevirtual 197, 3) := by decide +kernel
theorem dX5_othersThrough_6 : decode cX5_othersThrough 6 = .ok (.aload_n 0, 1) := by decide +kernel
theorem dX5_othersThrough_7 : decode cX5_othersThrough 7 = .ok (.iconst 1, 1) := by decide +kernel
theorem dX5_othersThrough_8 : decode cX5_othersThrough 8 = .ok (.invokevirtual 243, 3) := by decide +kernel
theorem dX5_othersThrough_11 : decode cX5_othersThrough 11 = .ok (.aload_n 0, 1) := by decide +kernel
theorem dX5_othersThrough_12 : decode cX5_othersThrough 12 = .ok (.getfield 44, 3) := by decide +kernel
theorem dX5_othersThrough_15 : decode cX5_othersThrough 15 = .ok (.iload_n 1, 1) := by decide +kernel
theorem dX5_othersThrough_16 : decode cX5_othersThrough 16 = .ok (.iaload, 1) := by decide +kernel
theorem dX5_othersThrough_17 : decode cX5_othersThrough 17 = .ok (.iconst 1, 1) := by decide +kernel
theorem dX5_othersThrough_18 : decode cX5_othersThrough 18 = .ok (.if_icmp .ne 7, 3) := by decide +kernel
theorem dX5_othersThrough_21 : decode cX5_othersThrough 21 = .ok (.iconst 1, 1) := by decide +kernel
theorem dX5_othersThrough_22 : decode cX5_othersThrough 22 = .ok (.goto 4, 3) := by decide +kernel
theorem dX5_othersThrough_25 : decode cX5_othersThrough 25 = .ok (.iconst 0, 1) := by decide +kernel
theorem dX5_othersThrough_26 : decode cX5_othersThrough 26 = .ok (.isub, 1) := by decide +kernel
theorem dX5_othersThrough_27 : decode cX5_othersThrough 27 = .ok (.istore_n 2, 1) := by decide +kernel
theorem dX5_othersThrough_28 : decode cX5_othersThrough 28 = .ok (.aload_n 0, 1) := by decide +kernel
theorem dX5_othersThrough_29 : decode cX5_othersThrough 29 = .ok (.invokevirtual 209, 3) := by decide +kernel
theorem dX5_othersThrough_32 : decode cX5_othersThrough 32 = .ok (.iload_n 2, 1) := by decide +kernel
theorem dX5_othersThrough_33 : decode cX5_othersThrough 33 = .ok (.ireturn, 1) := by decide +kernel
theorem dX5_blocker_0 : decode cX5_blocker 0 = .ok (.aload_n 0, 1) := by decide +kernel
theorem dX5_blocker_1 : decode cX5_blocker 1 = .ok (.iconst 0, 1) := by decide +kernel
theorem dX5_blocker_2 : decode cX5_blocker 2 = .ok (.putfield 92, 3) := by decide +kernel
theorem dX5_blocker_5 : decode cX5_blocker 5 = .ok (.bipush (-9), 2) := by decide +kernel
theorem dX5_blocker_7 : decode cX5_blocker 7 = .ok (.istore_n 1, 1) := by decide +kernel
theorem dX5_blocker_8 : decode cX5_blocker 8 = .ok (.iconst (-1), 1) := by decide +kernel
theorem dX5_blocker_9 : decode cX5_blocker 9 = .ok (.istore_n 2, 1) := by decide +kernel
theorem dX5_blocker_10 : decode cX5_blocker 10 = .ok (.aload_n 0, 1) := by decide +kernel
theorem dX5_blocker_11 : decode cX5_blocker 11 = .ok (.invokevirtual 203, 3) := by decide +kernel
theorem dX5_blocker_14 : decode cX5_blocker 14 = .ok (.iconst 0, 1) := by decide +kernel
theorem dX5_blocker_15 : decode cX5_blocker 15 = .ok (.istore_n 3, 1) := by decide +kernel
theorem dX5_blocker_16 : decode cX5_blocker 16 = .ok (.iload_n 3, 1) := by decide +kernel
theorem dX5_blocker_17 : decode cX5_blocker 17 = .ok (.aload_n 0, 1) := by decide +kernel
theorem dX5_blocker_18 : decode cX5_blocker 18 = .ok (.getfield 99, 3) := by decide +kernel
theorem dX5_blocker_21 : decode cX5_blocker 21 = .ok (.if_icmp .ge 78, 3) := by decide +kernel
theorem dX5_blocker_24 : decode cX5_blocker 24 = .ok (.aload_n 0, 1) := by decide +kernel
theorem dX5_blocker_25 : decode cX5_blocker 25 = .ok (.getfield 44, 3) := by decide +kernel
theorem dX5_blocker_28 : decode cX5_blocker 28 = .ok (.iload_n 3, 1) := by decide +kernel
theorem dX5_blocker_29 : decode cX5_blocker 29 = .ok (.iaload, 1) := by decide +kernel
theorem dX5_blocker_30 : decode cX5_blocker 30 = .ok (.ifCond .ne 63, 3) := by decide +kernel
theorem dX5_blocker_33 : decode cX5_blocker 33 = .ok (.aload_n 0, 1) := by decide +kernel
theorem dX5_blocker_34 : decode cX5_blocker 34 = .ok (.iload_n 3, 1) := by decide +kernel
theorem dX5_blocker_35 : decode cX5_blocker 35 = .ok (.invokevirtual 296, 3) := by decide +kernel
theorem dX5_blocker_38 : decode cX5_blocker 38 = .ok (.istore 4, 2) := by decide +kernel
theorem dX5_blocker_40 : decode cX5_blocker 40 = .ok (.aload_n 0, 1) := by decide +kernel
theorem dX5_blocker_41 : decode cX5_blocker 41 = .ok (.getfield 44, 3) := by decide +kernel
theorem dX5_blocker_44 : decode cX5_blocker 44 = .ok (.iload_n 3, 1) := by decide +kernel
theorem dX5_blocker_45 : decode cX5_blocker 45 = .ok (.iconst 2, 1) := by decide +kernel
theorem dX5_blocker_46 : decode cX5_blocker 46 = .ok (.iastore, 1) := by decide +kernel
theorem dX5_blocker_47 : decode cX5_blocker 47 = .ok (.aload_n 0, 1) := by decide +kernel
theorem dX5_blocker_48 : decode cX5_blocker 48 = .ok (.iload_n 3, 1) := by decide +kernel
theorem dX5_blocker_49 : decode cX5_blocker 49 = .ok (.invokevirtual 296, 3) := by decide +kernel
theorem dX5_blocker_52 : decode cX5_blocker 52 = .ok (.istore 5, 2) := by decide +kernel
theorem dX5_blocker_54 : decode cX5_blocker 54 = .ok (.iload 5, 2) := by decide +kernel
theorem dX5_blocker_56 : decode cX5_blocker 56 = .ok (.iload 4, 2) := by decide +kernel
theorem dX5_blocker_58 : decode cX5_blocker 58 = .ok (.if_icmp .le 13, 3) := by decide +kernel
theorem dX5_blocker_61 : decode cX5_blocker 61 = .ok (.iload 5, 2) := by decide +kernel
theorem dX5_blocker_63 : decode cX5_blocker 63 = .ok (.iload_n 2, 1) := by decide +kernel
theorem dX5_blocker_64 : decode cX5_blocker 64 = .ok (.if_icmp .le 7, 3) := by decide +kernel
theorem dX5_blocker_67 : decode cX5_blocker 67 = .ok (.iload_n 3, 1) := by decide +kernel
theorem dX5_blocker_68 : decode cX5_blocker 68 = .ok (.goto 4, 3) := by decide +kernel
theorem dX5_blocker_71 : decode cX5_blocker 71 = .ok (.iload_n 1, 1) := by decide +kernel
theorem dX5_blocker_72 : decode cX5_blocker 72 = .ok (.istore_n 1, 1) := by decide +kernel
theorem dX5_blocker_73 : decode cX5_blocker 73 = .ok (.iload 5, 2) := by decide +kernel
theorem dX5_blocker_75 : decode cX5_blocker 75 = .ok (.iload 4, 2) := by decide +kernel
theorem dX5_blocker_77 : decode cX5_blocker 77 = .ok (.if_icmp .le 14, 3) := by decide +kernel
theorem dX5_blocker_80 : decode cX5_blocker 80 = .ok (.iload 5, 2) := by decide +kernel
theorem dX5_blocker_82 : decode cX5_blocker 82 = .ok (.iload_n 2, 1) := by decide +kernel
theorem dX5_blocker_83 : decode cX5_blocker 83 = .ok (.if_icmp .le 8, 3) := by decide +kernel
theorem dX5_blocker_86 : decode cX5_blocker 86 = .ok (.iload 5, 2) := by decide +kernel
theorem dX5_blocker_88 : decode cX5_blocker 88 = .ok (.goto 4, 3) := by decide +kernel
theorem dX5_blocker_91 : decode cX5_blocker 91 = .ok (.iload_n 2, 1) := by decide +kernel
theorem dX5_blocker_92 : decode cX5_blocker 92 = .ok (.istore_n 2, 1) := by decide +kernel
theorem dX5_blocker_93 : decode cX5_blocker 93 = .ok (.iinc 3 1, 3) := by decide +kernel
theorem dX5_blocker_96 : decode cX5_blocker 96 = .ok (.goto (-80), 3) := by decide +kernel
theorem dX5_blocker_99 : decode cX5_blocker 99 = .ok (.iload_n 1, 1) := by decide +kernel
theorem dX5_blocker_100 : decode cX5_blocker 100 = .ok (.ireturn, 1) := by decide +kernel
theorem dX5_allFrost_0 : decode cX5_allFrost 0 = .ok (.iconst 0, 1) := by decide +kernel
theorem dX5_allFrost_1 : decode cX5_allFrost 1 = .ok (.istore_n 1, 1) := by decide +kernel
theorem dX5_allFrost_2 : decode cX5_allFrost 2 = .ok (.iconst 0, 1) := by decide +kernel
theorem dX5_allFrost_3 : decode cX5_allFrost 3 = .ok (.istore_n 2, 1) := by decide +kernel
theorem dX5_allFrost_4 : decode cX5_allFrost 4 = .ok (.iload_n 2, 1) := by decide +kernel
theorem dX5_allFrost_5 : decode cX5_allFrost 5 = .ok (.aload_n 0, 1) := by decide +kernel
theorem dX5_allFrost_6 : decode cX5_allFrost 6 = .ok (.getfield 7, 3) := by decide +kernel
theorem dX5_allFrost_9 : decode cX5_allFrost 9 = .ok (.if_icmp .ge 18, 3) := by decide +kernel
theorem dX5_allFrost_12 : decode cX5_allFrost 12 = .ok (.iload_n 1, 1) := by decide +kernel
theorem dX5_allFrost_13 : decode cX5_allFrost 13 = .ok (.aload_n 0, 1) := by decide +kernel
theorem dX5_allFrost_14 : decode cX5_allFrost 14 = .ok (.getfield 20, 3) := by decide +kernel
theorem dX5_allFrost_17 : decode cX5_allFrost 17 = .ok (.iload_n 2, 1) := by decide +kernel
theorem dX5_allFrost_18 : decode cX5_allFrost 18 = .ok (.iaload, 1) := by decide +kernel
theorem dX5_allFrost_19 : decode cX5_allFrost 19 = .ok (.iadd, 1) := by decide +kernel
theorem dX5_allFrost_20 : decode cX5_allFrost 20 = .ok (.istore_n 1, 1) := by decide +kernel
theorem dX5_allFrost_21 : decode cX5_allFrost 21 = .ok (.iinc 2 1, 3) := by decide +kernel
theorem dX5_allFrost_24 : decode cX5_allFrost 24 = .ok (.goto (-20), 3) := by decide +kernel
theorem dX5_allFrost_27 : decode cX5_allFrost 27 = .ok (.iload_n 1, 1) := by decide +kernel
theorem dX5_allFrost_28 : decode cX5_allFrost 28 = .ok (.ireturn, 1) := by decide +kernel
theorem dX5_mean_0 : decode cX5_mean 0 = .ok (.aload_n 0, 1) := by decide +kernel
theorem dX5_mean_1 : decode cX5_mean 1 = .ok (.iconst 0, 1) := by decide +kernel
theorem dX5_mean_2 : decode cX5_mean 2 = .ok (.putfield 92, 3) := by decide +kernel
theorem dX5_mean_5 : decode cX5_mean 5 = .ok (.iload_n 1, 1) := by decide +kernel
theorem dX5_mean_6 : decode cX5_mean 6 = .ok (.iconst 0, 1) := by decide +kernel
theorem dX5_mean_7 : decode cX5_mean 7 = .ok (.bipush 72, 2) := by decide +kernel
theorem dX5_mean_9 : decode cX5_mean 9 = .ok (.invokestatic 236, 3) := by decide +kernel
theorem dX5_mean_12 : decode cX5_mean 12 = .ok (.iload_n 2, 1) := by decide +kernel
theorem dX5_mean_13 : decode cX5_mean 13 = .ok (.iconst 1, 1) := by decide +kernel
theorem dX5_mean_14 : decode cX5_mean 14 = .ok (.invokestatic 246, 3) := by decide +kernel
theorem dX5_mean_17 : decode cX5_mean 17 = .ok (.istore_n 3, 1) := by decide +kernel
theorem dX5_mean_18 : decode cX5_mean 18 = .ok (.iload_n 3, 1) := by decide +kernel
theorem dX5_mean_19 : decode cX5_mean 19 = .ok (.ifCond .ge 9, 3) := by decide +kernel
theorem dX5_mean_22 : decode cX5_mean 22 = .ok (.aload_n 0, 1) := by decide +kernel
theorem dX5_mean_23 : decode cX5_mean 23 = .ok (.iload_n 3, 1) := by decide +kernel
theorem dX5_mean_24 : decode cX5_mean 24 = .ok (.invokevirtual 139, 3) := by decide +kernel
theorem dX5_mean_27 : decode cX5_mean 27 = .ok (.ireturn, 1) := by decide +kernel
theorem dX5_mean_28 : decode cX5_mean 28 = .ok (.aload_n 0, 1) := by decide +kernel
theorem dX5_mean_29 : decode cX5_mean 29 = .ok (.invokevirtual 203, 3) := by decide +kernel
theorem dX5_mean_32 : decode cX5_mean 32 = .ok (.aload_n 0, 1) := by decide +kernel
theorem dX5_mean_33 : decode cX5_mean 33 = .ok (.iload_n 1, 1) := by decide +kernel
theorem dX5_mean_34 : decode cX5_mean 34 = .ok (.invokevirtual 197, 3) := by decide +kernel
theorem dX5_mean_37 : decode cX5_mean 37 = .ok (.bipush 99, 2) := by decide +kernel
theorem dX5_mean_39 : decode cX5_mean 39 = .ok (.istore 4, 2) := by decide +kernel
theorem dX5_mean_41 : decode cX5_mean 41 = .ok (.iconst 0, 1) := by decide +kernel
theorem dX5_mean_42 : decode cX5_mean 42 = .ok (.istore 5, 2) := by decide +kernel
theorem dX5_mean_44 : decode cX5_mean 44 = .ok (.iconst 0, 1) := by decide +kernel
theorem dX5_mean_45 : decode cX5_mean 45 = .ok (.istore 6, 2) := by decide +kernel
theorem dX5_mean_47 : decode cX5_mean 47 = .ok (.iload 6, 2) := by decide +kernel
theorem dX5_mean_49 : decode cX5_mean 49 = .ok (.aload_n 0, 1) := by decide +kernel
theorem dX5_mean_50 : decode cX5_mean 50 = .ok (.getfield 7, 3) := by decide +kernel
theorem dX5_mean_53 : decode cX5_mean 53 = .ok (.if_icmp .ge 61, 3) := by decide +kernel
theorem dX5_mean_56 : decode cX5_mean 56 = .ok (.aload_n 0, 1) := by decide +kernel
theorem dX5_mean_57 : decode cX5_mean 57 = .ok (.getfield 20, 3) := by decide +kernel
theorem dX5_mean_60 : decode cX5_mean 60 = .ok (.iload 6, 2) := by decide +kernel
theorem dX5_mean_62 : decode cX5_mean 62 = .ok (.iaload, 1) := by decide +kernel
theorem dX5_mean_63 : decode cX5_mean 63 = .ok (.iload 4, 2) := by decide +kernel
theorem dX5_mean_65 : decode cX5_mean 65 = .ok (.if_icmp .ge 13, 3) := by decide +kernel
theorem dX5_mean_68 : decode cX5_mean 68 = .ok (.aload_n 0, 1) := by decide +kernel
theorem dX5_mean_69 : decode cX5_mean 69 = .ok (.getfield 20, 3) := by decide +kernel
theorem dX5_mean_72 : decode cX5_mean 72 = .ok (.iload 6, 2) := by decide +kernel
theorem dX5_mean_74 : decode cX5_mean 74 = .ok (.iaload, 1) := by decide +kernel
theorem dX5_mean_75 : decode cX5_mean 75 = .ok (.goto 5, 3) := by decide +kernel
theorem dX5_mean_78 : decode cX5_mean 78 = .ok (.iload 4, 2) := by decide +kernel
theorem dX5_mean_80 : decode cX5_mean 80 = .ok (.istore 4, 2) := by decide +kernel
theorem dX5_mean_82 : decode cX5_mean 82 = .ok (.aload_n 0, 1) := by decide +kernel
theorem dX5_mean_83 : decode cX5_mean 83 = .ok (.getfield 20, 3) := by decide +kernel
theorem dX5_mean_86 : decode cX5_mean 86 = .ok (.iload 6, 2) := by decide +kernel
theorem dX5_mean_88 : decode cX5_mean 88 = .ok (.iaload, 1) := by decide +kernel
theorem dX5_mean_89 : decode cX5_mean 89 = .ok (.iload 5, 2) := by decide +kernel
theorem dX5_mean_91 : decode cX5_mean 91 = .ok (.if_icmp .le 13, 3) := by decide +kernel
theorem dX5_mean_94 : decode cX5_mean 94 = .ok (.aload_n 0, 1) := by decide +kernel
theorem dX5_mean_95 : decode cX5_mean 95 = .ok (.getfield 20, 3) := by decide +kernel
theorem dX5_mean_98 : decode cX5_mean 98 = .ok (.iload 6, 2) := by decide +kernel
theorem dX5_mean_100 : decode cX5_mean 100 = .ok (.iaload, 1) := by decide +kernel
theorem dX5_mean_101 : decode cX5_mean 101 = .ok (.goto 5, 3) := by decide +kernel
theorem dX5_mean_104 : decode cX5_mean 104 = .ok (.iload 5, 2) := by decide +kernel
theorem dX5_mean_106 : decode cX5_mean 106 = .ok (.istore 5, 2) := by decide +kernel
theorem dX5_mean_108 : decode cX5_mean 108 = .ok (.iinc 6 1, 3) := by decide +kernel
theorem dX5_mean_111 : decode cX5_mean 111 = .ok (.goto (-64), 3) := by decide +kernel
theorem dX5_mean_114 : decode cX5_mean 114 = .ok (.iload_n 2, 1) := by decide +kernel
theorem dX5_mean_115 : decode cX5_mean 115 = .ok (.ifCond .ne 15, 3) := by decide +kernel
theorem dX5_mean_118 : decode cX5_mean 118 = .ok (.aload_n 0, 1) := by decide +kernel
theorem dX5_mean_119 : decode cX5_mean 119 = .ok (.invokevirtual 299, 3) := by decide +kernel
theorem dX5_mean_122 : decode cX5_mean 122 = .ok (.aload_n 0, 1) := by decide +kernel
theorem dX5_mean_123 : decode cX5_mean 123 = .ok (.getfield 7, 3) := by decide +kernel
theorem dX5_mean_126 : decode cX5_mean 126 = .ok (.idiv, 1) := by decide +kernel
theorem dX5_mean_127 : decode cX5_mean 127 = .ok (.goto 8, 3) := by decide +kernel
theorem dX5_mean_130 : decode cX5_mean 130 = .ok (.iload 5, 2) := by decide +kernel
theorem dX5_mean_132 : decode cX5_mean 132 = .ok (.iload 4, 2) := by decide +kernel
theorem dX5_mean_134 : decode cX5_mean 134 = .ok (.isub, 1) := by decide +kernel
theorem dX5_mean_135 : decode cX5_mean 135 = .ok (.istore 6, 2) := by decide +kernel
theorem dX5_mean_137 : decode cX5_mean 137 = .ok (.aload_n 0, 1) := by decide +kernel
theorem dX5_mean_138 : decode cX5_mean 138 = .ok (.invokevirtual 209, 3) := by decide +kernel
theorem dX5_mean_141 : decode cX5_mean 141 = .ok (.iload 6, 2) := by decide +kernel
theorem dX5_mean_143 : decode cX5_mean 143 = .ok (.ireturn, 1) := by decide +kernel
theorem dX5_runs_0 : decode cX5_runs 0 = .ok (.aload_n 0, 1) := by decide +kernel
theorem dX5_runs_1 : decode cX5_runs 1 = .ok (.iconst 0, 1) := by decide +kernel
theorem dX5_runs_2 : decode cX5_runs 2 = .ok (.putfield 92, 3) := by decide +kernel
theorem dX5_runs_5 : decode cX5_runs 5 = .ok (.iload_n 1, 1) := by decide +kernel
theorem dX5_runs_6 : decode cX5_runs 6 = .ok (.iconst 1, 1) := by decide +kernel
theorem dX5_runs_7 : decode cX5_runs 7 = .ok (.bipush 60, 2) := by decide +kernel
theorem dX5_runs_9 : decode cX5_runs 9 = .ok (.invokestatic 236, 3) := by decide +kernel
theorem dX5_runs_12 : decode cX5_runs 12 = .ok (.iload_n 2, 1) := by decide +kernel
theorem dX5_runs_13 : decode cX5_runs 13 = .ok (.iconst 1, 1) := by decide +kernel
theorem dX5_runs_14 : decode cX5_runs 14 = .ok (.invokestatic 246, 3) := by decide +kernel
theorem dX5_runs_17 : decode cX5_runs 17 = .ok (.istore_n 3, 1) := by decide +kernel
theorem dX5_runs_18 : decode cX5_runs 18 = .ok (.iload_n 3, 1) := by decide +kernel
theorem dX5_runs_19 : decode cX5_runs 19 = .ok (.ifCond .ge 9, 3) := by decide +kernel
theorem dX5_runs_22 : decode cX5_runs 22 = .ok (.aload_n 0, 1) := by decide +kernel
theorem dX5_runs_23 : decode cX5_runs 23 = .ok (.iload_n 3, 1) := by decide +kernel
theorem dX5_runs_24 : decode cX5_runs 24 = .ok (.invokevirtual 139, 3) := by decide +kernel
theorem dX5_runs_27 : decode cX5_runs 27 = .ok (.ireturn, 1) := by decide +kernel
theorem dX5_runs_28 : decode cX5_runs 28 = .ok (.iconst 0, 1) := by decide +kernel
theorem dX5_runs_29 : decode cX5_runs 29 = .ok (.istore 4, 2) := by decide +kernel
theorem dX5_runs_31 : decode cX5_runs 31 = .ok (.iconst 0, 1) := by decide +kernel
theorem dX5_runs_32 : decode cX5_runs 32 = .ok (.istore 5, 2) := by decide +kernel
theorem dX5_runs_34 : decode cX5_runs 34 = .ok (.bipush (-9), 2) := by decide +kernel
theorem dX5_runs_36 : decode cX5_runs 36 = .ok (.istore 6, 2) := by decide +kernel
theorem dX5_runs_38 : decode cX5_runs 38 = .ok (.iconst 0, 1) := by decide +kernel
theorem dX5_runs_39 : decode cX5_runs 39 = .ok (.istore 7, 2) := by decide +kernel
theorem dX5_runs_41 : decode cX5_runs 41 = .ok (.iload 7, 2) := by decide +kernel
theorem dX5_runs_43 : decode cX5_runs 43 = .ok (.aload_n 0, 1) := by decide +kernel
theorem dX5_runs_44 : decode cX5_runs 44 = .ok (.getfield 7, 3) := by decide +kernel
theorem dX5_runs_47 : decode cX5_runs 47 = .ok (.if_icmp .ge 66, 3) := by decide +kernel
theorem dX5_runs_50 : decode cX5_runs 50 = .ok (.aload_n 0, 1) := by decide +kernel
theorem dX5_runs_51 : decode cX5_runs 51 = .ok (.iload 7, 2) := by decide +kernel
theorem dX5_runs_53 : decode cX5_runs 53 = .ok (.iload_n 1, 1) := by decide +kernel
theorem dX5_runs_54 : decode cX5_runs 54 = .ok (.invokevirtual 110, 3) := by decide +kernel
theorem dX5_runs_57 : decode cX5_runs 57 = .ok (.ifCond .eq 10, 3) := by decide +kernel
theorem dX5_runs_60 : decode cX5_runs 60 = .ok (.iload 4, 2) := by decide +kernel
theorem dX5_runs_62 : decode cX5_runs 62 = .ok (.iconst 1, 1) := by decide +kernel
theorem dX5_runs_63 : decode cX5_runs 63 = .ok (.iadd, 1) := by decide +kernel
theorem dX5_runs_64 : decode cX5_runs 64 = .ok (.goto 4, 3) := by decide +kernel
theorem dX5_runs_67 : decode cX5_runs 67 = .ok (.iconst 0, 1) := by decide +kernel
theorem dX5_runs_68 : decode cX5_runs 68 = .ok (.istore 4, 2) := by decide +kernel
theorem dX5_runs_70 : decode cX5_runs 70 = .ok (.iload 4, 2) := by decide +kernel
theorem dX5_runs_72 : decode cX5_runs 72 = .ok (.iload 5, 2) := by decide +kernel
theorem dX5_runs_74 : decode cX5_runs 74 = .ok (.if_icmp .le 13, 3) := by decide +kernel
theorem dX5_runs_77 : decode cX5_runs 77 = .ok (.iload 7, 2) := by decide +kernel
theorem dX5_runs_79 : decode cX5_runs 79 = .ok (.iload 4, 2) := by decide +kernel
theorem dX5_runs_81 : decode cX5_runs 81 = .ok (.isub, 1) := by decide +kernel
theorem dX5_runs_82 : decode cX5_runs 82 = .ok (.iconst 1, 1) := by decide +kernel
theorem dX5_runs_83 : decode cX5_runs 83 = .ok (.iadd, 1) := by decide +kernel
theorem dX5_runs_84 : decode cX5_runs 84 = .ok (.goto 5, 3) := by decide +kernel
theorem dX5_runs_87 : decode cX5_runs 87 = .ok (.iload 6, 2) := by decide +kernel
theorem dX5_runs_89 : decode cX5_runs 89 = .ok (.istore 6, 2) := by decide +kernel
theorem dX5_runs_91 : decode cX5_runs 91 = .ok (.iload 4, 2) := by decide +kernel
theorem dX5_runs_93 : decode cX5_runs 93 = .ok (.iload 5, 2) := by decide +kernel
theorem dX5_runs_95 : decode cX5_runs 95 = .ok (.if_icmp .le 8, 3) := by decide +kernel
theorem dX5_runs_98 : decode cX5_runs 98 = .ok (.iload 4, 2) := by decide +kernel
theorem dX5_runs_100 : decode cX5_runs 100 = .ok (.goto 5, 3) := by decide +kernel
theorem dX5_runs_103 : decode cX5_runs 103 = .ok (.iload 5, 2) := by decide +kernel
theorem dX5_runs_105 : decode cX5_runs 105 = .ok (.istore 5, 2) := by decide +kernel
theorem dX5_runs_107 : decode cX5_runs 107 = .ok (.iinc 7 1, 3) := by decide +kernel
theorem dX5_runs_110 : decode cX5_runs 110 = .ok (.goto (-69), 3) := by decide +kernel
theorem dX5_runs_113 : decode cX5_runs 113 = .ok (.iload_n 2, 1) := by decide +kernel
theorem dX5_runs_114 : decode cX5_runs 114 = .ok (.ifCond .ne 8, 3) := by decide +kernel
theorem dX5_runs_117 : decode cX5_runs 117 = .ok (.iload 5, 2) := by decide +kernel
theorem dX5_runs_119 : decode cX5_runs 119 = .ok (.goto 5, 3) := by decide +kernel
theorem dX5_runs_122 : decode cX5_runs 122 = .ok (.iload 6, 2) := by decide +kernel
theorem dX5_runs_124 : decode cX5_runs 124 = .ok (.ireturn, 1) := by decide +kernel
theorem dX5_day_0 : decode cX5_day 0 = .ok (.aload_n 0, 1) := by decide +kernel
theorem dX5_day_1 : decode cX5_day 1 = .ok (.iconst 0, 1) := by decide +kernel
theorem dX5_day_2 : decode cX5_day 2 = .ok (.putfield 92, 3) := by decide +kernel
theorem dX5_day_5 : decode cX5_day 5 = .ok (.aload_n 0, 1) := by decide +kernel
theorem dX5_day_6 : decode cX5_day 6 = .ok (.invokevirtual 203, 3) := by decide +kernel
theorem dX5_day_9 : decode cX5_day 9 = .ok (.aload_n 0, 1) := by decide +kernel
theorem dX5_day_10 : decode cX5_day 10 = .ok (.invokevirtual 299, 3) := by decide +kernel
theorem dX5_day_13 : decode cX5_day 13 = .ok (.istore_n 1, 1) := by decide +kernel
theorem dX5_day_14 : decode cX5_day 14 = .ok (.aload_n 0, 1) := by decide +kernel
theorem dX5_day_15 : decode cX5_day 15 = .ok (.iconst 0, 1) := by decide +kernel
theorem dX5_day_16 : decode cX5_day 16 = .ok (.putfield 99, 3) := by decide +kernel
theorem dX5_day_19 : decode cX5_day 19 = .ok (.aload_n 0, 1) := by decide +kernel
theorem dX5_day_20 : decode cX5_day 20 = .ok (.bipush 24, 2) := by decide +kernel
theorem dX5_day_22 : decode cX5_day 22 = .ok (.invokevirtual 197, 3) := by decide +kernel
theorem dX5_day_25 : decode cX5_day 25 = .ok (.aload_n 0, 1) := by decide +kernel
theorem dX5_day_26 : decode cX5_day 26 = .ok (.invokevirtual 299, 3) := by decide +kernel
theorem dX5_day_29 : decode cX5_day 29 = .ok (.istore_n 2, 1) := by decide +kernel
theorem dX5_day_30 : decode cX5_day 30 = .ok (.aload_n 0, 1) := by decide +kernel
theorem dX5_day_31 : decode cX5_day 31 = .ok (.invokevirtual 209, 3) := by decide +kernel
theorem dX5_day_34 : decode cX5_day 34 = .ok (.iload_n 2, 1) := by decide +kernel
theorem dX5_day_35 : decode cX5_day 35 = .ok (.iload_n 1, 1) := by decide +kernel
theorem dX5_day_36 : decode cX5_day 36 = .ok (.isub, 1) := by decide +kernel
theorem dX5_day_37 : decode cX5_day 37 = .ok (.ireturn, 1) := by decide +kernel
theorem dX5_stands_0 : decode cX5_stands 0 = .ok (.aload_n 0, 1) := by decide +kernel
theorem dX5_stands_1 : decode cX5_stands 1 = .ok (.iconst 0, 1) := by decide +kernel
theorem dX5_stands_2 : decode cX5_stands 2 = .ok (.putfield 92, 3) := by decide +kernel
theorem dX5_stands_5 : decode cX5_stands 5 = .ok (.aload_n 0, 1) := by decide +kernel
theorem dX5_stands_6 : decode cX5_stands 6 = .ok (.iload_n 1, 1) := by decide +kernel
theorem dX5_stands_7 : decode cX5_stands 7 = .ok (.invokevirtual 192, 3) := by decide +kernel
theorem dX5_stands_10 : decode cX5_stands 10 = .ok (.ifCond .ne 9, 3) := by decide +kernel
theorem dX5_stands_13 : decode cX5_stands 13 = .ok (.aload_n 0, 1) := by decide +kernel
theorem dX5_stands_14 : decode cX5_stands 14 = .ok (.iconst (-1), 1) := by decide +kernel
theorem dX5_stands_15 : decode cX5_stands 15 = .ok (.invokevirtual 139, 3) := by decide +kernel
theorem dX5_stands_18 : decode cX5_stands 18 = .ok (.ireturn, 1) := by decide +kernel
theorem dX5_stands_19 : decode cX5_stands 19 = .ok (.aload_n 0, 1) := by decide +kernel
theorem dX5_stands_20 : decode cX5_stands 20 = .ok (.invokevirtual 203, 3) := by decide +kernel
theorem dX5_stands_23 : decode cX5_stands 23 = .ok (.aload_n 0, 1) := by decide +kernel
theorem dX5_stands_24 : decode cX5_stands 24 = .ok (.bipush 72, 2) := by decide +kernel
theorem dX5_stands_26 : decode cX5_stands 26 = .ok (.invokevirtual 197, 3) := by decide +kernel
theorem dX5_stands_29 : decode cX5_stands 29 = .ok (.aload_n 0, 1) := by decide +kernel
theorem dX5_stands_30 : decode cX5_stands 30 = .ok (.invokevirtual 209, 3) := by decide +kernel
theorem dX5_stands_33 : decode cX5_stands 33 = .ok (.aload_n 0, 1) := by decide +kernel
theorem dX5_stands_34 : decode cX5_stands 34 = .ok (.getfield 50, 3) := by decide +kernel
theorem dX5_stands_37 : decode cX5_stands 37 = .ok (.iload_n 1, 1) := by decide +kernel
theorem dX5_stands_38 : decode cX5_stands 38 = .ok (.iaload, 1) := by decide +kernel
theorem dX5_stands_39 : decode cX5_stands 39 = .ok (.ireturn, 1) := by decide +kernel
theorem dX5_row_0 : decode cX5_row 0 = .ok (.aload_n 0, 1) := by decide +kernel
theorem dX5_row_1 : decode cX5_row 1 = .ok (.iconst 0, 1) := by decide +kernel
theorem dX5_row_2 : decode cX5_row 2 = .ok (.putfield 92, 3) := by decide +kernel
theorem dX5_row_5 : decode cX5_row 5 = .ok (.iload_n 1, 1) := by decide +kernel
theorem dX5_row_6 : decode cX5_row 6 = .ok (.ifCond .ge 10, 3) := by decide +kernel
theorem dX5_row_9 : decode cX5_row 9 = .ok (.aload_n 0, 1) := by decide +kernel
theorem dX5_row_10 : decode cX5_row 10 = .ok (.bipush (-4), 2) := by decide +kernel
theorem dX5_row_12 : decode cX5_row 12 = .ok (.invokevirtual 139, 3) := by decide +kernel
theorem dX5_row_15 : decode cX5_row 15 = .ok (.ireturn, 1) := by decide +kernel
theorem dX5_row_16 : decode cX5_row 16 = .ok (.iload_n 1, 1) := by decide +kernel
theorem dX5_row_17 : decode cX5_row 17 = .ok (.bipush 99, 2) := by decide +kernel
theorem dX5_row_19 : decode cX5_row 19 = .ok (.if_icmp .gt 12, 3) := by decide +kernel
theorem dX5_row_22 : decode cX5_row 22 = .ok (.aload_n 0, 1) := by decide +kernel
theorem dX5_row_23 : decode cX5_row 23 = .ok (.getfield 276, 3) := by decide +kernel
theorem dX5_row_26 : decode cX5_row 26 = .ok (.bipush 16, 2) := by decide +kernel
theorem dX5_row_28 : decode cX5_row 28 = .ok (.if_icmp .ne 10, 3) := by decide +kernel
theorem dX5_row_31 : decode cX5_row 31 = .ok (.aload_n 0, 1) := by decide +kernel
theorem dX5_row_32 : decode cX5_row 32 = .ok (.bipush (-6), 2) := by decide +kernel
theorem dX5_row_34 : decode cX5_row 34 = .ok (.invokevirtual 139, 3) := by decide +kernel
theorem dX5_row_37 : decode cX5_row 37 = .ok (.ireturn, 1) := by decide +kernel
theorem dX5_row_38 : decode cX5_row 38 = .ok (.aload_n 0, 1) := by decide +kernel
theorem dX5_row_39 : decode cX5_row 39 = .ok (.getfield 89, 3) := by decide +kernel
theorem dX5_row_42 : decode cX5_row 42 = .ok (.aload_n 0, 1) := by decide +kernel
theorem dX5_row_43 : decode cX5_row 43 = .ok (.getfield 276, 3) := by decide +kernel
theorem dX5_row_46 : decode cX5_row 46 = .ok (.iload_n 1, 1) := by decide +kernel
theorem dX5_row_47 : decode cX5_row 47 = .ok (.iastore, 1) := by decide +kernel
theorem dX5_row_48 : decode cX5_row 48 = .ok (.aload_n 0, 1) := by decide +kernel
theorem dX5_row_49 : decode cX5_row 49 = .ok (.dup, 1) := by decide +kernel
theorem dX5_row_50 : decode cX5_row 50 = .ok (.getfield 276, 3) := by decide +kernel
theorem dX5_row_53 : decode cX5_row 53 = .ok (.iconst 1, 1) := by decide +kernel
theorem dX5_row_54 : decode cX5_row 54 = .ok (.iadd, 1) := by decide +kernel
theorem dX5_row_55 : decode cX5_row 55 = .ok (.putfield 276, 3) := by decide +kernel
theorem dX5_row_58 : decode cX5_row 58 = .ok (.aload_n 0, 1) := by decide +kernel
theorem dX5_row_59 : decode cX5_row 59 = .ok (.getfield 276, 3) := by decide +kernel
theorem dX5_row_62 : decode cX5_row 62 = .ok (.ireturn, 1) := by decide +kernel
theorem dX5_judge_0 : decode cX5_judge 0 = .ok (.aload_n 0, 1) := by decide +kernel
theorem dX5_judge_1 : decode cX5_judge 1 = .ok (.iconst 0, 1) := by decide +kernel
theorem dX5_judge_2 : decode cX5_judge 2 = .ok (.putfield 92, 3) := by decide +kernel
theorem dX5_judge_5 : decode cX5_judge 5 = .ok (.iload_n 1, 1) := by decide +kernel
theorem dX5_judge_6 : decode cX5_judge 6 = .ok (.iconst 0, 1) := by decide +kernel
theorem dX5_judge_7 : decode cX5_judge 7 = .ok (.bipush 72, 2) := by decide +kernel
theorem dX5_judge_9 : decode cX5_judge 9 = .ok (.invokestatic 236, 3) := by decide +kernel
theorem dX5_judge_12 : decode cX5_judge 12 = .ok (.ifCond .ge 15, 3) := by decide +kernel
theorem dX5_judge_15 : decode cX5_judge 15 = .ok (.aload_n 0, 1) := by decide +kernel
theorem dX5_judge_16 : decode cX5_judge 16 = .ok (.iload_n 1, 1) := by decide +kernel
theorem dX5_judge_17 : decode cX5_judge 17 = .ok (.iconst 0, 1) := by decide +kernel
theorem dX5_judge_18 : decode cX5_judge 18 = .ok (.bipush 72, 2) := by decide +kernel
theorem dX5_judge_20 : decode cX5_judge 20 = .ok (.invokestatic 236, 3) := by decide +kernel
theorem dX5_judge_23 : decode cX5_judge 23 = .ok (.invokevirtual 139, 3) := by decide +kernel
theorem dX5_judge_26 : decode cX5_judge 26 = .ok (.ireturn, 1) := by decide +kernel
theorem dX5_judge_27 : decode cX5_judge 27 = .ok (.aload_n 0, 1) := by decide +kernel
theorem dX5_judge_28 : decode cX5_judge 28 = .ok (.getfield 276, 3) := by decide +kernel
theorem dX5_judge_31 : decode cX5_judge 31 = .ok (.istore_n 2, 1) := by decide +kernel
theorem dX5_judge_32 : decode cX5_judge 32 = .ok (.aload_n 0, 1) := by decide +kernel
theorem dX5_judge_33 : decode cX5_judge 33 = .ok (.iconst 0, 1) := by decide +kernel
theorem dX5_judge_34 : decode cX5_judge 34 = .ok (.putfield 276, 3) := by decide +kernel
theorem dX5_judge_37 : decode cX5_judge 37 = .ok (.bipush (-9), 2) := by decide +kernel
theorem dX5_judge_39 : decode cX5_judge 39 = .ok (.istore_n 3, 1) := by decide +kernel
theorem dX5_judge_40 : decode cX5_judge 40 = .ok (.aload_n 0, 1) := by decide +kernel
theorem dX5_judge_41 : decode cX5_judge 41 = .ok (.invokevirtual 203, 3) := by decide +kernel
theorem dX5_judge_44 : decode cX5_judge 44 = .ok (.aload_n 0, 1) := by decide +kernel
theorem dX5_judge_45 : decode cX5_judge 45 = .ok (.iload_n 1, 1) := by decide +kernel
theorem dX5_judge_46 : decode cX5_judge 46 = .ok (.invokevirtual 197, 3) := by decide +kernel
theorem dX5_judge_49 : decode cX5_judge 49 = .ok (.iconst 0, 1) := by decide +kernel
theorem dX5_judge_50 : decode cX5_judge 50 = .ok (.istore 4, 2) := by decide +kernel
theorem dX5_judge_52 : decode cX5_judge 52 = .ok (.iload 4, 2) := by decide +kernel
theorem dX5_judge_54 : decode cX5_judge 54 = .ok (.iload_n 2, 1) := by decide +kernel
theorem dX5_judge_55 : decode cX5_judge 55 = .ok (.if_icmp .ge 47, 3) := by decide +kernel
theorem dX5_judge_58 : decode cX5_judge 58 = .ok (.iload_n 3, 1) := by decide +kernel
theorem dX5_judge_59 : decode cX5_judge 59 = .ok (.ifCond .ge 43, 3) := by decide +kernel
theorem dX5_judge_62 : decode cX5_judge 62 = .ok (.iload 4, 2) := by decide +kernel
theorem dX5_judge_64 : decode cX5_judge 64 = .ok (.aload_n 0, 1) := by decide +kernel
theorem dX5_judge_65 : decode cX5_judge 65 = .ok (.getfield 7, 3) := by decide +kernel
theorem dX5_judge_68 : decode cX5_judge 68 = .ok (.if_icmp .ge 25, 3) := by decide +kernel
theorem dX5_judge_71 : decode cX5_judge 71 = .ok (.aload_n 0, 1) := by decide +kernel
theorem dX5_judge_72 : decode cX5_judge 72 = .ok (.getfield 20, 3) := by decide +kernel
theorem dX5_judge_75 : decode cX5_judge 75 = .ok (.iload 4, 2) := by decide +kernel
theorem dX5_judge_77 : decode cX5_judge 77 = .ok (.iaload, 1) := by decide +kernel
theorem dX5_judge_78 : decode cX5_judge 78 = .ok (.aload_n 0, 1) := by decide +kernel
theorem dX5_judge_79 : decode cX5_judge 79 = .ok (.getfield 89, 3) := by decide +kernel
theorem dX5_judge_82 : decode cX5_judge 82 = .ok (.iload 4, 2) := by decide +kernel
theorem dX5_judge_84 : decode cX5_judge 84 = .ok (.iaload, 1) := by decide +kernel
theorem dX5_judge_85 : decode cX5_judge 85 = .ok (.if_icmp .ne 8, 3) := by decide +kernel
theorem dX5_judge_88 : decode cX5_judge 88 = .ok (.bipush (-9), 2) := by decide +kernel
theorem dX5_judge_90 : decode cX5_judge 90 = .ok (.goto 5, 3) := by decide +kernel
theorem dX5_judge_93 : decode cX5_judge 93 = .ok (.iload 4, 2) := by decide +kernel
theorem dX5_judge_95 : decode cX5_judge 95 = .ok (.istore_n 3, 1) := by decide +kernel
theorem dX5_judge_96 : decode cX5_judge 96 = .ok (.iinc 4 1, 3) := by decide +kernel
theorem dX5_judge_99 : decode cX5_judge 99 = .ok (.goto (-47), 3) := by decide +kernel
theorem dX5_judge_102 : decode cX5_judge 102 = .ok (.aload_n 0, 1) := by decide +kernel
theorem dX5_judge_103 : decode cX5_judge 103 = .ok (.invokevirtual 209, 3) := by decide +kernel
theorem dX5_judge_106 : decode cX5_judge 106 = .ok (.iload_n 3, 1) := by decide +kernel
theorem dX5_judge_107 : decode cX5_judge 107 = .ok (.ireturn, 1) := by decide +kernel
theorem dX5_clear_0 : decode cX5_clear 0 = .ok (.aload_n 0, 1) := by decide +kernel
theorem dX5_clear_1 : decode cX5_clear 1 = .ok (.iconst 0, 1) := by decide +kernel
theorem dX5_clear_2 : decode cX5_clear 2 = .ok (.putfield 92, 3) := by decide +kernel
theorem dX5_clear_5 : decode cX5_clear 5 = .ok (.aload_n 0, 1) := by decide +kernel
theorem dX5_clear_6 : decode cX5_clear 6 = .ok (.getfield 276, 3) := by decide +kernel
theorem dX5_clear_9 : decode cX5_clear 9 = .ok (.istore_n 1, 1) := by decide +kernel
theorem dX5_clear_10 : decode cX5_clear 10 = .ok (.aload_n 0, 1) := by decide +kernel
theorem dX5_clear_11 : decode cX5_clear 11 = .ok (.iconst 0, 1) := by decide +kernel
theorem dX5_clear_12 : decode cX5_clear 12 = .ok (.putfield 276, 3) := by decide +kernel
theorem dX5_clear_15 : decode cX5_clear 15 = .ok (.iload_n 1, 1) := by decide +kernel
theorem dX5_clear_16 : decode cX5_clear 16 = .ok (.ireturn, 1) := by decide +kernel
theorem dX5_drawBelow_0 : decode cX5_drawBelow 0 = .ok (.aload_n 0, 1) := by decide +kernel
theorem dX5_drawBelow_1 : decode cX5_drawBelow 1 = .ok (.aload_n 0, 1) := by decide +kernel
theorem dX5_drawBelow_2 : decode cX5_drawBelow 2 = .ok (.getfield 302, 3) := by decide +kernel
theorem dX5_drawBelow_5 : decode cX5_drawBelow 5 = .ok (.ldc_w 305, 3) := by decide +kernel
theorem dX5_drawBelow_8 : decode cX5_drawBelow 8 = .ok (.imul, 1) := by decide +kernel
theorem dX5_drawBelow_9 : decode cX5_drawBelow 9 = .ok (.sipush 12345, 3) := by decide +kernel
theorem dX5_drawBelow_12 : decode cX5_drawBelow 12 = .ok (.iadd, 1) := by decide +kernel
theorem dX5_drawBelow_13 : decode cX5_drawBelow 13 = .ok (.putfield 302, 3) := by decide +kernel
theorem dX5_drawBelow_16 : decode cX5_drawBelow 16 = .ok (.aload_n 0, 1) := by decide +kernel
theorem dX5_drawBelow_17 : decode cX5_drawBelow 17 = .ok (.getfield 302, 3) := by decide +kernel
theorem dX5_drawBelow_20 : decode cX5_drawBelow 20 = .ok (.ldc_w 306, 3) := by decide +kernel
theorem dX5_drawBelow_23 : decode cX5_drawBelow 23 = .ok (.iand, 1) := by decide +kernel
theorem dX5_drawBelow_24 : decode cX5_drawBelow 24 = .ok (.ldc_w 307, 3) := by decide +kernel
theorem dX5_drawBelow_27 : decode cX5_drawBelow 27 = .ok (.idiv, 1) := by decide +kernel
theorem dX5_drawBelow_28 : decode cX5_drawBelow 28 = .ok (.iload_n 1, 1) := by decide +kernel
theorem dX5_drawBelow_29 : decode cX5_drawBelow 29 = .ok (.irem, 1) := by decide +kernel
theorem dX5_drawBelow_30 : decode cX5_drawBelow 30 = .ok (.ireturn, 1) := by decide +kernel
theorem dX5_lots_0 : decode cX5_lots 0 = .ok (.aload_n 0, 1) := by decide +kernel
theorem dX5_lots_1 : decode cX5_lots 1 = .ok (.iconst 0, 1) := by decide +kernel
theorem dX5_lots_2 : decode cX5_lots 2 = .ok (.putfield 92, 3) := by decide +kernel
theorem dX5_lots_5 : decode cX5_lots 5 = .ok (.iload_n 1, 1) := by decide +kernel
theorem dX5_lots_6 : decode cX5_lots 6 = .ok (.iconst 1, 1) := by decide +kernel
theorem dX5_lots_7 : decode cX5_lots 7 = .ok (.bipush 20, 2) := by decide +kernel
theorem dX5_lots_9 : decode cX5_lots 9 = .ok (.invokestatic 236, 3) := by decide +kernel
theorem dX5_lots_12 : decode cX5_lots 12 = .ok (.iload_n 3, 1) := by decide +kernel
theorem dX5_lots_13 : decode cX5_lots 13 = .ok (.iconst 1, 1) := by decide +kernel
theorem dX5_lots_14 : decode cX5_lots 14 = .ok (.invokestatic 246, 3) := by decide +kernel
theorem dX5_lots_17 : decode cX5_lots 17 = .ok (.istore 4, 2) := by decide +kernel
theorem dX5_lots_19 : decode cX5_lots 19 = .ok (.iload 4, 2) := by decide +kernel
theorem dX5_lots_21 : decode cX5_lots 21 = .ok (.ifCond .ge 10, 3) := by decide +kernel
theorem dX5_lots_24 : decode cX5_lots 24 = .ok (.aload_n 0, 1) := by decide +kernel
theorem dX5_lots_25 : decode cX5_lots 25 = .ok (.iload 4, 2) := by decide +kernel
theorem dX5_lots_27 : decode cX5_lots 27 = .ok (.invokevirtual 139, 3) := by decide +kernel
theorem dX5_lots_30 : decode cX5_lots 30 = .ok (.ireturn, 1) := by decide +kernel
theorem dX5_lots_31 : decode cX5_lots 31 = .ok (.aload_n 0, 1) := by decide +kernel
theorem dX5_lots_32 : decode cX5_lots 32 = .ok (.iload_n 2, 1) := by decide +kernel
theorem dX5_lots_33 : decode cX5_lots 33 = .ok (.putfield 302, 3) := by decide +kernel
theorem dX5_lots_36 : decode cX5_lots 36 = .ok (.iconst 0, 1) := by decide +kernel
theorem dX5_lots_37 : decode cX5_lots 37 = .ok (.istore 5, 2) := by decide +kernel
theorem dX5_lots_39 : decode cX5_lots 39 = .ok (.aload_n 0, 1) := by decide +kernel
theorem dX5_lots_40 : decode cX5_lots 40 = .ok (.invokevirtual 203, 3) := by decide +kernel
theorem dX5_lots_43 : decode cX5_lots 43 = .ok (.iconst 0, 1) := by decide +kernel
theorem dX5_lots_44 : decode cX5_lots 44 = .ok (.istore 6, 2) := by decide +kernel
theorem dX5_lots_46 : decode cX5_lots 46 = .ok (.iload 6, 2) := by decide +kernel
theorem dX5_lots_48 : decode cX5_lots 48 = .ok (.iload_n 1, 1) := by decide +kernel
theorem dX5_lots_49 : decode cX5_lots 49 = .ok (.if_icmp .ge 51, 3) := by decide +kernel
theorem dX5_lots_52 : decode cX5_lots 52 = .ok (.aload_n 0, 1) := by decide +kernel
theorem dX5_lots_53 : decode cX5_lots 53 = .ok (.aload_n 0, 1) := by decide +kernel
theorem dX5_lots_54 : decode cX5_lots 54 = .ok (.bipush 10, 2) := by decide +kernel
theorem dX5_lots_56 : decode cX5_lots 56 = .ok (.invokevirtual 308, 3) := by decide +kernel
theorem dX5_lots_59 : decode cX5_lots 59 = .ok (.putfield 23, 3) := by decide +kernel
theorem dX5_lots_62 : decode cX5_lots 62 = .ok (.aload_n 0, 1) := by decide +kernel
theorem dX5_lots_63 : decode cX5_lots 63 = .ok (.aload_n 0, 1) := by decide +kernel
theorem dX5_lots_64 : decode cX5_lots 64 = .ok (.bipush 10, 2) := by decide +kernel
theorem dX5_lots_66 : decode cX5_lots 66 = .ok (.invokevirtual 308, 3) := by decide +kernel
theorem dX5_lots_69 : decode cX5_lots 69 = .ok (.putfield 26, 3) := by decide +kernel
theorem dX5_lots_72 : decode cX5_lots 72 = .ok (.aload_n 0, 1) := by decide +kernel
theorem dX5_lots_73 : decode cX5_lots 73 = .ok (.bipush 48, 2) := by decide +kernel
theorem dX5_lots_75 : decode cX5_lots 75 = .ok (.invokevirtual 197, 3) := by decide +kernel
theorem dX5_lots_78 : decode cX5_lots 78 = .ok (.iload 5, 2) := by decide +kernel
theorem dX5_lots_80 : decode cX5_lots 80 = .ok (.aload_n 0, 1) := by decide +kernel
theorem dX5_lots_81 : decode cX5_lots 81 = .ok (.iload_n 3, 1) := by decide +kernel
theorem dX5_lots_82 : decode cX5_lots 82 = .ok (.iconst 1, 1) := by decide +kernel
theorem dX5_lots_83 : decode cX5_lots 83 = .ok (.iadd, 1) := by decide +kernel
theorem dX5_lots_84 : decode cX5_lots 84 = .ok (.invokevirtual 243, 3) := by decide +kernel
theorem dX5_lots_87 : decode cX5_lots 87 = .ok (.iadd, 1) := by decide +kernel
theorem dX5_lots_88 : decode cX5_lots 88 = .ok (.istore 5, 2) := by decide +kernel
theorem dX5_lots_90 : decode cX5_lots 90 = .ok (.aload_n 0, 1) := by decide +kernel
theorem dX5_lots_91 : decode cX5_lots 91 = .ok (.invokevirtual 209, 3) := by decide +kernel
theorem dX5_lots_94 : decode cX5_lots 94 = .ok (.iinc 6 1, 3) := by decide +kernel
theorem dX5_lots_97 : decode cX5_lots 97 = .ok (.goto (-51), 3) := by decide +kernel
theorem dX5_lots_100 : decode cX5_lots 100 = .ok (.iload 5, 2) := by decide +kernel
theorem dX5_lots_102 : decode cX5_lots 102 = .ok (.ireturn, 1) := by decide +kernel
theorem dX5_count_0 : decode cX5_count 0 = .ok (.aload_n 0, 1) := by decide +kernel
theorem dX5_count_1 : decode cX5_count 1 = .ok (.iconst 0, 1) := by decide +kernel
theorem dX5_count_2 : decode cX5_count 2 = .ok (.putfield 92, 3) := by decide +kernel
theorem dX5_count_5 : decode cX5_count 5 = .ok (.iload_n 1, 1) := by decide +kernel
theorem dX5_count_6 : decode cX5_count 6 = .ok (.tableswitch 95 0 8 #[50, 55, 60, 65, 70, 75, 80, 85, 90], 50) := by decide +kernel
theorem dX5_count_56 : decode cX5_count 56 = .ok (.aload_n 0, 1) := by decide +kernel
theorem dX5_count_57 : decode cX5_count 57 = .ok (.getfield 7, 3) := by decide +kernel
theorem dX5_count_60 : decode cX5_count 60 = .ok (.ireturn, 1) := by decide +kernel
theorem dX5_count_61 : decode cX5_count 61 = .ok (.aload_n 0, 1) := by decide +kernel
theorem dX5_count_62 : decode cX5_count 62 = .ok (.getfield 99, 3) := by decide +kernel
theorem dX5_count_65 : decode cX5_count 65 = .ok (.ireturn, 1) := by decide +kernel
theorem dX5_count_66 : decode cX5_count 66 = .ok (.aload_n 0, 1) := by decide +kernel
theorem dX5_count_67 : decode cX5_count 67 = .ok (.getfield 120, 3) := by decide +kernel
theorem dX5_count_70 : decode cX5_count 70 = .ok (.ireturn, 1) := by decide +kernel
theorem dX5_count_71 : decode cX5_count 71 = .ok (.aload_n 0, 1) := by decide +kernel
theorem dX5_count_72 : decode cX5_count 72 = .ok (.getfield 23, 3) := by decide +kernel
theorem dX5_count_75 : decode cX5_count 75 = .ok (.ireturn, 1) := by decide +kernel
theorem dX5_count_76 : decode cX5_count 76 = .ok (.aload_n 0, 1) := by decide +kernel
theorem dX5_count_77 : decode cX5_count 77 = .ok (.getfield 26, 3) := by decide +kernel
theorem dX5_count_80 : decode cX5_count 80 = .ok (.ireturn, 1) := by decide +kernel
theorem dX5_count_81 : decode cX5_count 81 = .ok (.aload_n 0, 1) := by decide +kernel
theorem dX5_count_82 : decode cX5_count 82 = .ok (.invokevirtual 299, 3) := by decide +kernel
theorem dX5_count_85 : decode cX5_count 85 = .ok (.ireturn, 1) := by decide +kernel
theorem dX5_count_86 : decode cX5_count 86 = .ok (.aload_n 0, 1) := by decide +kernel
theorem dX5_count_87 : decode cX5_count 87 = .ok (.getfield 142, 3) := by decide +kernel
theorem dX5_count_90 : decode cX5_count 90 = .ok (.ireturn, 1) := by decide +kernel
theorem dX5_count_91 : decode cX5_count 91 = .ok (.aload_n 0, 1) := by decide +kernel
theorem dX5_count_92 : decode cX5_count 92 = .ok (.getfield 276, 3) := by decide +kernel
theorem dX5_count_95 : decode cX5_count 95 = .ok (.ireturn, 1) := by decide +kernel
theorem dX5_count_96 : decode cX5_count 96 = .ok (.aload_n 0, 1) := by decide +kernel
theorem dX5_count_97 : decode cX5_count 97 = .ok (.getfield 212, 3) := by decide +kernel
theorem dX5_count_100 : decode cX5_count 100 = .ok (.ireturn, 1) := by decide +kernel
theorem dX5_count_101 : decode cX5_count 101 = .ok (.iload_n 1, 1) := by decide +kernel
theorem dX5_count_102 : decode cX5_count 102 = .ok (.i2l, 1) := by decide +kernel
theorem dX5_count_103 : decode cX5_count 103 = .ok (.ldc2_w 311, 3) := by decide +kernel
theorem dX5_count_106 : decode cX5_count 106 = .ok (.ldc2_w 176, 3) := by decide +kernel
theorem dX5_count_109 : decode cX5_count 109 = .ok (.invokestatic 95, 3) := by decide +kernel
theorem dX5_count_112 : decode cX5_count 112 = .ok (.ifCond .eq 15, 3) := by decide +kernel
theorem dX5_count_115 : decode cX5_count 115 = .ok (.aload_n 0, 1) := by decide +kernel
theorem dX5_count_116 : decode cX5_count 116 = .ok (.getfield 47, 3) := by decide +kernel
theorem dX5_count_119 : decode cX5_count 119 = .ok (.iload_n 1, 1) := by decide +kernel
theorem dX5_count_120 : decode cX5_count 120 = .ok (.bipush 10, 2) := by decide +kernel
theorem dX5_count_122 : decode cX5_count 122 = .ok (.isub, 1) := by decide +kernel
theorem dX5_count_123 : decode cX5_count 123 = .ok (.iaload, 1) := by decide +kernel
theorem dX5_count_124 : decode cX5_count 124 = .ok (.goto 5, 3) := by decide +kernel
theorem dX5_count_127 : decode cX5_count 127 = .ok (.bipush (-9), 2) := by decide +kernel
theorem dX5_count_129 : decode cX5_count 129 = .ok (.ireturn, 1) := by decide +kernel
theorem dL_law_0 : decode cL_law 0 = .ok (.new 7, 3) := by decide +kernel
theorem dL_law_3 : decode cL_law 3 = .ok (.dup, 1) := by decide +kernel
theorem dL_law_4 : decode cL_law 4 = .ok (.invokespecial 9, 3) := by decide +kernel
theorem dL_law_7 : decode cL_law 7 = .ok (.astore_n 1, 1) := by decide +kernel
theorem dL_law_8 : decode cL_law 8 = .ok (.new 10, 3) := by decide +kernel
theorem dL_law_11 : decode cL_law 11 = .ok (.dup, 1) := by decide +kernel
theorem dL_law_12 : decode cL_law 12 = .ok (.invokespecial 12, 3) := by decide +kernel
theorem dL_law_15 : decode cL_law 15 = .ok (.astore_n 2, 1) := by decide +kernel
theorem dL_law_16 : decode cL_law 16 = .ok (.iconst 0, 1) := by decide +kernel
theorem dL_law_17 : decode cL_law 17 = .ok (.istore_n 3, 1) := by decide +kernel
theorem dL_law_18 : decode cL_law 18 = .ok (.iload_n 3, 1) := by decide +kernel
theorem dL_law_19 : decode cL_law 19 = .ok (.aload_n 0, 1) := by decide +kernel
theorem dL_law_20 : decode cL_law 20 = .ok (.arraylength, 1) := by decide +kernel
theorem dL_law_21 : decode cL_law 21 = .ok (.iconst 4, 1) := by decide +kernel
theorem dL_law_22 : decode cL_law 22 = .ok (.isub, 1) := by decide +kernel
theorem dL_law_23 : decode cL_law 23 = .ok (.if_icmp .gt 1475, 3) := by decide +kernel
theorem dL_law_26 : decode cL_law 26 = .ok (.aload_n 0, 1) := by decide +kernel
theorem dL_law_27 : decode cL_law 27 = .ok (.iload_n 3, 1) := by decide +kernel
theorem dL_law_28 : decode cL_law 28 = .ok (.iaload, 1) := by decide +kernel
theorem dL_law_29 : decode cL_law 29 = .ok (.bipush 63, 2) := by decide +kernel
theorem dL_law_31 : decode cL_law 31 = .ok (.iand, 1) := by decide +kernel
theorem dL_law_32 : decode cL_law 32 = .ok (.tableswitch 1460 0 48 #[212, 235, 248, 281, 324, 357, 390, 413, 456, 489, 522, 545, 558, 591, 634, 667, 700, 733, 766, 789, 822, 855, 868, 891, 914, 937, 970, 983, 996, 1009, 1032, 1055, 1078, 1112, 1125, 1148, 1181, 1194, 1207, 1240, 1273, 1286, 1309, 1332, 1355, 1368, 1411, 1424, 1437], 212) := by decide +kernel
theorem dL_law_244 : decode cL_law 244 = .ok (.aload_n 1, 1) := by decide +kernel
theorem dL_law_245 : decode cL_law 245 = .ok (.aload_n 0, 1) := by decide +kernel
theorem dL_law_246 : decode cL_law 246 = .ok (.iload_n 3, 1) := by decide +kernel
theorem dL_law_247 : decode cL_law 247 = .ok (.iconst 1, 1) := by decide +kernel
theorem dL_law_248 : decode cL_law 248 = .ok (.iadd, 1) := by decide +kernel
theorem dL_law_249 : decode cL_law 249 = .ok (.iaload, 1) := by decide +kernel
theorem dL_law_250 : decode cL_law 250 = .ok (.invokevirtual 13, 3) := by decide +kernel
theorem dL_law_253 : decode cL_law 253 = .ok (.aload_n 2, 1) := by decide +kernel
theorem dL_law_254 : decode cL_law 254 = .ok (.aload_n 0, 1) := by decide +kernel
theorem dL_law_255 : decode cL_law 255 = .ok (.iload_n 3, 1) := by decide +kernel
theorem dL_law_256 : decode cL_law 256 = .ok (.iconst 1, 1) := by decide +kernel
theorem dL_law_257 : decode cL_law 257 = .ok (.iadd, 1) := by decide +kernel
theorem dL_law_258 : decode cL_law 258 = .ok (.iaload, 1) := by decide +kernel
theorem dL_law_259 : decode cL_law 259 = .ok (.invokevirtual 17, 3) := by decide +kernel
theorem dL_law_262 : decode cL_law 262 = .ok (.if_icmp .eq 1230, 3) := by decide +kernel
theorem dL_law_265 : decode cL_law 265 = .ok (.iconst 0, 1) := by decide +kernel
theorem dL_law_266 : decode cL_law 266 = .ok (.ireturn, 1) := by decide +kernel
theorem dL_law_267 : decode cL_law 267 = .ok (.aload_n 1, 1) := by decide +kernel
theorem dL_law_268 : decode cL_law 268 = .ok (.invokevirtual 18, 3) := by decide +kernel
theorem dL_law_271 : decode cL_law 271 = .ok (.aload_n 2, 1) := by decide +kernel
theorem dL_law_272 : decode cL_law 272 = .ok (.invokevirtual 22, 3) := by decide +kernel
theorem dL_law_275 : decode cL_law 275 = .ok (.if_icmp .eq 1217, 3) := by decide +kernel
theorem dL_law_278 : decode cL_law 278 = .ok (.iconst 0, 1) := by decide +kernel
theorem dL_law_279 : decode cL_law 279 = .ok (.ireturn, 1) := by decide +kernel
theorem dL_law_280 : decode cL_law 280 = .ok (.aload_n 1, 1) := by decide +kernel
theorem dL_law_281 : decode cL_law 281 = .ok (.aload_n 0, 1) := by decide +kernel
theorem dL_law_282 : decode cL_law 282 = .ok (.iload_n 3, 1) := by decide +kernel
theorem dL_law_283 : decode cL_law 283 = .ok (.iconst 1, 1) := by decide +kernel
theorem dL_law_284 : decode cL_law 284 = .ok (.iadd, 1) := by decide +kernel
theorem dL_law_285 : decode cL_law 285 = .ok (.iaload, 1) := by decide +kernel
theorem dL_law_286 : decode cL_law 286 = .ok (.aload_n 0, 1) := by decide +kernel
theorem dL_law_287 : decode cL_law 287 = .ok (.iload_n 3, 1) := by decide +kernel
theorem dL_law_288 : decode cL_law 288 = .ok (.iconst 2, 1) := by decide +kernel
theorem dL_law_289 : decode cL_law 289 = .ok (.iadd, 1) := by decide +kernel
theorem dL_law_290 : decode cL_law 290 = .ok (.iaload, 1) := by decide +kernel
theorem dL_law_291 : decode cL_law 291 = .ok (.invokevirtual 23, 3) := by decide +kernel
theorem dL_law_294 : decode cL_law 294 = .ok (.aload_n 2, 1) := by decide +kernel
theorem dL_law_295 : decode cL_law 295 = .ok (.aload_n 0, 1) := by decide +kernel
theorem dL_law_296 : decode cL_law 296 = .ok (.iload_n 3, 1) := by decide +kernel
theorem dL_law_297 : decode cL_law 297 = .ok (.iconst 1, 1) := by decide +kernel
theorem dL_law_298 : decode cL_law 298 = .ok (.iadd, 1) := by decide +kernel
theorem dL_law_299 : decode cL_law 299 = .ok (.iaload, 1) := by decide +kernel
theorem dL_law_300 : decode cL_law 300 = .ok (.aload_n 0, 1) := by decide +kernel
theorem dL_law_301 : decode cL_law 301 = .ok (.iload_n 3, 1) := by decide +kernel
theorem dL_law_302 : decode cL_law 302 = .ok (.iconst 2, 1) := by decide +kernel
theorem dL_law_303 : decode cL_law 303 = .ok (.iadd, 1) := by decide +kernel
theorem dL_law_304 : decode cL_law 304 = .ok (.iaload, 1) := by decide +kernel
theorem dL_law_305 : decode cL_law 305 = .ok (.invokevirtual 27, 3) := by decide +kernel
theorem dL_law_308 : decode cL_law 308 = .ok (.if_icmp .eq 1184, 3) := by decide +kernel
theorem dL_law_311 : decode cL_law 311 = .ok (.iconst 0, 1) := by decide +kernel
theorem dL_law_312 : decode cL_law 312 = .ok (.ireturn, 1) := by decide +kernel
theorem dL_law_313 : decode cL_law 313 = .ok (.aload_n 1, 1) := by decide +kernel
theorem dL_law_314 : decode cL_law 314 = .ok (.aload_n 0, 1) := by decide +kernel
theorem dL_law_315 : decode cL_law 315 = .ok (.iload_n 3, 1) := by decide +kernel
theorem dL_law_316 : decode cL_law 316 = .ok (.iconst 1, 1) := by decide +kernel
theorem dL_law_317 : decode cL_law 317 = .ok (.iadd, 1) := by decide +kernel
theorem dL_law_318 : decode cL_law 318 = .ok (.iaload, 1) := by decide +kernel
theorem dL_law_319 : decode cL_law 319 = .ok (.aload_n 0, 1) := by decide +kernel
theorem dL_law_320 : decode cL_law 320 = .ok (.iload_n 3, 1) := by decide +kernel
theorem dL_law_321 : decode cL_law 321 = .ok (.iconst 2, 1) := by decide +kernel
theorem dL_law_322 : decode cL_law 322 = .ok (.iadd, 1) := by decide +kernel
theorem dL_law_323 : decode cL_law 323 = .ok (.iaload, 1) := by decide +kernel
theorem dL_law_324 : decode cL_law 324 = .ok (.aload_n 0, 1) := by decide +kernel
theorem dL_law_325 : decode cL_law 325 = .ok (.iload_n 3, 1) := by decide +kernel
theorem dL_law_326 : decode cL_law 326 = .ok (.iconst 3, 1) := by decide +kernel
theorem dL_law_327 : decode cL_law 327 = .ok (.iadd, 1) := by decide +kernel
theorem dL_law_328 : decode cL_law 328 = .ok (.iaload, 1) := by decide +kernel
theorem dL_law_329 : decode cL_law 329 = .ok (.invokevirtual 28, 3) := by decide +kernel
theorem dL_law_332 : decode cL_law 332 = .ok (.aload_n 2, 1) := by decide +kernel
theorem dL_law_333 : decode cL_law 333 = .ok (.aload_n 0, 1) := by decide +kernel
theorem dL_law_334 : decode cL_law 334 = .ok (.iload_n 3, 1) := by decide +kernel
theorem dL_law_335 : decode cL_law 335 = .ok (.iconst 1, 1) := by decide +kernel
theorem dL_law_336 : decode cL_law 336 = .ok (.iadd, 1) := by decide +kernel
theorem dL_law_337 : decode cL_law 337 = .ok (.iaload, 1) := by decide +kernel
theorem dL_law_338 : decode cL_law 338 = .ok (.aload_n 0, 1) := by decide +kernel
theorem dL_law_339 : decode cL_law 339 = .ok (.iload_n 3, 1) := by decide +kernel
theorem dL_law_340 : decode cL_law 340 = .ok (.iconst 2, 1) := by decide +kernel
theorem dL_law_341 : decode cL_law 341 = .ok (.iadd, 1) := by decide +kernel
theorem dL_law_342 : decode cL_law 342 = .ok (.iaload, 1) := by decide +kernel
theorem dL_law_343 : decode cL_law 343 = .ok (.aload_n 0, 1) := by decide +kernel
theorem dL_law_344 : decode cL_law 344 = .ok (.iload_n 3, 1) := by decide +kernel
theorem dL_law_345 : decode cL_law 345 = .ok (.iconst 3, 1) := by decide +kernel
theorem dL_law_346 : decode cL_law 346 = .ok (.iadd, 1) := by decide +kernel
theorem dL_law_347 : decode cL_law 347 = .ok (.iaload, 1) := by decide +kernel
theorem dL_law_348 : decode cL_law 348 = .ok (.invokevirtual 32, 3) := by decide +kernel
theorem dL_law_351 : decode cL_law 351 = .ok (.if_icmp .eq 1141, 3) := by decide +kernel
theorem dL_law_354 : decode cL_law 354 = .ok (.iconst 0, 1) := by decide +kernel
theorem dL_law_355 : decode cL_law 355 = .ok (.ireturn, 1) := by decide +kernel
theorem dL_law_356 : decode cL_law 356 = .ok (.aload_n 1, 1) := by decide +kernel
theorem dL_law_357 : decode cL_law 357 = .ok (.aload_n 0, 1) := by decide +kernel
theorem dL_law_358 : decode cL_law 358 = .ok (.iload_n 3, 1) := by decide +kernel
theorem dL_law_359 : decode cL_law 359 = .ok (.iconst 1, 1) := by decide +kernel
theorem dL_law_360 : decode cL_law 360 = .ok (.iadd, 1) := by decide +kernel
theorem dL_law_361 : decode cL_law 361 = .ok (.iaload, 1) := by decide +kernel
theorem dL_law_362 : decode cL_law 362 = .ok (.aload_n 0, 1) := by decide +kernel
theorem dL_law_363 : decode cL_law 363 = .ok (.iload_n 3, 1) := by decide +kernel
theorem dL_law_364 : decode cL_law 364 = .ok (.iconst 2, 1) := by decide +kernel
theorem dL_law_365 : decode cL_law 365 = .ok (.iadd, 1) := by decide +kernel
theorem dL_law_366 : decode cL_law 366 = .ok (.iaload, 1) := by decide +kernel
theorem dL_law_367 : decode cL_law 367 = .ok (.invokevirtual 33, 3) := by decide +kernel
theorem dL_law_370 : decode cL_law 370 = .ok (.aload_n 2, 1) := by decide +kernel
theorem dL_law_371 : decode cL_law 371 = .ok (.aload_n 0, 1) := by decide +kernel
theorem dL_law_372 : decode cL_law 372 = .ok (.iload_n 3, 1) := by decide +kernel
theorem dL_law_373 : decode cL_law 373 = .ok (.iconst 1, 1) := by decide +kernel
theorem dL_law_374 : decode cL_law 374 = .ok (.iadd, 1) := by decide +kernel
theorem dL_law_375 : decode cL_law 375 = .ok (.iaload, 1) := by decide +kernel
theorem dL_law_376 : decode cL_law 376 = .ok (.aload_n 0, 1) := by decide +kernel
theorem dL_law_377 : decode cL_law 377 = .ok (.iload_n 3, 1) := by decide +kernel
theorem dL_law_378 : decode cL_law 378 = .ok (.iconst 2, 1) := by decide +kernel
theorem dL_law_379 : decode cL_law 379 = .ok (.iadd, 1) := by decide +kernel
theorem dL_law_380 : decode cL_law 380 = .ok (.iaload, 1) := by decide +kernel
theorem dL_law_381 : decode cL_law 381 = .ok (.invokevirtual 36, 3) := by decide +kernel
theorem dL_law_384 : decode cL_law 384 = .ok (.if_icmp .eq 1108, 3) := by decide +kernel
theorem dL_law_387 : decode cL_law 387 = .ok (.iconst 0, 1) := by decide +kernel
theorem dL_law_388 : decode cL_law 388 = .ok (.ireturn, 1) := by decide +kernel
theorem dL_law_389 : decode cL_law 389 = .ok (.aload_n 1, 1) := by decide +kernel
theorem dL_law_390 : decode cL_law 390 = .ok (.aload_n 0, 1) := by decide +kernel
theorem dL_law_391 : decode cL_law 391 = .ok (.iload_n 3, 1) := by decide +kernel
theorem dL_law_392 : decode cL_law 392 = .ok (.iconst 1, 1) := by decide +kernel
theorem dL_law_393 : decode cL_law 393 = .ok (.iadd, 1) := by decide +kernel
theorem dL_law_394 : decode cL_law 394 = .ok (.iaload, 1) := by decide +kernel
theorem dL_law_395 : decode cL_law 395 = .ok (.aload_n 0, 1) := by decide +kernel
theorem dL_law_396 : decode cL_law 396 = .ok (.iload_n 3, 1) := by decide +kernel
theorem dL_law_397 : decode cL_law 397 = .ok (.iconst 2, 1) := by decide +kernel
theorem dL_law_398 : decode cL_law 398 = .ok (.iadd, 1) := by decide +kernel
theorem dL_law_399 : decode cL_law 399 = .ok (.iaload, 1) := by decide +kernel
theorem dL_law_400 : decode cL_law 400 = .ok (.invokevirtual 37, 3) := by decide +kernel
theorem dL_law_403 : decode cL_law 403 = .ok (.aload_n 2, 1) := by decide +kernel
theorem dL_law_404 : decode cL_law 404 = .ok (.aload_n 0, 1) := by decide +kernel
theorem dL_law_405 : decode cL_law 405 = .ok (.iload_n 3, 1) := by decide +kernel
theorem dL_law_406 : decode cL_law 406 = .ok (.iconst 1, 1) := by decide +kernel
theorem dL_law_407 : decode cL_law 407 = .ok (.iadd, 1) := by decide +kernel
theorem dL_law_408 : decode cL_law 408 = .ok (.iaload, 1) := by decide +kernel
theorem dL_law_409 : decode cL_law 409 = .ok (.aload_n 0, 1) := by decide +kernel
theorem dL_law_410 : decode cL_law 410 = .ok (.iload_n 3, 1) := by decide +kernel
theorem dL_law_411 : decode cL_law 411 = .ok (.iconst 2, 1) := by decide +kernel
theorem dL_law_412 : decode cL_law 412 = .ok (.iadd, 1) := by decide +kernel
theorem dL_law_413 : decode cL_law 413 = .ok (.iaload, 1) := by decide +kernel
theorem dL_law_414 : decode cL_law 414 = .ok (.invokevirtual 40, 3) := by decide +kernel
theorem dL_law_417 : decode cL_law 417 = .ok (.if_icmp .eq 1075, 3) := by decide +kernel
theorem dL_law_420 : decode cL_law 420 = .ok (.iconst 0, 1) := by decide +kernel
theorem dL_law_421 : decode cL_law 421 = .ok (.ireturn, 1) := by decide +kernel
theorem dL_law_422 : decode cL_law 422 = .ok (.aload_n 1, 1) := by decide +kernel
theorem dL_law_423 : decode cL_law 423 = .ok (.aload_n 0, 1) := by decide +kernel
theorem dL_law_424 : decode cL_law 424 = .ok (.iload_n 3, 1) := by decide +kernel
theorem dL_law_425 : decode cL_law 425 = .ok (.iconst 1, 1) := by decide +kernel
theorem dL_law_426 : decode cL_law 426 = .ok (.iadd, 1) := by decide +kernel
theorem dL_law_427 : decode cL_law 427 = .ok (.iaload, 1) := by decide +kernel
theorem dL_law_428 : decode cL_law 428 = .ok (.invokevirtual 41, 3) := by decide +kernel
theorem dL_law_431 : decode cL_law 431 = .ok (.aload_n 2, 1) := by decide +kernel
theorem dL_law_432 : decode cL_law 432 = .ok (.aload_n 0, 1) := by decide +kernel
theorem dL_law_433 : decode cL_law 433 = .ok (.iload_n 3, 1) := by decide +kernel
theorem dL_law_434 : decode cL_law 434 = .ok (.iconst 1, 1) := by decide +kernel
theorem dL_law_435 : decode cL_law 435 = .ok (.iadd, 1) := by decide +kernel
theorem dL_law_436 : decode cL_law 436 = .ok (.iaload, 1) := by decide +kernel
theorem dL_law_437 : decode cL_law 437 = .ok (.invokevirtual 44, 3) := by decide +kernel
theorem dL_law_440 : decode cL_law 440 = .ok (.if_icmp .eq 1052, 3) := by decide +kernel
theorem dL_law_443 : decode cL_law 443 = .ok (.iconst 0, 1) := by decide +kernel
theorem dL_law_444 : decode cL_law 444 = .ok (.ireturn, 1) := by decide +kernel
theorem dL_law_445 : decode cL_law 445 = .ok (.aload_n 1, 1) := by decide +kernel
theorem dL_law_446 : decode cL_law 446 = .ok (.aload_n 0, 1) := by decide +kernel
theorem dL_law_447 : decode cL_law 447 = .ok (.iload_n 3, 1) := by decide +kernel
theorem dL_law_448 : decode cL_law 448 = .ok (.iconst 1, 1) := by decide +kernel
theorem dL_law_449 : decode cL_law 449 = .ok (.iadd, 1) := by decide +kernel
theorem dL_law_450 : decode cL_law 450 = .ok (.iaload, 1) := by decide +kernel
theorem dL_law_451 : decode cL_law 451 = .ok (.aload_n 0, 1) := by decide +kernel
theorem dL_law_452 : decode cL_law 452 = .ok (.iload_n 3, 1) := by decide +kernel
theorem dL_law_453 : decode cL_law 453 = .ok (.iconst 2, 1) := by decide +kernel
theorem dL_law_454 : decode cL_law 454 = .ok (.iadd, 1) := by decide +kernel
theorem dL_law_455 : decode cL_law 455 = .ok (.iaload, 1) := by decide +kernel
theorem dL_law_456 : decode cL_law 456 = .ok (.aload_n 0, 1) := by decide +kernel
theorem dL_law_457 : decode cL_law 457 = .ok (.iload_n 3, 1) := by decide +kernel
theorem dL_law_458 : decode cL_law 458 = .ok (.iconst 3, 1) := by decide +kernel
theorem dL_law_459 : decode cL_law 459 = .ok (.iadd, 1) := by decide +kernel
theorem dL_law_460 : decode cL_law 460 = .ok (.iaload, 1) := by decide +kernel
theorem dL_law_461 : decode cL_law 461 = .ok (.invokevirtual 45, 3) := by decide +kernel
theorem dL_law_464 : decode cL_law 464 = .ok (.aload_n 2, 1) := by decide +kernel
theorem dL_law_465 : decode cL_law 465 = .ok (.aload_n 0, 1) := by decide +kernel
theorem dL_law_466 : decode cL_law 466 = .ok (.iload_n 3, 1) := by decide +kernel
theorem dL_law_467 : decode cL_law 467 = .ok (.iconst 1, 1) := by decide +kernel
theorem dL_law_468 : decode cL_law 468 = .ok (.iadd, 1) := by decide +kernel
theorem dL_law_469 : decode cL_law 469 = .ok (.iaload, 1) := by decide +kernel
theorem dL_law_470 : decode cL_law 470 = .ok (.aload_n 0, 1) := by decide +kernel
theorem dL_law_471 : decode cL_law 471 = .ok (.iload_n 3, 1) := by decide +kernel
theorem dL_law_472 : decode cL_law 472 = .ok (.iconst 2, 1) := by decide +kernel
theorem dL_law_473 : decode cL_law 473 = .ok (.iadd, 1) := by decide +kernel
theorem dL_law_474 : decode cL_law 474 = .ok (.iaload, 1) := by decide +kernel
theorem dL_law_475 : decode cL_law 475 = .ok (.aload_n 0, 1) := by decide +kernel
theorem dL_law_476 : decode cL_law 476 = .ok (.iload_n 3, 1) := by decide +kernel
theorem dL_law_477 : decode cL_law 477 = .ok (.iconst 3, 1) := by decide +kernel
theorem dL_law_478 : decode cL_law 478 = .ok (.iadd, 1) := by decide +kernel
theorem dL_law_479 : decode cL_law 479 = .ok (.iaload, 1) := by decide +kernel
theorem dL_law_480 : decode cL_law 480 = .ok (.invokevirtual 48, 3) := by decide +kernel
theorem dL_law_483 : decode cL_law 483 = .ok (.if_icmp .eq 1009, 3) := by decide +kernel
theorem dL_law_486 : decode cL_law 486 = .ok (.iconst 0, 1) := by decide +kernel
theorem dL_law_487 : decode cL_law 487 = .ok (.ireturn, 1) := by decide +kernel
theorem dL_law_488 : decode cL_law 488 = .ok (.aload_n 1, 1) := by decide +kernel
theorem dL_law_489 : decode cL_law 489 = .ok (.aload_n 0, 1) := by decide +kernel
theorem dL_law_490 : decode cL_law 490 = .ok (.iload_n 3, 1) := by decide +kernel
theorem dL_law_491 : decode cL_law 491 = .ok (.iconst 1, 1) := by decide +kernel
theorem dL_law_492 : decode cL_law 492 = .ok (.iadd, 1) := by decide +kernel
theorem dL_law_493 : decode cL_law 493 = .ok (.iaload, 1) := by decide +kernel
theorem dL_law_494 : decode cL_law 494 = .ok (.aload_n 0, 1) := by decide +kernel
theorem dL_law_495 : decode cL_law 495 = .ok (.iload_n 3, 1) := by decide +kernel
theorem dL_law_496 : decode cL_law 496 = .ok (.iconst 2, 1) := by decide +kernel
theorem dL_law_497 : decode cL_law 497 = .ok (.iadd, 1) := by decide +kernel
theorem dL_law_498 : decode cL_law 498 = .ok (.iaload, 1) := by decide +kernel
theorem dL_law_499 : decode cL_law 499 = .ok (.invokevirtual 49, 3) := by decide +kernel
theorem dL_law_502 : decode cL_law 502 = .ok (.aload_n 2, 1) := by decide +kernel
theorem dL_law_503 : decode cL_law 503 = .ok (.aload_n 0, 1) := by decide +kernel
theorem dL_law_504 : decode cL_law 504 = .ok (.iload_n 3, 1) := by decide +kernel
theorem dL_law_505 : decode cL_law 505 = .ok (.iconst 1, 1) := by decide +kernel
theorem dL_law_506 : decode cL_law 506 = .ok (.iadd, 1) := by decide +kernel
theorem dL_law_507 : decode cL_law 507 = .ok (.iaload, 1) := by decide +kernel
theorem dL_law_508 : decode cL_law 508 = .ok (.aload_n 0, 1) := by decide +kernel
theorem dL_law_509 : decode cL_law 509 = .ok (.iload_n 3, 1) := by decide +kernel
theorem dL_law_510 : decode cL_law 510 = .ok (.iconst 2, 1) := by decide +kernel
theorem dL_law_511 : decode cL_law 511 = .ok (.iadd, 1) := by decide +kernel
theorem dL_law_512 : decode cL_law 512 = .ok (.iaload, 1) := by decide +kernel
theorem dL_law_513 : decode cL_law 513 = .ok (.invokevirtual 52, 3) := by decide +kernel
theorem dL_law_516 : decode cL_law 516 = .ok (.if_icmp .eq 976, 3) := by decide +kernel
theorem dL_law_519 : decode cL_law 519 = .ok (.iconst 0, 1) := by decide +kernel
theorem dL_law_520 : decode cL_law 520 = .ok (.ireturn, 1) := by decide +kernel
theorem dL_law_521 : decode cL_law 521 = .ok (.aload_n 1, 1) := by decide +kernel
theorem dL_law_522 : decode cL_law 522 = .ok (.aload_n 0, 1) := by decide +kernel
theorem dL_law_523 : decode cL_law 523 = .ok (.iload_n 3, 1) := by decide +kernel
theorem dL_law_524 : decode cL_law 524 = .ok (.iconst 1, 1) := by decide +kernel
theorem dL_law_525 : decode cL_law 525 = .ok (.iadd, 1) := by decide +kernel
theorem dL_law_526 : decode cL_law 526 = .ok (.iaload, 1) := by decide +kernel
theorem dL_law_527 : decode cL_law 527 = .ok (.aload_n 0, 1) := by decide +kernel
theorem dL_law_528 : decode cL_law 528 = .ok (.iload_n 3, 1) := by decide +kernel
theorem dL_law_529 : decode cL_law 529 = .ok (.iconst 2, 1) := by decide +kernel
theorem dL_law_530 : decode cL_law 530 = .ok (.iadd, 1) := by decide +kernel
theorem dL_law_531 : decode cL_law 531 = .ok (.iaload, 1) := by decide +kernel
theorem dL_law_532 : decode cL_law 532 = .ok (.invokevirtual 53, 3) := by decide +kernel
theorem dL_law_535 : decode cL_law 535 = .ok (.aload_n 2, 1) := by decide +kernel
theorem dL_law_536 : decode cL_law 536 = .ok (.aload_n 0, 1) := by decide +kernel
theorem dL_law_537 : decode cL_law 537 = .ok (.iload_n 3, 1) := by decide +kernel
theorem dL_law_538 : decode cL_law 538 = .ok (.iconst 1, 1) := by decide +kernel
theorem dL_law_539 : decode cL_law 539 = .ok (.iadd, 1) := by decide +kernel
theorem dL_law_540 : decode cL_law 540 = .ok (.iaload, 1) := by decide +kernel
theorem dL_law_541 : decode cL_law 541 = .ok (.aload_n 0, 1) := by decide +kernel
theorem dL_law_542 : decode cL_law 542 = .ok (.iload_n 3, 1) := by decide +kernel
theorem dL_law_543 : decode cL_law 543 = .ok (.iconst 2, 1) := by decide +kernel
theorem dL_law_544 : decode cL_law 544 = .ok (.iadd, 1) := by decide +kernel
theorem dL_law_545 : decode cL_law 545 = .ok (.iaload, 1) := by decide +kernel
theorem dL_law_546 : decode cL_law 546 = .ok (.invokevirtual 56, 3) := by decide +kernel
theorem dL_law_549 : decode cL_law 549 = .ok (.if_icmp .eq 943, 3) := by decide +kernel
theorem dL_law_552 : decode cL_law 552 = .ok (.iconst 0, 1) := by decide +kernel
theorem dL_law_553 : decode cL_law 553 = .ok (.ireturn, 1) := by decide +kernel
theorem dL_law_554 : decode cL_law 554 = .ok (.aload_n 1, 1) := by decide +kernel
theorem dL_law_555 : decode cL_law 555 = .ok (.aload_n 0, 1) := by decide +kernel
theorem dL_law_556 : decode cL_law 556 = .ok (.iload_n 3, 1) := by decide +kernel
theorem dL_law_557 : decode cL_law 557 = .ok (.iconst 1, 1) := by decide +kernel
theorem dL_law_558 : decode cL_law 558 = .ok (.iadd, 1) := by decide +kernel
theorem dL_law_559 : decode cL_law 559 = .ok (.iaload, 1) := by decide +kernel
theorem dL_law_560 : decode cL_law 560 = .ok (.invokevirtual 57, 3) := by decide +kernel
theorem dL_law_563 : decode cL_law 563 = .ok (.aload_n 2, 1) := by decide +kernel
theorem dL_law_564 : decode cL_law 564 = .ok (.aload_n 0, 1) := by decide +kernel
theorem dL_law_565 : decode cL_law 565 = .ok (.iload_n 3, 1) := by decide +kernel
theorem dL_law_566 : decode cL_law 566 = .ok (.iconst 1, 1) := by decide +kernel
theorem dL_law_567 : decode cL_law 567 = .ok (.iadd, 1) := by decide +kernel
theorem dL_law_568 : decode cL_law 568 = .ok (.iaload, 1) := by decide +kernel
theorem dL_law_569 : decode cL_law 569 = .ok (.invokevirtual 60, 3) := by decide +kernel
theorem dL_law_572 : decode cL_law 572 = .ok (.if_icmp .eq 920, 3) := by decide +kernel
theorem dL_law_575 : decode cL_law 575 = .ok (.iconst 0, 1) := by decide +kernel
theorem dL_law_576 : decode cL_law 576 = .ok (.ireturn, 1) := by decide +kernel
theorem dL_law_577 : decode cL_law 577 = .ok (.aload_n 1, 1) := by decide +kernel
theorem dL_law_578 : decode cL_law 578 = .ok (.invokevirtual 61, 3) := by decide +kernel
theorem dL_law_581 : decode cL_law 581 = .ok (.aload_n 2, 1) := by decide +kernel
theorem dL_law_582 : decode cL_law 582 = .ok (.invokevirtual 64, 3) := by decide +kernel
theorem dL_law_585 : decode cL_law 585 = .ok (.if_icmp .eq 907, 3) := by decide +kernel
theorem dL_law_588 : decode cL_law 588 = .ok (.iconst 0, 1) := by decide +kernel
theorem dL_law_589 : decode cL_law 589 = .ok (.ireturn, 1) := by decide +kernel
theorem dL_law_590 : decode cL_law 590 = .ok (.aload_n 1, 1) := by decide +kernel
theorem dL_law_591 : decode cL_law 591 = .ok (.aload_n 0, 1) := by decide +kernel
theorem dL_law_592 : decode cL_law 592 = .ok (.iload_n 3, 1) := by decide +kernel
theorem dL_law_593 : decode cL_law 593 = .ok (.iconst 1, 1) := by decide +kernel
theorem dL_law_594 : decode cL_law 594 = .ok (.iadd, 1) := by decide +kernel
theorem dL_law_595 : decode cL_law 595 = .ok (.iaload, 1) := by decide +kernel
theorem dL_law_596 : decode cL_law 596 = .ok (.aload_n 0, 1) := by decide +kernel
theorem dL_law_597 : decode cL_law 597 = .ok (.iload_n 3, 1) := by decide +kernel
theorem dL_law_598 : decode cL_law 598 = .ok (.iconst 2, 1) := by decide +kernel
theorem dL_law_599 : decode cL_law 599 = .ok (.iadd, 1) := by decide +kernel
theorem dL_law_600 : decode cL_law 600 = .ok (.iaload, 1) := by decide +kernel
theorem dL_law_601 : decode cL_law 601 = .ok (.invokevirtual 65, 3) := by decide +kernel
theorem dL_law_604 : decode cL_law 604 = .ok (.aload_n 2, 1) := by decide +kernel
theorem dL_law_605 : decode cL_law 605 = .ok (.aload_n 0, 1) := by decide +kernel
theorem dL_law_606 : decode cL_law 606 = .ok (.iload_n 3, 1) := by decide +kernel
theorem dL_law_607 : decode cL_law 607 = .ok (.iconst 1, 1) := by decide +kernel
theorem dL_law_608 : decode cL_law 608 = .ok (.iadd, 1) := by decide +kernel
theorem dL_law_609 : decode cL_law 609 = .ok (.iaload, 1) := by decide +kernel
theorem dL_law_610 : decode cL_law 610 = .ok (.aload_n 0, 1) := by decide +kernel
theorem dL_law_611 : decode cL_law 611 = .ok (.iload_n 3, 1) := by decide +kernel
theorem dL_law_612 : decode cL_law 612 = .ok (.iconst 2, 1) := by decide +kernel
theorem dL_law_613 : decode cL_law 613 = .ok (.iadd, 1) := by decide +kernel
theorem dL_law_614 : decode cL_law 614 = .ok (.iaload, 1) := by decide +kernel
theorem dL_law_615 : decode cL_law 615 = .ok (.invokevirtual 68, 3) := by decide +kernel
theorem dL_law_618 : decode cL_law 618 = .ok (.if_icmp .eq 874, 3) := by decide +kernel
theorem dL_law_621 : decode cL_law 621 = .ok (.iconst 0, 1) := by decide +kernel
theorem dL_law_622 : decode cL_law 622 = .ok (.ireturn, 1) := by decide +kernel
theorem dL_law_623 : decode cL_law 623 = .ok (.aload_n 1, 1) := by decide +kernel
theorem dL_law_624 : decode cL_law 624 = .ok (.aload_n 0, 1) := by decide +kernel
theorem dL_law_625 : decode cL_law 625 = .ok (.iload_n 3, 1) := by decide +kernel
theorem dL_law_626 : decode cL_law 626 = .ok (.iconst 1, 1) := by decide +kernel
theorem dL_law_627 : decode cL_law 627 = .ok (.iadd, 1) := by decide +kernel
theorem dL_law_628 : decode cL_law 628 = .ok (.iaload, 1) := by decide +kernel
theorem dL_law_629 : decode cL_law 629 = .ok (.aload_n 0, 1) := by decide +kernel
theorem dL_law_630 : decode cL_law 630 = .ok (.iload_n 3, 1) := by decide +kernel
theorem dL_law_631 : decode cL_law 631 = .ok (.iconst 2, 1) := by decide +kernel
theorem dL_law_632 : decode cL_law 632 = .ok (.iadd, 1) := by decide +kernel
theorem dL_law_633 : decode cL_law 633 = .ok (.iaload, 1) := by decide +kernel
theorem dL_law_634 : decode cL_law 634 = .ok (.aload_n 0, 1) := by decide +kernel
theorem dL_law_635 : decode cL_law 635 = .ok (.iload_n 3, 1) := by decide +kernel
theorem dL_law_636 : decode cL_law 636 = .ok (.iconst 3, 1) := by decide +kernel
theorem dL_law_637 : decode cL_law 637 = .ok (.iadd, 1) := by decide +kernel
theorem dL_law_638 : decode cL_law 638 = .ok (.iaload, 1) := by decide +kernel
theorem dL_law_639 : decode cL_law 639 = .ok (.invokevirtual 69, 3) := by decide +kernel
theorem dL_law_642 : decode cL_law 642 = .ok (.aload_n 2, 1) := by decide +kernel
theorem dL_law_643 : decode cL_law 643 = .ok (.aload_n 0, 1) := by decide +kernel
theorem dL_law_644 : decode cL_law 644 = .ok (.iload_n 3, 1) := by decide +kernel
theorem dL_law_645 : decode cL_law 645 = .ok (.iconst 1, 1) := by decide +kernel
theorem dL_law_646 : decode cL_law 646 = .ok (.iadd, 1) := by decide +kernel
theorem dL_law_647 : decode cL_law 647 = .ok (.iaload, 1) := by decide +kernel
theorem dL_law_648 : decode cL_law 648 = .ok (.aload_n 0, 1) := by decide +kernel
theorem dL_law_649 : decode cL_law 649 = .ok (.iload_n 3, 1) := by decide +kernel
theorem dL_law_650 : decode cL_law 650 = .ok (.iconst 2, 1) := by decide +kernel
theorem dL_law_651 : decode cL_law 651 = .ok (.iadd, 1) := by decide +kernel
theorem dL_law_652 : decode cL_law 652 = .ok (.iaload, 1) := by decide +kernel
theorem dL_law_653 : decode cL_law 653 = .ok (.aload_n 0, 1) := by decide +kernel
theorem dL_law_654 : decode cL_law 654 = .ok (.iload_n 3, 1) := by decide +kernel
theorem dL_law_655 : decode cL_law 655 = .ok (.iconst 3, 1) := by decide +kernel
theorem dL_law_656 : decode cL_law 656 = .ok (.iadd, 1) := by decide +kernel
theorem dL_law_657 : decode cL_law 657 = .ok (.iaload, 1) := by decide +kernel
theorem dL_law_658 : decode cL_law 658 = .ok (.invokevirtual 72, 3) := by decide +kernel
theorem dL_law_661 : decode cL_law 661 = .ok (.if_icmp .eq 831, 3) := by decide +kernel
theorem dL_law_664 : decode cL_law 664 = .ok (.iconst 0, 1) := by decide +kernel
theorem dL_law_665 : decode cL_law 665 = .ok (.ireturn, 1) := by decide +kernel
theorem dL_law_666 : decode cL_law 666 = .ok (.aload_n 1, 1) := by decide +kernel
theorem dL_law_667 : decode cL_law 667 = .ok (.aload_n 0, 1) := by decide +kernel
theorem dL_law_668 : decode cL_law 668 = .ok (.iload_n 3, 1) := by decide +kernel
theorem dL_law_669 : decode cL_law 669 = .ok (.iconst 1, 1) := by decide +kernel
theorem dL_law_670 : decode cL_law 670 = .ok (.iadd, 1) := by decide +kernel
theorem dL_law_671 : decode cL_law 671 = .ok (.iaload, 1) := by decide +kernel
theorem dL_law_672 : decode cL_law 672 = .ok (.aload_n 0, 1) := by decide +kernel
theorem dL_law_673 : decode cL_law 673 = .ok (.iload_n 3, 1) := by decide +kernel
theorem dL_law_674 : decode cL_law 674 = .ok (.iconst 2, 1) := by decide +kernel
theorem dL_law_675 : decode cL_law 675 = .ok (.iadd, 1) := by decide +kernel
theorem dL_law_676 : decode cL_law 676 = .ok (.iaload, 1) := by decide +kernel
theorem dL_law_677 : decode cL_law 677 = .ok (.invokevirtual 73, 3) := by decide +kernel
theorem dL_law_680 : decode cL_law 680 = .ok (.aload_n 2, 1) := by decide +kernel
theorem dL_law_681 : decode cL_law 681 = .ok (.aload_n 0, 1) := by decide +kernel
theorem dL_law_682 : decode cL_law 682 = .ok (.iload_n 3, 1) := by decide +kernel
theorem dL_law_683 : decode cL_law 683 = .ok (.iconst 1, 1) := by decide +kernel
theorem dL_law_684 : decode cL_law 684 = .ok (.iadd, 1) := by decide +kernel
theorem dL_law_685 : decode cL_law 685 = .ok (.iaload, 1) := by decide +kernel
theorem dL_law_686 : decode cL_law 686 = .ok (.aload_n 0, 1) := by decide +kernel
theorem dL_law_687 : decode cL_law 687 = .ok (.iload_n 3, 1) := by decide +kernel
theorem dL_law_688 : decode cL_law 688 = .ok (.iconst 2, 1) := by decide +kernel
theorem dL_law_689 : decode cL_law 689 = .ok (.iadd, 1) := by decide +kernel
theorem dL_law_690 : decode cL_law 690 = .ok (.iaload, 1) := by decide +kernel
theorem dL_law_691 : decode cL_law 691 = .ok (.invokevirtual 76, 3) := by decide +kernel
theorem dL_law_694 : decode cL_law 694 = .ok (.if_icmp .eq 798, 3) := by decide +kernel
theorem dL_law_697 : decode cL_law 697 = .ok (.iconst 0, 1) := by decide +kernel
theorem dL_law_698 : decode cL_law 698 = .ok (.ireturn, 1) := by decide +kernel
theorem dL_law_699 : decode cL_law 699 = .ok (.aload_n 1, 1) := by decide +kernel
theorem dL_law_700 : decode cL_law 700 = .ok (.aload_n 0, 1) := by decide +kernel
theorem dL_law_701 : decode cL_law 701 = .ok (.iload_n 3, 1) := by decide +kernel
theorem dL_law_702 : decode cL_law 702 = .ok (.iconst 1, 1) := by decide +kernel
theorem dL_law_703 : decode cL_law 703 = .ok (.iadd, 1) := by decide +kernel
theorem dL_law_704 : decode cL_law 704 = .ok (.iaload, 1) := by decide +kernel
theorem dL_law_705 : decode cL_law 705 = .ok (.aload_n 0, 1) := by decide +kernel
theorem dL_law_706 : decode cL_law 706 = .ok (.iload_n 3, 1) := by decide +kernel
theorem dL_law_707 : decode cL_law 707 = .ok (.iconst 2, 1) := by decide +kernel
theorem dL_law_708 : decode cL_law 708 = .ok (.iadd, 1) := by decide +kernel
theorem dL_law_709 : decode cL_law 709 = .ok (.iaload, 1) := by decide +kernel
theorem dL_law_710 : decode cL_law 710 = .ok (.invokevirtual 77, 3) := by decide +kernel
theorem dL_law_713 : decode cL_law 713 = .ok (.aload_n 2, 1) := by decide +kernel
theorem dL_law_714 : decode cL_law 714 = .ok (.aload_n 0, 1) := by decide +kernel
theorem dL_law_715 : decode cL_law 715 = .ok (.iload_n 3, 1) := by decide +kernel
theorem dL_law_716 : decode cL_law 716 = .ok (.iconst 1, 1) := by decide +kernel
theorem dL_law_717 : decode cL_law 717 = .ok (.iadd, 1) := by decide +kernel
theorem dL_law_718 : decode cL_law 718 = .ok (.iaload, 1) := by decide +kernel
theorem dL_law_719 : decode cL_law 719 = .ok (.aload_n 0, 1) := by decide +kernel
theorem dL_law_720 : decode cL_law 720 = .ok (.iload_n 3, 1) := by decide +kernel
theorem dL_law_721 : decode cL_law 721 = .ok (.iconst 2, 1) := by decide +kernel
theorem dL_law_722 : decode cL_law 722 = .ok (.iadd, 1) := by decide +kernel
theorem dL_law_723 : decode cL_law 723 = .ok (.iaload, 1) := by decide +kernel
theorem dL_law_724 : decode cL_law 724 = .ok (.invokevirtual 80, 3) := by decide +kernel
theorem dL_law_727 : decode cL_law 727 = .ok (.if_icmp .eq 765, 3) := by decide +kernel
theorem dL_law_730 : decode cL_law 730 = .ok (.iconst 0, 1) := by decide +kernel
theorem dL_law_731 : decode cL_law 731 = .ok (.ireturn, 1) := by decide +kernel
theorem dL_law_732 : decode cL_law 732 = .ok (.aload_n 1, 1) := by decide +kernel
theorem dL_law_733 : decode cL_law 733 = .ok (.aload_n 0, 1) := by decide +kernel
theorem dL_law_734 : decode cL_law 734 = .ok (.iload_n 3, 1) := by decide +kernel
theorem dL_law_735 : decode cL_law 735 = .ok (.iconst 1, 1) := by decide +kernel
theorem dL_law_736 : decode cL_law 736 = .ok (.iadd, 1) := by decide +kernel
theorem dL_law_737 : decode cL_law 737 = .ok (.iaload, 1) := by decide +kernel
theorem dL_law_738 : decode cL_law 738 = .ok (.aload_n 0, 1) := by decide +kernel
theorem dL_law_739 : decode cL_law 739 = .ok (.iload_n 3, 1) := by decide +kernel
theorem dL_law_740 : decode cL_law 740 = .ok (.iconst 2, 1) := by decide +kernel
theorem dL_law_741 : decode cL_law 741 = .ok (.iadd, 1) := by decide +kernel
theorem dL_law_742 : decode cL_law 742 = .ok (.iaload, 1) := by decide +kernel
theorem dL_law_743 : decode cL_law 743 = .ok (.invokevirtual 81, 3) := by decide +kernel
theorem dL_law_746 : decode cL_law 746 = .ok (.aload_n 2, 1) := by decide +kernel
theorem dL_law_747 : decode cL_law 747 = .ok (.aload_n 0, 1) := by decide +kernel
theorem dL_law_748 : decode cL_law 748 = .ok (.iload_n 3, 1) := by decide +kernel
theorem dL_law_749 : decode cL_law 749 = .ok (.iconst 1, 1) := by decide +kernel
theorem dL_law_750 : decode cL_law 750 = .ok (.iadd, 1) := by decide +kernel
theorem dL_law_751 : decode cL_law 751 = .ok (.iaload, 1) := by decide +kernel
theorem dL_law_752 : decode cL_law 752 = .ok (.aload_n 0, 1) := by decide +kernel
theorem dL_law_753 : decode cL_law 753 = .ok (.iload_n 3, 1) := by decide +kernel
theorem dL_law_754 : decode cL_law 754 = .ok (.iconst 2, 1) := by decide +kernel
theorem dL_law_755 : decode cL_law 755 = .ok (.iadd, 1) := by decide +kernel
theorem dL_law_756 : decode cL_law 756 = .ok (.iaload, 1) := by decide +kernel
theorem dL_law_757 : decode cL_law 757 = .ok (.invokevirtual 84, 3) := by decide +kernel
theorem dL_law_760 : decode cL_law 760 = .ok (.if_icmp .eq 732, 3) := by decide +kernel
theorem dL_law_763 : decode cL_law 763 = .ok (.iconst 0, 1) := by decide +kernel
theorem dL_law_764 : decode cL_law 764 = .ok (.ireturn, 1) := by decide +kernel
theorem dL_law_765 : decode cL_law 765 = .ok (.aload_n 1, 1) := by decide +kernel
theorem dL_law_766 : decode cL_law 766 = .ok (.aload_n 0, 1) := by decide +kernel
theorem dL_law_767 : decode cL_law 767 = .ok (.iload_n 3, 1) := by decide +kernel
theorem dL_law_768 : decode cL_law 768 = .ok (.iconst 1, 1) := by decide +kernel
theorem dL_law_769 : decode cL_law 769 = .ok (.iadd, 1) := by decide +kernel
theorem dL_law_770 : decode cL_law 770 = .ok (.iaload, 1) := by decide +kernel
theorem dL_law_771 : decode cL_law 771 = .ok (.aload_n 0, 1) := by decide +kernel
theorem dL_law_772 : decode cL_law 772 = .ok (.iload_n 3, 1) := by decide +kernel
theorem dL_law_773 : decode cL_law 773 = .ok (.iconst 2, 1) := by decide +kernel
theorem dL_law_774 : decode cL_law 774 = .ok (.iadd, 1) := by decide +kernel
theorem dL_law_775 : decode cL_law 775 = .ok (.iaload, 1) := by decide +kernel
theorem dL_law_776 : decode cL_law 776 = .ok (.invokevirtual 85, 3) := by decide +kernel
theorem dL_law_779 : decode cL_law 779 = .ok (.aload_n 2, 1) := by decide +kernel
theorem dL_law_780 : decode cL_law 780 = .ok (.aload_n 0, 1) := by decide +kernel
theorem dL_law_781 : decode cL_law 781 = .ok (.iload_n 3, 1) := by decide +kernel
theorem dL_law_782 : decode cL_law 782 = .ok (.iconst 1, 1) := by decide +kernel
theorem dL_law_783 : decode cL_law 783 = .ok (.iadd, 1) := by decide +kernel
theorem dL_law_784 : decode cL_law 784 = .ok (.iaload, 1) := by decide +kernel
theorem dL_law_785 : decode cL_law 785 = .ok (.aload_n 0, 1) := by decide +kernel
theorem dL_law_786 : decode cL_law 786 = .ok (.iload_n 3, 1) := by decide +kernel
theorem dL_law_787 : decode cL_law 787 = .ok (.iconst 2, 1) := by decide +kernel
theorem dL_law_788 : decode cL_law 788 = .ok (.iadd, 1) := by decide +kernel
theorem dL_law_789 : decode cL_law 789 = .ok (.iaload, 1) := by decide +kernel
theorem dL_law_790 : decode cL_law 790 = .ok (.invokevirtual 88, 3) := by decide +kernel
theorem dL_law_793 : decode cL_law 793 = .ok (.if_icmp .eq 699, 3) := by decide +kernel
theorem dL_law_796 : decode cL_law 796 = .ok (.iconst 0, 1) := by decide +kernel
theorem dL_law_797 : decode cL_law 797 = .ok (.ireturn, 1) := by decide +kernel
theorem dL_law_798 : decode cL_law 798 = .ok (.aload_n 1, 1) := by decide +kernel
theorem dL_law_799 : decode cL_law 799 = .ok (.aload_n 0, 1) := by decide +kernel
theorem dL_law_800 : decode cL_law 800 = .ok (.iload_n 3, 1) := by decide +kernel
theorem dL_law_801 : decode cL_law 801 = .ok (.iconst 1, 1) := by decide +kernel
theorem dL_law_802 : decode cL_law 802 = .ok (.iadd, 1) := by decide +kernel
theorem dL_law_803 : decode cL_law 803 = .ok (.iaload, 1) := by decide +kernel
theorem dL_law_804 : decode cL_law 804 = .ok (.invokevirtual 89, 3) := by decide +kernel
theorem dL_law_807 : decode cL_law 807 = .ok (.aload_n 2, 1) := by decide +kernel
theorem dL_law_808 : decode cL_law 808 = .ok (.aload_n 0, 1) := by decide +kernel
theorem dL_law_809 : decode cL_law 809 = .ok (.iload_n 3, 1) := by decide +kernel
theorem dL_law_810 : decode cL_law 810 = .ok (.iconst 1, 1) := by decide +kernel
theorem dL_law_811 : decode cL_law 811 = .ok (.iadd, 1) := by decide +kernel
theorem dL_law_812 : decode cL_law 812 = .ok (.iaload, 1) := by decide +kernel
theorem dL_law_813 : decode cL_law 813 = .ok (.invokevirtual 92, 3) := by decide +kernel
theorem dL_law_816 : decode cL_law 816 = .ok (.if_icmp .eq 676, 3) := by decide +kernel
theorem dL_law_819 : decode cL_law 819 = .ok (.iconst 0, 1) := by decide +kernel
theorem dL_law_820 : decode cL_law 820 = .ok (.ireturn, 1) := by decide +kernel
theorem dL_law_821 : decode cL_law 821 = .ok (.aload_n 1, 1) := by decide +kernel
theorem dL_law_822 : decode cL_law 822 = .ok (.aload_n 0, 1) := by decide +kernel
theorem dL_law_823 : decode cL_law 823 = .ok (.iload_n 3, 1) := by decide +kernel
theorem dL_law_824 : decode cL_law 824 = .ok (.iconst 1, 1) := by decide +kernel
theorem dL_law_825 : decode cL_law 825 = .ok (.iadd, 1) := by decide +kernel
theorem dL_law_826 : decode cL_law 826 = .ok (.iaload, 1) := by decide +kernel
theorem dL_law_827 : decode cL_law 827 = .ok (.aload_n 0, 1) := by decide +kernel
theorem dL_law_828 : decode cL_law 828 = .ok (.iload_n 3, 1) := by decide +kernel
theorem dL_law_829 : decode cL_law 829 = .ok (.iconst 2, 1) := by decide +kernel
theorem dL_law_830 : decode cL_law 830 = .ok (.iadd, 1) := by decide +kernel
theorem dL_law_831 : decode cL_law 831 = .ok (.iaload, 1) := by decide +kernel
theorem dL_law_832 : decode cL_law 832 = .ok (.invokevirtual 93, 3) := by decide +kernel
theorem dL_law_835 : decode cL_law 835 = .ok (.aload_n 2, 1) := by decide +kernel
theorem dL_law_836 : decode cL_law 836 = .ok (.aload_n 0, 1) := by decide +kernel
theorem dL_law_837 : decode cL_law 837 = .ok (.iload_n 3, 1) := by decide +kernel
theorem dL_law_838 : decode cL_law 838 = .ok (.iconst 1, 1) := by decide +kernel
theorem dL_law_839 : decode cL_law 839 = .ok (.iadd, 1) := by decide +kernel
theorem dL_law_840 : decode cL_law 840 = .ok (.iaload, 1) := by decide +kernel
theorem dL_law_841 : decode cL_law 841 = .ok (.aload_n 0, 1) := by decide +kernel
theorem dL_law_842 : decode cL_law 842 = .ok (.iload_n 3, 1) := by decide +kernel
theorem dL_law_843 : decode cL_law 843 = .ok (.iconst 2, 1) := by decide +kernel
theorem dL_law_844 : decode cL_law 844 = .ok (.iadd, 1) := by decide +kernel
theorem dL_law_845 : decode cL_law 845 = .ok (.iaload, 1) := by decide +kernel
theorem dL_law_846 : decode cL_law 846 = .ok (.invokevirtual 96, 3) := by decide +kernel
theorem dL_law_849 : decode cL_law 849 = .ok (.if_icmp .eq 643, 3) := by decide +kernel
theorem dL_law_852 : decode cL_law 852 = .ok (.iconst 0, 1) := by decide +kernel
theorem dL_law_853 : decode cL_law 853 = .ok (.ireturn, 1) := by decide +kernel
theorem dL_law_854 : decode cL_law 854 = .ok (.aload_n 1, 1) := by decide +kernel
theorem dL_law_855 : decode cL_law 855 = .ok (.aload_n 0, 1) := by decide +kernel
theorem dL_law_856 : decode cL_law 856 = .ok (.iload_n 3, 1) := by decide +kernel
theorem dL_law_857 : decode cL_law 857 = .ok (.iconst 1, 1) := by decide +kernel
theorem dL_law_858 : decode cL_law 858 = .ok (.iadd, 1) := by decide +kernel
theorem dL_law_859 : decode cL_law 859 = .ok (.iaload, 1) := by decide +kernel
theorem dL_law_860 : decode cL_law 860 = .ok (.aload_n 0, 1) := by decide +kernel
theorem dL_law_861 : decode cL_law 861 = .ok (.iload_n 3, 1) := by decide +kernel
theorem dL_law_862 : decode cL_law 862 = .ok (.iconst 2, 1) := by decide +kernel
theorem dL_law_863 : decode cL_law 863 = .ok (.iadd, 1) := by decide +kernel
theorem dL_law_864 : decode cL_law 864 = .ok (.iaload, 1) := by decide +kernel
theorem dL_law_865 : decode cL_law 865 = .ok (.invokevirtual 97, 3) := by decide +kernel
theorem dL_law_868 : decode cL_law 868 = .ok (.aload_n 2, 1) := by decide +kernel
theorem dL_law_869 : decode cL_law 869 = .ok (.aload_n 0, 1) := by decide +kernel
theorem dL_law_870 : decode cL_law 870 = .ok (.iload_n 3, 1) := by decide +kernel
theorem dL_law_871 : decode cL_law 871 = .ok (.iconst 1, 1) := by decide +kernel
theorem dL_law_872 : decode cL_law 872 = .ok (.iadd, 1) := by decide +kernel
theorem dL_law_873 : decode cL_law 873 = .ok (.iaload, 1) := by decide +kernel
theorem dL_law_874 : decode cL_law 874 = .ok (.aload_n 0, 1) := by decide +kernel
theorem dL_law_875 : decode cL_law 875 = .ok (.iload_n 3, 1) := by decide +kernel
theorem dL_law_876 : decode cL_law 876 = .ok (.iconst 2, 1) := by decide +kernel
theorem dL_law_877 : decode cL_law 877 = .ok (.iadd, 1) := by decide +kernel
theorem dL_law_878 : decode cL_law 878 = .ok (.iaload, 1) := by decide +kernel
theorem dL_law_879 : decode cL_law 879 = .ok (.invokevirtual 100, 3) := by decide +kernel
theorem dL_law_882 : decode cL_law 882 = .ok (.if_icmp .eq 610, 3) := by decide +kernel
theorem dL_law_885 : decode cL_law 885 = .ok (.iconst 0, 1) := by decide +kernel
theorem dL_law_886 : decode cL_law 886 = .ok (.ireturn, 1) := by decide +kernel
theorem dL_law_887 : decode cL_law 887 = .ok (.aload_n 1, 1) := by decide +kernel
theorem dL_law_888 : decode cL_law 888 = .ok (.invokevirtual 101, 3) := by decide +kernel
theorem dL_law_891 : decode cL_law 891 = .ok (.aload_n 2, 1) := by decide +kernel
theorem dL_law_892 : decode cL_law 892 = .ok (.invokevirtual 104, 3) := by decide +kernel
theorem dL_law_895 : decode cL_law 895 = .ok (.if_icmp .eq 597, 3) := by decide +kernel
theorem dL_law_898 : decode cL_law 898 = .ok (.iconst 0, 1) := by decide +kernel
theorem dL_law_899 : decode cL_law 899 = .ok (.ireturn, 1) := by decide +kernel
theorem dL_law_900 : decode cL_law 900 = .ok (.aload_n 1, 1) := by decide +kernel
theorem dL_law_901 : decode cL_law 901 = .ok (.aload_n 0, 1) := by decide +kernel
theorem dL_law_902 : decode cL_law 902 = .ok (.iload_n 3, 1) := by decide +kernel
theorem dL_law_903 : decode cL_law 903 = .ok (.iconst 1, 1) := by decide +kernel
theorem dL_law_904 : decode cL_law 904 = .ok (.iadd, 1) := by decide +kernel
theorem dL_law_905 : decode cL_law 905 = .ok (.iaload, 1) := by decide +kernel
theorem dL_law_906 : decode cL_law 906 = .ok (.invokevirtual 105, 3) := by decide +kernel
theorem dL_law_909 : decode cL_law 909 = .ok (.aload_n 2, 1) := by decide +kernel
theorem dL_law_910 : decode cL_law 910 = .ok (.aload_n 0, 1) := by decide +kernel
theorem dL_law_911 : decode cL_law 911 = .ok (.iload_n 3, 1) := by decide +kernel
theorem dL_law_912 : decode cL_law 912 = .ok (.iconst 1, 1) := by decide +kernel
theorem dL_law_913 : decode cL_law 913 = .ok (.iadd, 1) := by decide +kernel
theorem dL_law_914 : decode cL_law 914 = .ok (.iaload, 1) := by decide +kernel
theorem dL_law_915 : decode cL_law 915 = .ok (.invokevirtual 108, 3) := by decide +kernel
theorem dL_law_918 : decode cL_law 918 = .ok (.if_icmp .eq 574, 3) := by decide +kernel
theorem dL_law_921 : decode cL_law 921 = .ok (.iconst 0, 1) := by decide +kernel
theorem dL_law_922 : decode cL_law 922 = .ok (.ireturn, 1) := by decide +kernel
theorem dL_law_923 : decode cL_law 923 = .ok (.aload_n 1, 1) := by decide +kernel
theorem dL_law_924 : decode cL_law 924 = .ok (.aload_n 0, 1) := by decide +kernel
theorem dL_law_925 : decode cL_law 925 = .ok (.iload_n 3, 1) := by decide +kernel
theorem dL_law_926 : decode cL_law 926 = .ok (.iconst 1, 1) := by decide +kernel
theorem dL_law_927 : decode cL_law 927 = .ok (.iadd, 1) := by decide +kernel
theorem dL_law_928 : decode cL_law 928 = .ok (.iaload, 1) := by decide +kernel
theorem dL_law_929 : decode cL_law 929 = .ok (.invokevirtual 109, 3) := by decide +kernel
theorem dL_law_932 : decode cL_law 932 = .ok (.aload_n 2, 1) := by decide +kernel
theorem dL_law_933 : decode cL_law 933 = .ok (.aload_n 0, 1) := by decide +kernel
theorem dL_law_934 : decode cL_law 934 = .ok (.iload_n 3, 1) := by decide +kernel
theorem dL_law_935 : decode cL_law 935 = .ok (.iconst 1, 1) := by decide +kernel
theorem dL_law_936 : decode cL_law 936 = .ok (.iadd, 1) := by decide +kernel
theorem dL_law_937 : decode cL_law 937 = .ok (.iaload, 1) := by decide +kernel
theorem dL_law_938 : decode cL_law 938 = .ok (.invokevirtual 112, 3) := by decide +kernel
theorem dL_law_941 : decode cL_law 941 = .ok (.if_icmp .eq 551, 3) := by decide +kernel
theorem dL_law_944 : decode cL_law 944 = .ok (.iconst 0, 1) := by decide +kernel
theorem dL_law_945 : decode cL_law 945 = .ok (.ireturn, 1) := by decide +kernel
theorem dL_law_946 : decode cL_law 946 = .ok (.aload_n 1, 1) := by decide +kernel
theorem dL_law_947 : decode cL_law 947 = .ok (.aload_n 0, 1) := by decide +kernel
theorem dL_law_948 : decode cL_law 948 = .ok (.iload_n 3, 1) := by decide +kernel
theorem dL_law_949 : decode cL_law 949 = .ok (.iconst 1, 1) := by decide +kernel
theorem dL_law_950 : decode cL_law 950 = .ok (.iadd, 1) := by decide +kernel
theorem dL_law_951 : decode cL_law 951 = .ok (.iaload, 1) := by decide +kernel
theorem dL_law_952 : decode cL_law 952 = .ok (.invokevirtual 113, 3) := by decide +kernel
theorem dL_law_955 : decode cL_law 955 = .ok (.aload_n 2, 1) := by decide +kernel
theorem dL_law_956 : decode cL_law 956 = .ok (.aload_n 0, 1) := by decide +kernel
theorem dL_law_957 : decode cL_law 957 = .ok (.iload_n 3, 1) := by decide +kernel
theorem dL_law_958 : decode cL_law 958 = .ok (.iconst 1, 1) := by decide +kernel
theorem dL_law_959 : decode cL_law 959 = .ok (.iadd, 1) := by decide +kernel
theorem dL_law_960 : decode cL_law 960 = .ok (.iaload, 1) := by decide +kernel
theorem dL_law_961 : decode cL_law 961 = .ok (.invokevirtual 116, 3) := by decide +kernel
theorem dL_law_964 : decode cL_law 964 = .ok (.if_icmp .eq 528, 3) := by decide +kernel
theorem dL_law_967 : decode cL_law 967 = .ok (.iconst 0, 1) := by decide +kernel
theorem dL_law_968 : decode cL_law 968 = .ok (.ireturn, 1) := by decide +kernel
theorem dL_law_969 : decode cL_law 969 = .ok (.aload_n 1, 1) := by decide +kernel
theorem dL_law_970 : decode cL_law 970 = .ok (.aload_n 0, 1) := by decide +kernel
theorem dL_law_971 : decode cL_law 971 = .ok (.iload_n 3, 1) := by decide +kernel
theorem dL_law_972 : decode cL_law 972 = .ok (.iconst 1, 1) := by decide +kernel
theorem dL_law_973 : decode cL_law 973 = .ok (.iadd, 1) := by decide +kernel
theorem dL_law_974 : decode cL_law 974 = .ok (.iaload, 1) := by decide +kernel
theorem dL_law_975 : decode cL_law 975 = .ok (.aload_n 0, 1) := by decide +kernel
theorem dL_law_976 : decode cL_law 976 = .ok (.iload_n 3, 1) := by decide +kernel
theorem dL_law_977 : decode cL_law 977 = .ok (.iconst 2, 1) := by decide +kernel
theorem dL_law_978 : decode cL_law 978 = .ok (.iadd, 1) := by decide +kernel
theorem dL_law_979 : decode cL_law 979 = .ok (.iaload, 1) := by decide +kernel
theorem dL_law_980 : decode cL_law 980 = .ok (.invokevirtual 117, 3) := by decide +kernel
theorem dL_law_983 : decode cL_law 983 = .ok (.aload_n 2, 1) := by decide +kernel
theorem dL_law_984 : decode cL_law 984 = .ok (.aload_n 0, 1) := by decide +kernel
theorem dL_law_985 : decode cL_law 985 = .ok (.iload_n 3, 1) := by decide +kernel
theorem dL_law_986 : decode cL_law 986 = .ok (.iconst 1, 1) := by decide +kernel
theorem dL_law_987 : decode cL_law 987 = .ok (.iadd, 1) := by decide +kernel
theorem dL_law_988 : decode cL_law 988 = .ok (.iaload, 1) := by decide +kernel
theorem dL_law_989 : decode cL_law 989 = .ok (.aload_n 0, 1) := by decide +kernel
theorem dL_law_990 : decode cL_law 990 = .ok (.iload_n 3, 1) := by decide +kernel
theorem dL_law_991 : decode cL_law 991 = .ok (.iconst 2, 1) := by decide +kernel
theorem dL_law_992 : decode cL_law 992 = .ok (.iadd, 1) := by decide +kernel
theorem dL_law_993 : decode cL_law 993 = .ok (.iaload, 1) := by decide +kernel
theorem dL_law_994 : decode cL_law 994 = .ok (.invokevirtual 120, 3) := by decide +kernel
theorem dL_law_997 : decode cL_law 997 = .ok (.if_icmp .eq 495, 3) := by decide +kernel
theorem dL_law_1000 : decode cL_law 1000 = .ok (.iconst 0, 1) := by decide +kernel
theorem dL_law_1001 : decode cL_law 1001 = .ok (.ireturn, 1) := by decide +kernel
theorem dL_law_1002 : decode cL_law 1002 = .ok (.aload_n 1, 1) := by decide +kernel
theorem dL_law_1003 : decode cL_law 1003 = .ok (.invokevirtual 121, 3) := by decide +kernel
theorem dL_law_1006 : decode cL_law 1006 = .ok (.aload_n 2, 1) := by decide +kernel
theorem dL_law_1007 : decode cL_law 1007 = .ok (.invokevirtual 124, 3) := by decide +kernel
theorem dL_law_1010 : decode cL_law 1010 = .ok (.if_icmp .eq 482, 3) := by decide +kernel
theorem dL_law_1013 : decode cL_law 1013 = .ok (.iconst 0, 1) := by decide +kernel
theorem dL_law_1014 : decode cL_law 1014 = .ok (.ireturn, 1) := by decide +kernel
theorem dL_law_1015 : decode cL_law 1015 = .ok (.aload_n 1, 1) := by decide +kernel
theorem dL_law_1016 : decode cL_law 1016 = .ok (.invokevirtual 125, 3) := by decide +kernel
theorem dL_law_1019 : decode cL_law 1019 = .ok (.aload_n 2, 1) := by decide +kernel
theorem dL_law_1020 : decode cL_law 1020 = .ok (.invokevirtual 128, 3) := by decide +kernel
theorem dL_law_1023 : decode cL_law 1023 = .ok (.if_icmp .eq 469, 3) := by decide +kernel
theorem dL_law_1026 : decode cL_law 1026 = .ok (.iconst 0, 1) := by decide +kernel
theorem dL_law_1027 : decode cL_law 1027 = .ok (.ireturn, 1) := by decide +kernel
theorem dL_law_1028 : decode cL_law 1028 = .ok (.aload_n 1, 1) := by decide +kernel
theorem dL_law_1029 : decode cL_law 1029 = .ok (.invokevirtual 129, 3) := by decide +kernel
theorem dL_law_1032 : decode cL_law 1032 = .ok (.aload_n 2, 1) := by decide +kernel
theorem dL_law_1033 : decode cL_law 1033 = .ok (.invokevirtual 132, 3) := by decide +kernel
theorem dL_law_1036 : decode cL_law 1036 = .ok (.if_icmp .eq 456, 3) := by decide +kernel
theorem dL_law_1039 : decode cL_law 1039 = .ok (.iconst 0, 1) := by decide +kernel
theorem dL_law_1040 : decode cL_law 1040 = .ok (.ireturn, 1) := by decide +kernel
theorem dL_law_1041 : decode cL_law 1041 = .ok (.aload_n 1, 1) := by decide +kernel
theorem dL_law_1042 : decode cL_law 1042 = .ok (.aload_n 0, 1) := by decide +kernel
theorem dL_law_1043 : decode cL_law 1043 = .ok (.iload_n 3, 1) := by decide +kernel
theorem dL_law_1044 : decode cL_law 1044 = .ok (.iconst 1, 1) := by decide +kernel
theorem dL_law_1045 : decode cL_law 1045 = .ok (.iadd, 1) := by decide +kernel
theorem dL_law_1046 : decode cL_law 1046 = .ok (.iaload, 1) := by decide +kernel
theorem dL_law_1047 : decode cL_law 1047 = .ok (.invokevirtual 133, 3) := by decide +kernel
theorem dL_law_1050 : decode cL_law 1050 = .ok (.aload_n 2, 1) := by decide +kernel
theorem dL_law_1051 : decode cL_law 1051 = .ok (.aload_n 0, 1) := by decide +kernel
theorem dL_law_1052 : decode cL_law 1052 = .ok (.iload_n 3, 1) := by decide +kernel
theorem dL_law_1053 : decode cL_law 1053 = .ok (.iconst 1, 1) := by decide +kernel
theorem dL_law_1054 : decode cL_law 1054 = .ok (.iadd, 1) := by decide +kernel
theorem dL_law_1055 : decode cL_law 1055 = .ok (.iaload, 1) := by decide +kernel
theorem dL_law_1056 : decode cL_law 1056 = .ok (.invokevirtual 136, 3) := by decide +kernel
theorem dL_law_1059 : decode cL_law 1059 = .ok (.if_icmp .eq 433, 3) := by decide +kernel
theorem dL_law_1062 : decode cL_law 1062 = .ok (.iconst 0, 1) := by decide +kernel
theorem dL_law_1063 : decode cL_law 1063 = .ok (.ireturn, 1) := by decide +kernel
theorem dL_law_1064 : decode cL_law 1064 = .ok (.aload_n 1, 1) := by decide +kernel
theorem dL_law_1065 : decode cL_law 1065 = .ok (.aload_n 0, 1) := by decide +kernel
theorem dL_law_1066 : decode cL_law 1066 = .ok (.iload_n 3, 1) := by decide +kernel
theorem dL_law_1067 : decode cL_law 1067 = .ok (.iconst 1, 1) := by decide +kernel
theorem dL_law_1068 : decode cL_law 1068 = .ok (.iadd, 1) := by decide +kernel
theorem dL_law_1069 : decode cL_law 1069 = .ok (.iaload, 1) := by decide +kernel
theorem dL_law_1070 : decode cL_law 1070 = .ok (.invokevirtual 137, 3) := by decide +kernel
theorem dL_law_1073 : decode cL_law 1073 = .ok (.aload_n 2, 1) := by decide +kernel
theorem dL_law_1074 : decode cL_law 1074 = .ok (.aload_n 0, 1) := by decide +kernel
theorem dL_law_1075 : decode cL_law 1075 = .ok (.iload_n 3, 1) := by decide +kernel
theorem dL_law_1076 : decode cL_law 1076 = .ok (.iconst 1, 1) := by decide +kernel
theorem dL_law_1077 : decode cL_law 1077 = .ok (.iadd, 1) := by decide +kernel
theorem dL_law_1078 : decode cL_law 1078 = .ok (.iaload, 1) := by decide +kernel
theorem dL_law_1079 : decode cL_law 1079 = .ok (.invokevirtual 140, 3) := by decide +kernel
theorem dL_law_1082 : decode cL_law 1082 = .ok (.if_icmp .eq 410, 3) := by decide +kernel
theorem dL_law_1085 : decode cL_law 1085 = .ok (.iconst 0, 1) := by decide +kernel
theorem dL_law_1086 : decode cL_law 1086 = .ok (.ireturn, 1) := by decide +kernel
theorem dL_law_1087 : decode cL_law 1087 = .ok (.aload_n 1, 1) := by decide +kernel
theorem dL_law_1088 : decode cL_law 1088 = .ok (.aload_n 0, 1) := by decide +kernel
theorem dL_law_1089 : decode cL_law 1089 = .ok (.iload_n 3, 1) := by decide +kernel
theorem dL_law_1090 : decode cL_law 1090 = .ok (.iconst 1, 1) := by decide +kernel
theorem dL_law_1091 : decode cL_law 1091 = .ok (.iadd, 1) := by decide +kernel
theorem dL_law_1092 : decode cL_law 1092 = .ok (.iaload, 1) := by decide +kernel
theorem dL_law_1093 : decode cL_law 1093 = .ok (.invokevirtual 141, 3) := by decide +kernel
theorem dL_law_1096 : decode cL_law 1096 = .ok (.aload_n 2, 1) := by decide +kernel
theorem dL_law_1097 : decode cL_law 1097 = .ok (.aload_n 0, 1) := by decide +kernel
theorem dL_law_1098 : decode cL_law 1098 = .ok (.iload_n 3, 1) := by decide +kernel
theorem dL_law_1099 : decode cL_law 1099 = .ok (.iconst 1, 1) := by decide +kernel
theorem dL_law_1100 : decode cL_law 1100 = .ok (.iadd, 1) := by decide +kernel
theorem dL_law_1101 : decode cL_law 1101 = .ok (.iaload, 1) := by decide +kernel
theorem dL_law_1102 : decode cL_law 1102 = .ok (.invokevirtual 144, 3) := by decide +kernel
theorem dL_law_1105 : decode cL_law 1105 = .ok (.if_icmp .eq 387, 3) := by decide +kernel
theorem dL_law_1108 : decode cL_law 1108 = .ok (.iconst 0, 1) := by decide +kernel
theorem dL_law_1109 : decode cL_law 1109 = .ok (.ireturn, 1) := by decide +kernel
theorem dL_law_1110 : decode cL_law 1110 = .ok (.aload_n 1, 1) := by decide +kernel
theorem dL_law_1111 : decode cL_law 1111 = .ok (.aload_n 0, 1) := by decide +kernel
theorem dL_law_1112 : decode cL_law 1112 = .ok (.iload_n 3, 1) := by decide +kernel
theorem dL_law_1113 : decode cL_law 1113 = .ok (.iconst 1, 1) := by decide +kernel
theorem dL_law_1114 : decode cL_law 1114 = .ok (.iadd, 1) := by decide +kernel
theorem dL_law_1115 : decode cL_law 1115 = .ok (.iaload, 1) := by decide +kernel
theorem dL_law_1116 : decode cL_law 1116 = .ok (.aload_n 0, 1) := by decide +kernel
theorem dL_law_1117 : decode cL_law 1117 = .ok (.iload_n 3, 1) := by decide +kernel
theorem dL_law_1118 : decode cL_law 1118 = .ok (.iconst 2, 1) := by decide +kernel
theorem dL_law_1119 : decode cL_law 1119 = .ok (.iadd, 1) := by decide +kernel
theorem dL_law_1120 : decode cL_law 1120 = .ok (.iaload, 1) := by decide +kernel
theorem dL_law_1121 : decode cL_law 1121 = .ok (.invokevirtual 145, 3) := by decide +kernel
theorem dL_law_1124 : decode cL_law 1124 = .ok (.aload_n 2, 1) := by decide +kernel
theorem dL_law_1125 : decode cL_law 1125 = .ok (.aload_n 0, 1) := by decide +kernel
theorem dL_law_1126 : decode cL_law 1126 = .ok (.iload_n 3, 1) := by decide +kernel
theorem dL_law_1127 : decode cL_law 1127 = .ok (.iconst 1, 1) := by decide +kernel
theorem dL_law_1128 : decode cL_law 1128 = .ok (.iadd, 1) := by decide +kernel
theorem dL_law_1129 : decode cL_law 1129 = .ok (.iaload, 1) := by decide +kernel
theorem dL_law_1130 : decode cL_law 1130 = .ok (.aload_n 0, 1) := by decide +kernel
theorem dL_law_1131 : decode cL_law 1131 = .ok (.iload_n 3, 1) := by decide +kernel
theorem dL_law_1132 : decode cL_law 1132 = .ok (.iconst 2, 1) := by decide +kernel
theorem dL_law_1133 : decode cL_law 1133 = .ok (.iadd, 1) := by decide +kernel
theorem dL_law_1134 : decode cL_law 1134 = .ok (.iaload, 1) := by decide +kernel
theorem dL_law_1135 : decode cL_law 1135 = .ok (.invokevirtual 149, 3) := by decide +kernel
theorem dL_law_1138 : decode cL_law 1138 = .ok (.lcmp, 1) := by decide +kernel
theorem dL_law_1139 : decode cL_law 1139 = .ok (.ifCond .eq 353, 3) := by decide +kernel
theorem dL_law_1142 : decode cL_law 1142 = .ok (.iconst 0, 1) := by decide +kernel
theorem dL_law_1143 : decode cL_law 1143 = .ok (.ireturn, 1) := by decide +kernel
theorem dL_law_1144 : decode cL_law 1144 = .ok (.aload_n 1, 1) := by decide +kernel
theorem dL_law_1145 : decode cL_law 1145 = .ok (.invokevirtual 150, 3) := by decide +kernel
theorem dL_law_1148 : decode cL_law 1148 = .ok (.aload_n 2, 1) := by decide +kernel
theorem dL_law_1149 : decode cL_law 1149 = .ok (.invokevirtual 153, 3) := by decide +kernel
theorem dL_law_1152 : decode cL_law 1152 = .ok (.if_icmp .eq 340, 3) := by decide +kernel
theorem dL_law_1155 : decode cL_law 1155 = .ok (.iconst 0, 1) := by decide +kernel
theorem dL_law_1156 : decode cL_law 1156 = .ok (.ireturn, 1) := by decide +kernel
theorem dL_law_1157 : decode cL_law 1157 = .ok (.aload_n 1, 1) := by decide +kernel
theorem dL_law_1158 : decode cL_law 1158 = .ok (.aload_n 0, 1) := by decide +kernel
theorem dL_law_1159 : decode cL_law 1159 = .ok (.iload_n 3, 1) := by decide +kernel
theorem dL_law_1160 : decode cL_law 1160 = .ok (.iconst 1, 1) := by decide +kernel
theorem dL_law_1161 : decode cL_law 1161 = .ok (.iadd, 1) := by decide +kernel
theorem dL_law_1162 : decode cL_law 1162 = .ok (.iaload, 1) := by decide +kernel
theorem dL_law_1163 : decode cL_law 1163 = .ok (.invokevirtual 154, 3) := by decide +kernel
theorem dL_law_1166 : decode cL_law 1166 = .ok (.aload_n 2, 1) := by decide +kernel
theorem dL_law_1167 : decode cL_law 1167 = .ok (.aload_n 0, 1) := by decide +kernel
theorem dL_law_1168 : decode cL_law 1168 = .ok (.iload_n 3, 1) := by decide +kernel
theorem dL_law_1169 : decode cL_law 1169 = .ok (.iconst 1, 1) := by decide +kernel
theorem dL_law_1170 : decode cL_law 1170 = .ok (.iadd, 1) := by decide +kernel
theorem dL_law_1171 : decode cL_law 1171 = .ok (.iaload, 1) := by decide +kernel
theorem dL_law_1172 : decode cL_law 1172 = .ok (.invokevirtual 157, 3) := by decide +kernel
theorem dL_law_1175 : decode cL_law 1175 = .ok (.if_icmp .eq 317, 3) := by decide +kernel
theorem dL_law_1178 : decode cL_law 1178 = .ok (.iconst 0, 1) := by decide +kernel
theorem dL_law_1179 : decode cL_law 1179 = .ok (.ireturn, 1) := by decide +kernel
theorem dL_law_1180 : decode cL_law 1180 = .ok (.aload_n 1, 1) := by decide +kernel
theorem dL_law_1181 : decode cL_law 1181 = .ok (.aload_n 0, 1) := by decide +kernel
theorem dL_law_1182 : decode cL_law 1182 = .ok (.iload_n 3, 1) := by decide +kernel
theorem dL_law_1183 : decode cL_law 1183 = .ok (.iconst 1, 1) := by decide +kernel
theorem dL_law_1184 : decode cL_law 1184 = .ok (.iadd, 1) := by decide +kernel
theorem dL_law_1185 : decode cL_law 1185 = .ok (.iaload, 1) := by decide +kernel
theorem dL_law_1186 : decode cL_law 1186 = .ok (.aload_n 0, 1) := by decide +kernel
theorem dL_law_1187 : decode cL_law 1187 = .ok (.iload_n 3, 1) := by decide +kernel
theorem dL_law_1188 : decode cL_law 1188 = .ok (.iconst 2, 1) := by decide +kernel
theorem dL_law_1189 : decode cL_law 1189 = .ok (.iadd, 1) := by decide +kernel
theorem dL_law_1190 : decode cL_law 1190 = .ok (.iaload, 1) := by decide +kernel
theorem dL_law_1191 : decode cL_law 1191 = .ok (.invokevirtual 158, 3) := by decide +kernel
theorem dL_law_1194 : decode cL_law 1194 = .ok (.aload_n 2, 1) := by decide +kernel
theorem dL_law_1195 : decode cL_law 1195 = .ok (.aload_n 0, 1) := by decide +kernel
theorem dL_law_1196 : decode cL_law 1196 = .ok (.iload_n 3, 1) := by decide +kernel
theorem dL_law_1197 : decode cL_law 1197 = .ok (.iconst 1, 1) := by decide +kernel
theorem dL_law_1198 : decode cL_law 1198 = .ok (.iadd, 1) := by decide +kernel
theorem dL_law_1199 : decode cL_law 1199 = .ok (.iaload, 1) := by decide +kernel
theorem dL_law_1200 : decode cL_law 1200 = .ok (.aload_n 0, 1) := by decide +kernel
theorem dL_law_1201 : decode cL_law 1201 = .ok (.iload_n 3, 1) := by decide +kernel
theorem dL_law_1202 : decode cL_law 1202 = .ok (.iconst 2, 1) := by decide +kernel
theorem dL_law_1203 : decode cL_law 1203 = .ok (.iadd, 1) := by decide +kernel
theorem dL_law_1204 : decode cL_law 1204 = .ok (.iaload, 1) := by decide +kernel
theorem dL_law_1205 : decode cL_law 1205 = .ok (.invokevirtual 161, 3) := by decide +kernel
theorem dL_law_1208 : decode cL_law 1208 = .ok (.if_icmp .eq 284, 3) := by decide +kernel
theorem dL_law_1211 : decode cL_law 1211 = .ok (.iconst 0, 1) := by decide +kernel
theorem dL_law_1212 : decode cL_law 1212 = .ok (.ireturn, 1) := by decide +kernel
theorem dL_law_1213 : decode cL_law 1213 = .ok (.aload_n 1, 1) := by decide +kernel
theorem dL_law_1214 : decode cL_law 1214 = .ok (.invokevirtual 162, 3) := by decide +kernel
theorem dL_law_1217 : decode cL_law 1217 = .ok (.aload_n 2, 1) := by decide +kernel
theorem dL_law_1218 : decode cL_law 1218 = .ok (.invokevirtual 165, 3) := by decide +kernel
theorem dL_law_1221 : decode cL_law 1221 = .ok (.if_icmp .eq 271, 3) := by decide +kernel
theorem dL_law_1224 : decode cL_law 1224 = .ok (.iconst 0, 1) := by decide +kernel
theorem dL_law_1225 : decode cL_law 1225 = .ok (.ireturn, 1) := by decide +kernel
theorem dL_law_1226 : decode cL_law 1226 = .ok (.aload_n 1, 1) := by decide +kernel
theorem dL_law_1227 : decode cL_law 1227 = .ok (.invokevirtual 166, 3) := by decide +kernel
theorem dL_law_1230 : decode cL_law 1230 = .ok (.aload_n 2, 1) := by decide +kernel
theorem dL_law_1231 : decode cL_law 1231 = .ok (.invokevirtual 169, 3) := by decide +kernel
theorem dL_law_1234 : decode cL_law 1234 = .ok (.if_icmp .eq 258, 3) := by decide +kernel
theorem dL_law_1237 : decode cL_law 1237 = .ok (.iconst 0, 1) := by decide +kernel
theorem dL_law_1238 : decode cL_law 1238 = .ok (.ireturn, 1) := by decide +kernel
theorem dL_law_1239 : decode cL_law 1239 = .ok (.aload_n 1, 1) := by decide +kernel
theorem dL_law_1240 : decode cL_law 1240 = .ok (.aload_n 0, 1) := by decide +kernel
theorem dL_law_1241 : decode cL_law 1241 = .ok (.iload_n 3, 1) := by decide +kernel
theorem dL_law_1242 : decode cL_law 1242 = .ok (.iconst 1, 1) := by decide +kernel
theorem dL_law_1243 : decode cL_law 1243 = .ok (.iadd, 1) := by decide +kernel
theorem dL_law_1244 : decode cL_law 1244 = .ok (.iaload, 1) := by decide +kernel
theorem dL_law_1245 : decode cL_law 1245 = .ok (.aload_n 0, 1) := by decide +kernel
theorem dL_law_1246 : decode cL_law 1246 = .ok (.iload_n 3, 1) := by decide +kernel
theorem dL_law_1247 : decode cL_law 1247 = .ok (.iconst 2, 1) := by decide +kernel
theorem dL_law_1248 : decode cL_law 1248 = .ok (.iadd, 1) := by decide +kernel
theorem dL_law_1249 : decode cL_law 1249 = .ok (.iaload, 1) := by decide +kernel
theorem dL_law_1250 : decode cL_law 1250 = .ok (.invokevirtual 170, 3) := by decide +kernel
theorem dL_law_1253 : decode cL_law 1253 = .ok (.aload_n 2, 1) := by decide +kernel
theorem dL_law_1254 : decode cL_law 1254 = .ok (.aload_n 0, 1) := by decide +kernel
theorem dL_law_1255 : decode cL_law 1255 = .ok (.iload_n 3, 1) := by decide +kernel
theorem dL_law_1256 : decode cL_law 1256 = .ok (.iconst 1, 1) := by decide +kernel
theorem dL_law_1257 : decode cL_law 1257 = .ok (.iadd, 1) := by decide +kernel
theorem dL_law_1258 : decode cL_law 1258 = .ok (.iaload, 1) := by decide +kernel
theorem dL_law_1259 : decode cL_law 1259 = .ok (.aload_n 0, 1) := by decide +kernel
theorem dL_law_1260 : decode cL_law 1260 = .ok (.iload_n 3, 1) := by decide +kernel
theorem dL_law_1261 : decode cL_law 1261 = .ok (.iconst 2, 1) := by decide +kernel
theorem dL_law_1262 : decode cL_law 1262 = .ok (.iadd, 1) := by decide +kernel
theorem dL_law_1263 : decode cL_law 1263 = .ok (.iaload, 1) := by decide +kernel
theorem dL_law_1264 : decode cL_law 1264 = .ok (.invokevirtual 173, 3) := by decide +kernel
theorem dL_law_1267 : decode cL_law 1267 = .ok (.if_icmp .eq 225, 3) := by decide +kernel
theorem dL_law_1270 : decode cL_law 1270 = .ok (.iconst 0, 1) := by decide +kernel
theorem dL_law_1271 : decode cL_law 1271 = .ok (.ireturn, 1) := by decide +kernel
theorem dL_law_1272 : decode cL_law 1272 = .ok (.aload_n 1, 1) := by decide +kernel
theorem dL_law_1273 : decode cL_law 1273 = .ok (.aload_n 0, 1) := by decide +kernel
theorem dL_law_1274 : decode cL_law 1274 = .ok (.iload_n 3, 1) := by decide +kernel
theorem dL_law_1275 : decode cL_law 1275 = .ok (.iconst 1, 1) := by decide +kernel
theorem dL_law_1276 : decode cL_law 1276 = .ok (.iadd, 1) := by decide +kernel
theorem dL_law_1277 : decode cL_law 1277 = .ok (.iaload, 1) := by decide +kernel
theorem dL_law_1278 : decode cL_law 1278 = .ok (.aload_n 0, 1) := by decide +kernel
theorem dL_law_1279 : decode cL_law 1279 = .ok (.iload_n 3, 1) := by decide +kernel
theorem dL_law_1280 : decode cL_law 1280 = .ok (.iconst 2, 1) := by decide +kernel
theorem dL_law_1281 : decode cL_law 1281 = .ok (.iadd, 1) := by decide +kernel
theorem dL_law_1282 : decode cL_law 1282 = .ok (.iaload, 1) := by decide +kernel
theorem dL_law_1283 : decode cL_law 1283 = .ok (.invokevirtual 174, 3) := by decide +kernel
theorem dL_law_1286 : decode cL_law 1286 = .ok (.aload_n 2, 1) := by decide +kernel
theorem dL_law_1287 : decode cL_law 1287 = .ok (.aload_n 0, 1) := by decide +kernel
theorem dL_law_1288 : decode cL_law 1288 = .ok (.iload_n 3, 1) := by decide +kernel
theorem dL_law_1289 : decode cL_law 1289 = .ok (.iconst 1, 1) := by decide +kernel
theorem dL_law_1290 : decode cL_law 1290 = .ok (.iadd, 1) := by decide +kernel
theorem dL_law_1291 : decode cL_law 1291 = .ok (.iaload, 1) := by decide +kernel
theorem dL_law_1292 : decode cL_law 1292 = .ok (.aload_n 0, 1) := by decide +kernel
theorem dL_law_1293 : decode cL_law 1293 = .ok (.iload_n 3, 1) := by decide +kernel
theorem dL_law_1294 : decode cL_law 1294 = .ok (.iconst 2, 1) := by decide +kernel
theorem dL_law_1295 : decode cL_law 1295 = .ok (.iadd, 1) := by decide +kernel
theorem dL_law_1296 : decode cL_law 1296 = .ok (.iaload, 1) := by decide +kernel
theorem dL_law_1297 : decode cL_law 1297 = .ok (.invokevirtual 177, 3) := by decide +kernel
theorem dL_law_1300 : decode cL_law 1300 = .ok (.if_icmp .eq 192, 3) := by decide +kernel
theorem dL_law_1303 : decode cL_law 1303 = .ok (.iconst 0, 1) := by decide +kernel
theorem dL_law_1304 : decode cL_law 1304 = .ok (.ireturn, 1) := by decide +kernel
theorem dL_law_1305 : decode cL_law 1305 = .ok (.aload_n 1, 1) := by decide +kernel
theorem dL_law_1306 : decode cL_law 1306 = .ok (.invokevirtual 178, 3) := by decide +kernel
theorem dL_law_1309 : decode cL_law 1309 = .ok (.aload_n 2, 1) := by decide +kernel
theorem dL_law_1310 : decode cL_law 1310 = .ok (.invokevirtual 181, 3) := by decide +kernel
theorem dL_law_1313 : decode cL_law 1313 = .ok (.if_icmp .eq 179, 3) := by decide +kernel
theorem dL_law_1316 : decode cL_law 1316 = .ok (.iconst 0, 1) := by decide +kernel
theorem dL_law_1317 : decode cL_law 1317 = .ok (.ireturn, 1) := by decide +kernel
theorem dL_law_1318 : decode cL_law 1318 = .ok (.aload_n 1, 1) := by decide +kernel
theorem dL_law_1319 : decode cL_law 1319 = .ok (.aload_n 0, 1) := by decide +kernel
theorem dL_law_1320 : decode cL_law 1320 = .ok (.iload_n 3, 1) := by decide +kernel
theorem dL_law_1321 : decode cL_law 1321 = .ok (.iconst 1, 1) := by decide +kernel
theorem dL_law_1322 : decode cL_law 1322 = .ok (.iadd, 1) := by decide +kernel
theorem dL_law_1323 : decode cL_law 1323 = .ok (.iaload, 1) := by decide +kernel
theorem dL_law_1324 : decode cL_law 1324 = .ok (.invokevirtual 182, 3) := by decide +kernel
theorem dL_law_1327 : decode cL_law 1327 = .ok (.aload_n 2, 1) := by decide +kernel
theorem dL_law_1328 : decode cL_law 1328 = .ok (.aload_n 0, 1) := by decide +kernel
theorem dL_law_1329 : decode cL_law 1329 = .ok (.iload_n 3, 1) := by decide +kernel
theorem dL_law_1330 : decode cL_law 1330 = .ok (.iconst 1, 1) := by decide +kernel
theorem dL_law_1331 : decode cL_law 1331 = .ok (.iadd, 1) := by decide +kernel
theorem dL_law_1332 : decode cL_law 1332 = .ok (.iaload, 1) := by decide +kernel
theorem dL_law_1333 : decode cL_law 1333 = .ok (.invokevirtual 185, 3) := by decide +kernel
theorem dL_law_1336 : decode cL_law 1336 = .ok (.if_icmp .eq 156, 3) := by decide +kernel
theorem dL_law_1339 : decode cL_law 1339 = .ok (.iconst 0, 1) := by decide +kernel
theorem dL_law_1340 : decode cL_law 1340 = .ok (.ireturn, 1) := by decide +kernel
theorem dL_law_1341 : decode cL_law 1341 = .ok (.aload_n 1, 1) := by decide +kernel
theorem dL_law_1342 : decode cL_law 1342 = .ok (.aload_n 0, 1) := by decide +kernel
theorem dL_law_1343 : decode cL_law 1343 = .ok (.iload_n 3, 1) := by decide +kernel
theorem dL_law_1344 : decode cL_law 1344 = .ok (.iconst 1, 1) := by decide +kernel
theorem dL_law_1345 : decode cL_law 1345 = .ok (.iadd, 1) := by decide +kernel
theorem dL_law_1346 : decode cL_law 1346 = .ok (.iaload, 1) := by decide +kernel
theorem dL_law_1347 : decode cL_law 1347 = .ok (.invokevirtual 186, 3) := by decide +kernel
theorem dL_law_1350 : decode cL_law 1350 = .ok (.aload_n 2, 1) := by decide +kernel
theorem dL_law_1351 : decode cL_law 1351 = .ok (.aload_n 0, 1) := by decide +kernel
theorem dL_law_1352 : decode cL_law 1352 = .ok (.iload_n 3, 1) := by decide +kernel
theorem dL_law_1353 : decode cL_law 1353 = .ok (.iconst 1, 1) := by decide +kernel
theorem dL_law_1354 : decode cL_law 1354 = .ok (.iadd, 1) := by decide +kernel
theorem dL_law_1355 : decode cL_law 1355 = .ok (.iaload, 1) := by decide +kernel
theorem dL_law_1356 : decode cL_law 1356 = .ok (.invokevirtual 189, 3) := by decide +kernel
theorem dL_law_1359 : decode cL_law 1359 = .ok (.if_icmp .eq 133, 3) := by decide +kernel
theorem dL_law_1362 : decode cL_law 1362 = .ok (.iconst 0, 1) := by decide +kernel
theorem dL_law_1363 : decode cL_law 1363 = .ok (.ireturn, 1) := by decide +kernel
theorem dL_law_1364 : decode cL_law 1364 = .ok (.aload_n 1, 1) := by decide +kernel
theorem dL_law_1365 : decode cL_law 1365 = .ok (.aload_n 0, 1) := by decide +kernel
theorem dL_law_1366 : decode cL_law 1366 = .ok (.iload_n 3, 1) := by decide +kernel
theorem dL_law_1367 : decode cL_law 1367 = .ok (.iconst 1, 1) := by decide +kernel
theorem dL_law_1368 : decode cL_law 1368 = .ok (.iadd, 1) := by decide +kernel
theorem dL_law_1369 : decode cL_law 1369 = .ok (.iaload, 1) := by decide +kernel
theorem dL_law_1370 : decode cL_law 1370 = .ok (.invokevirtual 190, 3) := by decide +kernel
theorem dL_law_1373 : decode cL_law 1373 = .ok (.aload_n 2, 1) := by decide +kernel
theorem dL_law_1374 : decode cL_law 1374 = .ok (.aload_n 0, 1) := by decide +kernel
theorem dL_law_1375 : decode cL_law 1375 = .ok (.iload_n 3, 1) := by decide +kernel
theorem dL_law_1376 : decode cL_law 1376 = .ok (.iconst 1, 1) := by decide +kernel
theorem dL_law_1377 : decode cL_law 1377 = .ok (.iadd, 1) := by decide +kernel
theorem dL_law_1378 : decode cL_law 1378 = .ok (.iaload, 1) := by decide +kernel
theorem dL_law_1379 : decode cL_law 1379 = .ok (.invokevirtual 193, 3) := by decide +kernel
theorem dL_law_1382 : decode cL_law 1382 = .ok (.if_icmp .eq 110, 3) := by decide +kernel
theorem dL_law_1385 : decode cL_law 1385 = .ok (.iconst 0, 1) := by decide +kernel
theorem dL_law_1386 : decode cL_law 1386 = .ok (.ireturn, 1) := by decide +kernel
theorem dL_law_1387 : decode cL_law 1387 = .ok (.aload_n 1, 1) := by decide +kernel
theorem dL_law_1388 : decode cL_law 1388 = .ok (.invokevirtual 194, 3) := by decide +kernel
theorem dL_law_1391 : decode cL_law 1391 = .ok (.aload_n 2, 1) := by decide +kernel
theorem dL_law_1392 : decode cL_law 1392 = .ok (.invokevirtual 197, 3) := by decide +kernel
theorem dL_law_1395 : decode cL_law 1395 = .ok (.if_icmp .eq 97, 3) := by decide +kernel
theorem dL_law_1398 : decode cL_law 1398 = .ok (.iconst 0, 1) := by decide +kernel
theorem dL_law_1399 : decode cL_law 1399 = .ok (.ireturn, 1) := by decide +kernel
theorem dL_law_1400 : decode cL_law 1400 = .ok (.aload_n 1, 1) := by decide +kernel
theorem dL_law_1401 : decode cL_law 1401 = .ok (.aload_n 0, 1) := by decide +kernel
theorem dL_law_1402 : decode cL_law 1402 = .ok (.iload_n 3, 1) := by decide +kernel
theorem dL_law_1403 : decode cL_law 1403 = .ok (.iconst 1, 1) := by decide +kernel
theorem dL_law_1404 : decode cL_law 1404 = .ok (.iadd, 1) := by decide +kernel
theorem dL_law_1405 : decode cL_law 1405 = .ok (.iaload, 1) := by decide +kernel
theorem dL_law_1406 : decode cL_law 1406 = .ok (.aload_n 0, 1) := by decide +kernel
theorem dL_law_1407 : decode cL_law 1407 = .ok (.iload_n 3, 1) := by decide +kernel
theorem dL_law_1408 : decode cL_law 1408 = .ok (.iconst 2, 1) := by decide +kernel
theorem dL_law_1409 : decode cL_law 1409 = .ok (.iadd, 1) := by decide +kernel
theorem dL_law_1410 : decode cL_law 1410 = .ok (.iaload, 1) := by decide +kernel
theorem dL_law_1411 : decode cL_law 1411 = .ok (.aload_n 0, 1) := by decide +kernel
theorem dL_law_1412 : decode cL_law 1412 = .ok (.iload_n 3, 1) := by decide +kernel
theorem dL_law_1413 : decode cL_law 1413 = .ok (.iconst 3, 1) := by decide +kernel
theorem dL_law_1414 : decode cL_law 1414 = .ok (.iadd, 1) := by decide +kernel
theorem dL_law_1415 : decode cL_law 1415 = .ok (.iaload, 1) := by decide +kernel
theorem dL_law_1416 : decode cL_law 1416 = .ok (.invokevirtual 198, 3) := by decide +kernel
theorem dL_law_1419 : decode cL_law 1419 = .ok (.aload_n 2, 1) := by decide +kernel
theorem dL_law_1420 : decode cL_law 1420 = .ok (.aload_n 0, 1) := by decide +kernel
theorem dL_law_1421 : decode cL_law 1421 = .ok (.iload_n 3, 1) := by decide +kernel
theorem dL_law_1422 : decode cL_law 1422 = .ok (.iconst 1, 1) := by decide +kernel
theorem dL_law_1423 : decode cL_law 1423 = .ok (.iadd, 1) := by decide +kernel
theorem dL_law_1424 : decode cL_law 1424 = .ok (.iaload, 1) := by decide +kernel
theorem dL_law_1425 : decode cL_law 1425 = .ok (.aload_n 0, 1) := by decide +kernel
theorem dL_law_1426 : decode cL_law 1426 = .ok (.iload_n 3, 1) := by decide +kernel
theorem dL_law_1427 : decode cL_law 1427 = .ok (.iconst 2, 1) := by decide +kernel
theorem dL_law_1428 : decode cL_law 1428 = .ok (.iadd, 1) := by decide +kernel
theorem dL_law_1429 : decode cL_law 1429 = .ok (.iaload, 1) := by decide +kernel
theorem dL_law_1430 : decode cL_law 1430 = .ok (.aload_n 0, 1) := by decide +kernel
theorem dL_law_1431 : decode cL_law 1431 = .ok (.iload_n 3, 1) := by decide +kernel
theorem dL_law_1432 : decode cL_law 1432 = .ok (.iconst 3, 1) := by decide +kernel
theorem dL_law_1433 : decode cL_law 1433 = .ok (.iadd, 1) := by decide +kernel
theorem dL_law_1434 : decode cL_law 1434 = .ok (.iaload, 1) := by decide +kernel
theorem dL_law_1435 : decode cL_law 1435 = .ok (.invokevirtual 201, 3) := by decide +kernel
theorem dL_law_1438 : decode cL_law 1438 = .ok (.if_icmp .eq 54, 3) := by decide +kernel
theorem dL_law_1441 : decode cL_law 1441 = .ok (.iconst 0, 1) := by decide +kernel
theorem dL_law_1442 : decode cL_law 1442 = .ok (.ireturn, 1) := by decide +kernel
theorem dL_law_1443 : decode cL_law 1443 = .ok (.aload_n 1, 1) := by decide +kernel
theorem dL_law_1444 : decode cL_law 1444 = .ok (.invokevirtual 202, 3) := by decide +kernel
theorem dL_law_1447 : decode cL_law 1447 = .ok (.aload_n 2, 1) := by decide +kernel
theorem dL_law_1448 : decode cL_law 1448 = .ok (.invokevirtual 205, 3) := by decide +kernel
theorem dL_law_1451 : decode cL_law 1451 = .ok (.if_icmp .eq 41, 3) := by decide +kernel
theorem dL_law_1454 : decode cL_law 1454 = .ok (.iconst 0, 1) := by decide +kernel
theorem dL_law_1455 : decode cL_law 1455 = .ok (.ireturn, 1) := by decide +kernel
theorem dL_law_1456 : decode cL_law 1456 = .ok (.aload_n 1, 1) := by decide +kernel
theorem dL_law_1457 : decode cL_law 1457 = .ok (.invokevirtual 206, 3) := by decide +kernel
theorem dL_law_1460 : decode cL_law 1460 = .ok (.aload_n 2, 1) := by decide +kernel
theorem dL_law_1461 : decode cL_law 1461 = .ok (.invokevirtual 209, 3) := by decide +kernel
theorem dL_law_1464 : decode cL_law 1464 = .ok (.if_icmp .eq 28, 3) := by decide +kernel
theorem dL_law_1467 : decode cL_law 1467 = .ok (.iconst 0, 1) := by decide +kernel
theorem dL_law_1468 : decode cL_law 1468 = .ok (.ireturn, 1) := by decide +kernel
theorem dL_law_1469 : decode cL_law 1469 = .ok (.aload_n 1, 1) := by decide +kernel
theorem dL_law_1470 : decode cL_law 1470 = .ok (.aload_n 0, 1) := by decide +kernel
theorem dL_law_1471 : decode cL_law 1471 = .ok (.iload_n 3, 1) := by decide +kernel
theorem dL_law_1472 : decode cL_law 1472 = .ok (.iconst 1, 1) := by decide +kernel
theorem dL_law_1473 : decode cL_law 1473 = .ok (.iadd, 1) := by decide +kernel
theorem dL_law_1474 : decode cL_law 1474 = .ok (.iaload, 1) := by decide +kernel
theorem dL_law_1475 : decode cL_law 1475 = .ok (.invokevirtual 210, 3) := by decide +kernel
theorem dL_law_1478 : decode cL_law 1478 = .ok (.aload_n 2, 1) := by decide +kernel
theorem dL_law_1479 : decode cL_law 1479 = .ok (.aload_n 0, 1) := by decide +kernel
theorem dL_law_1480 : decode cL_law 1480 = .ok (.iload_n 3, 1) := by decide +kernel
theorem dL_law_1481 : decode cL_law 1481 = .ok (.iconst 1, 1) := by decide +kernel
theorem dL_law_1482 : decode cL_law 1482 = .ok (.iadd, 1) := by decide +kernel
theorem dL_law_1483 : decode cL_law 1483 = .ok (.iaload, 1) := by decide +kernel
theorem dL_law_1484 : decode cL_law 1484 = .ok (.invokevirtual 213, 3) := by decide +kernel
theorem dL_law_1487 : decode cL_law 1487 = .ok (.if_icmp .eq 5, 3) := by decide +kernel
theorem dL_law_1490 : decode cL_law 1490 = .ok (.iconst 0, 1) := by decide +kernel
theorem dL_law_1491 : decode cL_law 1491 = .ok (.ireturn, 1) := by decide +kernel
theorem dL_law_1492 : decode cL_law 1492 = .ok (.iinc 3 4, 3) := by decide +kernel
theorem dL_law_1495 : decode cL_law 1495 = .ok (.goto (-1477), 3) := by decide +kernel
theorem dL_law_1498 : decode cL_law 1498 = .ok (.iconst 1, 1) := by decide +kernel
theorem dL_law_1499 : decode cL_law 1499 = .ok (.ireturn, 1) := by decide +kernel
