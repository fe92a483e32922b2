theorem dX4_pourFirst_40 : decode cX4_pourFirst 40 = .ok (.invokevirtual 79, 3) := by decide +kernel
theorem dX4_pourFirst_43 : decode cX4_pourFirst 43 = .ok (.aload_n 0, 1) := by decide +kernel
theorem dX4_pourFirst_44 : decode cX4_pourFirst 44 = .ok (.getfield 16, 3) := by decide +kernel
theorem dX4_pourFirst_47 : decode cX4_pourFirst 47 = .ok (.iload_n 3, 1) := by decide +kernel
theorem dX4_pourFirst_48 : decode cX4_pourFirst 48 = .ok (.invokevirtual 226, 3) := by decide +kernel
theorem dX4_pourFirst_51 : decode cX4_pourFirst 51 = .ok (.aload_n 0, 1) := by decide +kernel
theorem dX4_pourFirst_52 : decode cX4_pourFirst 52 = .ok (.invokevirtual 223, 3) := by decide +kernel
theorem dX4_pourFirst_55 : decode cX4_pourFirst 55 = .ok (.istore 4, 2) := by decide +kernel
theorem dX4_pourFirst_57 : decode cX4_pourFirst 57 = .ok (.iload 4, 2) := by decide +kernel
theorem dX4_pourFirst_59 : decode cX4_pourFirst 59 = .ok (.iload_n 1, 1) := by decide +kernel
theorem dX4_pourFirst_60 : decode cX4_pourFirst 60 = .ok (.if_icmp .le 8, 3) := by decide +kernel
theorem dX4_pourFirst_63 : decode cX4_pourFirst 63 = .ok (.iload 4, 2) := by decide +kernel
theorem dX4_pourFirst_65 : decode cX4_pourFirst 65 = .ok (.istore_n 1, 1) := by decide +kernel
theorem dX4_pourFirst_66 : decode cX4_pourFirst 66 = .ok (.iload_n 3, 1) := by decide +kernel
theorem dX4_pourFirst_67 : decode cX4_pourFirst 67 = .ok (.istore_n 2, 1) := by decide +kernel
theorem dX4_pourFirst_68 : decode cX4_pourFirst 68 = .ok (.iinc 3 1, 3) := by decide +kernel
theorem dX4_pourFirst_71 : decode cX4_pourFirst 71 = .ok (.goto (-50), 3) := by decide +kernel
theorem dX4_pourFirst_74 : decode cX4_pourFirst 74 = .ok (.iload_n 2, 1) := by decide +kernel
theorem dX4_pourFirst_75 : decode cX4_pourFirst 75 = .ok (.ireturn, 1) := by decide +kernel
theorem dX4_pourFewest_0 : decode cX4_pourFewest 0 = .ok (.aload_n 0, 1) := by decide +kernel
theorem dX4_pourFewest_1 : decode cX4_pourFewest 1 = .ok (.iload_n 1, 1) := by decide +kernel
theorem dX4_pourFewest_2 : decode cX4_pourFewest 2 = .ok (.invokevirtual 162, 3) := by decide +kernel
theorem dX4_pourFewest_5 : decode cX4_pourFewest 5 = .ok (.ifCond .eq 9, 3) := by decide +kernel
theorem dX4_pourFewest_8 : decode cX4_pourFewest 8 = .ok (.aload_n 0, 1) := by decide +kernel
theorem dX4_pourFewest_9 : decode cX4_pourFewest 9 = .ok (.iconst (-1), 1) := by decide +kernel
theorem dX4_pourFewest_10 : decode cX4_pourFewest 10 = .ok (.invokevirtual 61, 3) := by decide +kernel
theorem dX4_pourFewest_13 : decode cX4_pourFewest 13 = .ok (.ireturn, 1) := by decide +kernel
theorem dX4_pourFewest_14 : decode cX4_pourFewest 14 = .ok (.aload_n 0, 1) := by decide +kernel
theorem dX4_pourFewest_15 : decode cX4_pourFewest 15 = .ok (.getfield 12, 3) := by decide +kernel
theorem dX4_pourFewest_18 : decode cX4_pourFewest 18 = .ok (.getfield 180, 3) := by decide +kernel
theorem dX4_pourFewest_21 : decode cX4_pourFewest 21 = .ok (.iload_n 1, 1) := by decide +kernel
theorem dX4_pourFewest_22 : decode cX4_pourFewest 22 = .ok (.iaload, 1) := by decide +kernel
theorem dX4_pourFewest_23 : decode cX4_pourFewest 23 = .ok (.ifCond .eq 10, 3) := by decide +kernel
theorem dX4_pourFewest_26 : decode cX4_pourFewest 26 = .ok (.aload_n 0, 1) := by decide +kernel
theorem dX4_pourFewest_27 : decode cX4_pourFewest 27 = .ok (.bipush (-3), 2) := by decide +kernel
theorem dX4_pourFewest_29 : decode cX4_pourFewest 29 = .ok (.invokevirtual 61, 3) := by decide +kernel
theorem dX4_pourFewest_32 : decode cX4_pourFewest 32 = .ok (.ireturn, 1) := by decide +kernel
theorem dX4_pourFewest_33 : decode cX4_pourFewest 33 = .ok (.iconst 0, 1) := by decide +kernel
theorem dX4_pourFewest_34 : decode cX4_pourFewest 34 = .ok (.istore_n 2, 1) := by decide +kernel
theorem dX4_pourFewest_35 : decode cX4_pourFewest 35 = .ok (.iload_n 2, 1) := by decide +kernel
theorem dX4_pourFewest_36 : decode cX4_pourFewest 36 = .ok (.iconst 3, 1) := by decide +kernel
theorem dX4_pourFewest_37 : decode cX4_pourFewest 37 = .ok (.if_icmp .gt 49, 3) := by decide +kernel
theorem dX4_pourFewest_40 : decode cX4_pourFewest 40 = .ok (.iconst 0, 1) := by decide +kernel
theorem dX4_pourFewest_41 : decode cX4_pourFewest 41 = .ok (.istore_n 3, 1) := by decide +kernel
theorem dX4_pourFewest_42 : decode cX4_pourFewest 42 = .ok (.iload_n 3, 1) := by decide +kernel
theorem dX4_pourFewest_43 : decode cX4_pourFewest 43 = .ok (.iconst 1, 1) := by decide +kernel
theorem dX4_pourFewest_44 : decode cX4_pourFewest 44 = .ok (.aload_n 0, 1) := by decide +kernel
theorem dX4_pourFewest_45 : decode cX4_pourFewest 45 = .ok (.getfield 12, 3) := by decide +kernel
theorem dX4_pourFewest_48 : decode cX4_pourFewest 48 = .ok (.getfield 156, 3) := by decide +kernel
theorem dX4_pourFewest_51 : decode cX4_pourFewest 51 = .ok (.ishl, 1) := by decide +kernel
theorem dX4_pourFewest_52 : decode cX4_pourFewest 52 = .ok (.if_icmp .ge 28, 3) := by decide +kernel
theorem dX4_pourFewest_55 : decode cX4_pourFewest 55 = .ok (.iload_n 3, 1) := by decide +kernel
theorem dX4_pourFewest_56 : decode cX4_pourFewest 56 = .ok (.invokestatic 229, 3) := by decide +kernel
theorem dX4_pourFewest_59 : decode cX4_pourFewest 59 = .ok (.iload_n 2, 1) := by decide +kernel
theorem dX4_pourFewest_60 : decode cX4_pourFewest 60 = .ok (.if_icmp .ne 14, 3) := by decide +kernel
theorem dX4_pourFewest_63 : decode cX4_pourFewest 63 = .ok (.aload_n 0, 1) := by decide +kernel
theorem dX4_pourFewest_64 : decode cX4_pourFewest 64 = .ok (.iload_n 3, 1) := by decide +kernel
theorem dX4_pourFewest_65 : decode cX4_pourFewest 65 = .ok (.iload_n 1, 1) := by decide +kernel
theorem dX4_pourFewest_66 : decode cX4_pourFewest 66 = .ok (.invokevirtual 234, 3) := by decide +kernel
theorem dX4_pourFewest_69 : decode cX4_pourFewest 69 = .ok (.ifCond .eq 5, 3) := by decide +kernel
theorem dX4_pourFewest_72 : decode cX4_pourFewest 72 = .ok (.iload_n 3, 1) := by decide +kernel
theorem dX4_pourFewest_73 : decode cX4_pourFewest 73 = .ok (.ireturn, 1) := by decide +kernel
theorem dX4_pourFewest_74 : decode cX4_pourFewest 74 = .ok (.iinc 3 1, 3) := by decide +kernel
theorem dX4_pourFewest_77 : decode cX4_pourFewest 77 = .ok (.goto (-35), 3) := by decide +kernel
theorem dX4_pourFewest_80 : decode cX4_pourFewest 80 = .ok (.iinc 2 1, 3) := by decide +kernel
theorem dX4_pourFewest_83 : decode cX4_pourFewest 83 = .ok (.goto (-48), 3) := by decide +kernel
theorem dX4_pourFewest_86 : decode cX4_pourFewest 86 = .ok (.bipush (-9), 2) := by decide +kernel
theorem dX4_pourFewest_88 : decode cX4_pourFewest 88 = .ok (.ireturn, 1) := by decide +kernel
theorem dX4_pouredGetsThrough_0 : decode cX4_pouredGetsThrough 0 = .ok (.aload_n 0, 1) := by decide +kernel
theorem dX4_pouredGetsThrough_1 : decode cX4_pouredGetsThrough 1 = .ok (.getfield 16, 3) := by decide +kernel
theorem dX4_pouredGetsThrough_4 : decode cX4_pouredGetsThrough 4 = .ok (.aload_n 0, 1) := by decide +kernel
theorem dX4_pouredGetsThrough_5 : decode cX4_pouredGetsThrough 5 = .ok (.getfield 12, 3) := by decide +kernel
theorem dX4_pouredGetsThrough_8 : decode cX4_pouredGetsThrough 8 = .ok (.invokevirtual 79, 3) := by decide +kernel
theorem dX4_pouredGetsThrough_11 : decode cX4_pouredGetsThrough 11 = .ok (.iconst 0, 1) := by decide +kernel
theorem dX4_pouredGetsThrough_12 : decode cX4_pouredGetsThrough 12 = .ok (.istore_n 3, 1) := by decide +kernel
theorem dX4_pouredGetsThrough_13 : decode cX4_pouredGetsThrough 13 = .ok (.iload_n 3, 1) := by decide +kernel
theorem dX4_pouredGetsThrough_14 : decode cX4_pouredGetsThrough 14 = .ok (.aload_n 0, 1) := by decide +kernel
theorem dX4_pouredGetsThrough_15 : decode cX4_pouredGetsThrough 15 = .ok (.getfield 12, 3) := by decide +kernel
theorem dX4_pouredGetsThrough_18 : decode cX4_pouredGetsThrough 18 = .ok (.getfield 156, 3) := by decide +kernel
theorem dX4_pouredGetsThrough_21 : decode cX4_pouredGetsThrough 21 = .ok (.if_icmp .ge 42, 3) := by decide +kernel
theorem dX4_pouredGetsThrough_24 : decode cX4_pouredGetsThrough 24 = .ok (.iload_n 1, 1) := by decide +kernel
theorem dX4_pouredGetsThrough_25 : decode cX4_pouredGetsThrough 25 = .ok (.iload_n 3, 1) := by decide +kernel
theorem dX4_pouredGetsThrough_26 : decode cX4_pouredGetsThrough 26 = .ok (.ishr, 1) := by decide +kernel
theorem dX4_pouredGetsThrough_27 : decode cX4_pouredGetsThrough 27 = .ok (.iconst 1, 1) := by decide +kernel
theorem dX4_pouredGetsThrough_28 : decode cX4_pouredGetsThrough 28 = .ok (.iand, 1) := by decide +kernel
theorem dX4_pouredGetsThrough_29 : decode cX4_pouredGetsThrough 29 = .ok (.iconst 1, 1) := by decide +kernel
theorem dX4_pouredGetsThrough_30 : decode cX4_pouredGetsThrough 30 = .ok (.if_icmp .ne 27, 3) := by decide +kernel
theorem dX4_pouredGetsThrough_33 : decode cX4_pouredGetsThrough 33 = .ok (.aload_n 0, 1) := by decide +kernel
theorem dX4_pouredGetsThrough_34 : decode cX4_pouredGetsThrough 34 = .ok (.getfield 12, 3) := by decide +kernel
theorem dX4_pouredGetsThrough_37 : decode cX4_pouredGetsThrough 37 = .ok (.getfield 136, 3) := by decide +kernel
theorem dX4_pouredGetsThrough_40 : decode cX4_pouredGetsThrough 40 = .ok (.iload_n 3, 1) := by decide +kernel
theorem dX4_pouredGetsThrough_41 : decode cX4_pouredGetsThrough 41 = .ok (.iaload, 1) := by decide +kernel
theorem dX4_pouredGetsThrough_42 : decode cX4_pouredGetsThrough 42 = .ok (.bipush 99, 2) := by decide +kernel
theorem dX4_pouredGetsThrough_44 : decode cX4_pouredGetsThrough 44 = .ok (.if_icmp .lt 5, 3) := by decide +kernel
theorem dX4_pouredGetsThrough_47 : decode cX4_pouredGetsThrough 47 = .ok (.iconst 0, 1) := by decide +kernel
theorem dX4_pouredGetsThrough_48 : decode cX4_pouredGetsThrough 48 = .ok (.ireturn, 1) := by decide +kernel
theorem dX4_pouredGetsThrough_49 : decode cX4_pouredGetsThrough 49 = .ok (.aload_n 0, 1) := by decide +kernel
theorem dX4_pouredGetsThrough_50 : decode cX4_pouredGetsThrough 50 = .ok (.getfield 16, 3) := by decide +kernel
theorem dX4_pouredGetsThrough_53 : decode cX4_pouredGetsThrough 53 = .ok (.iload_n 3, 1) := by decide +kernel
theorem dX4_pouredGetsThrough_54 : decode cX4_pouredGetsThrough 54 = .ok (.invokevirtual 226, 3) := by decide +kernel
theorem dX4_pouredGetsThrough_57 : decode cX4_pouredGetsThrough 57 = .ok (.iinc 3 1, 3) := by decide +kernel
theorem dX4_pouredGetsThrough_60 : decode cX4_pouredGetsThrough 60 = .ok (.goto (-47), 3) := by decide +kernel
theorem dX4_pouredGetsThrough_63 : decode cX4_pouredGetsThrough 63 = .ok (.aload_n 0, 1) := by decide +kernel
theorem dX4_pouredGetsThrough_64 : decode cX4_pouredGetsThrough 64 = .ok (.iload_n 2, 1) := by decide +kernel
theorem dX4_pouredGetsThrough_65 : decode cX4_pouredGetsThrough 65 = .ok (.invokevirtual 211, 3) := by decide +kernel
theorem dX4_pouredGetsThrough_68 : decode cX4_pouredGetsThrough 68 = .ok (.ireturn, 1) := by decide +kernel
theorem dX4_strongest_0 : decode cX4_strongest 0 = .ok (.iload_n 1, 1) := by decide +kernel
theorem dX4_strongest_1 : decode cX4_strongest 1 = .ok (.iconst 1, 1) := by decide +kernel
theorem dX4_strongest_2 : decode cX4_strongest 2 = .ok (.bipush 60, 2) := by decide +kernel
theorem dX4_strongest_4 : decode cX4_strongest 4 = .ok (.invokestatic 57, 3) := by decide +kernel
theorem dX4_strongest_7 : decode cX4_strongest 7 = .ok (.istore_n 2, 1) := by decide +kernel
theorem dX4_strongest_8 : decode cX4_strongest 8 = .ok (.iload_n 2, 1) := by decide +kernel
theorem dX4_strongest_9 : decode cX4_strongest 9 = .ok (.ifCond .eq 9, 3) := by decide +kernel
theorem dX4_strongest_12 : decode cX4_strongest 12 = .ok (.aload_n 0, 1) := by decide +kernel
theorem dX4_strongest_13 : decode cX4_strongest 13 = .ok (.iload_n 2, 1) := by decide +kernel
theorem dX4_strongest_14 : decode cX4_strongest 14 = .ok (.invokevirtual 61, 3) := by decide +kernel
theorem dX4_strongest_17 : decode cX4_strongest 17 = .ok (.ireturn, 1) := by decide +kernel
theorem dX4_strongest_18 : decode cX4_strongest 18 = .ok (.aload_n 0, 1) := by decide +kernel
theorem dX4_strongest_19 : decode cX4_strongest 19 = .ok (.getfield 16, 3) := by decide +kernel
theorem dX4_strongest_22 : decode cX4_strongest 22 = .ok (.aload_n 0, 1) := by decide +kernel
theorem dX4_strongest_23 : decode cX4_strongest 23 = .ok (.getfield 12, 3) := by decide +kernel
theorem dX4_strongest_26 : decode cX4_strongest 26 = .ok (.invokevirtual 79, 3) := by decide +kernel
theorem dX4_strongest_29 : decode cX4_strongest 29 = .ok (.iconst 0, 1) := by decide +kernel
theorem dX4_strongest_30 : decode cX4_strongest 30 = .ok (.istore_n 3, 1) := by decide +kernel
theorem dX4_strongest_31 : decode cX4_strongest 31 = .ok (.iload_n 3, 1) := by decide +kernel
theorem dX4_strongest_32 : decode cX4_strongest 32 = .ok (.bipush 20, 2) := by decide +kernel
theorem dX4_strongest_34 : decode cX4_strongest 34 = .ok (.if_icmp .gt 36, 3) := by decide +kernel
theorem dX4_strongest_37 : decode cX4_strongest 37 = .ok (.aload_n 0, 1) := by decide +kernel
theorem dX4_strongest_38 : decode cX4_strongest 38 = .ok (.getfield 16, 3) := by decide +kernel
theorem dX4_strongest_41 : decode cX4_strongest 41 = .ok (.iload_n 1, 1) := by decide +kernel
theorem dX4_strongest_42 : decode cX4_strongest 42 = .ok (.invokevirtual 237, 3) := by decide +kernel
theorem dX4_strongest_45 : decode cX4_strongest 45 = .ok (.ifCond .eq 5, 3) := by decide +kernel
theorem dX4_strongest_48 : decode cX4_strongest 48 = .ok (.iload_n 3, 1) := by decide +kernel
theorem dX4_strongest_49 : decode cX4_strongest 49 = .ok (.ireturn, 1) := by decide +kernel
theorem dX4_strongest_50 : decode cX4_strongest 50 = .ok (.aload_n 0, 1) := by decide +kernel
theorem dX4_strongest_51 : decode cX4_strongest 51 = .ok (.getfield 16, 3) := by decide +kernel
theorem dX4_strongest_54 : decode cX4_strongest 54 = .ok (.aload_n 0, 1) := by decide +kernel
theorem dX4_strongest_55 : decode cX4_strongest 55 = .ok (.getfield 16, 3) := by decide +kernel
theorem dX4_strongest_58 : decode cX4_strongest 58 = .ok (.invokevirtual 205, 3) := by decide +kernel
theorem dX4_strongest_61 : decode cX4_strongest 61 = .ok (.invokevirtual 226, 3) := by decide +kernel
theorem dX4_strongest_64 : decode cX4_strongest 64 = .ok (.iinc 3 1, 3) := by decide +kernel
theorem dX4_strongest_67 : decode cX4_strongest 67 = .ok (.goto (-36), 3) := by decide +kernel
theorem dX4_strongest_70 : decode cX4_strongest 70 = .ok (.bipush (-9), 2) := by decide +kernel
theorem dX4_strongest_72 : decode cX4_strongest 72 = .ok (.ireturn, 1) := by decide +kernel
theorem dX4_order_0 : decode cX4_order 0 = .ok (.iload_n 1, 1) := by decide +kernel
theorem dX4_order_1 : decode cX4_order 1 = .ok (.invokestatic 153, 3) := by decide +kernel
theorem dX4_order_4 : decode cX4_order 4 = .ok (.ifCond .eq 10, 3) := by decide +kernel
theorem dX4_order_7 : decode cX4_order 7 = .ok (.aload_n 0, 1) := by decide +kernel
theorem dX4_order_8 : decode cX4_order 8 = .ok (.bipush (-2), 2) := by decide +kernel
theorem dX4_order_10 : decode cX4_order 10 = .ok (.invokevirtual 61, 3) := by decide +kernel
theorem dX4_order_13 : decode cX4_order 13 = .ok (.ireturn, 1) := by decide +kernel
theorem dX4_order_14 : decode cX4_order 14 = .ok (.aload_n 0, 1) := by decide +kernel
theorem dX4_order_15 : decode cX4_order 15 = .ok (.invokevirtual 240, 3) := by decide +kernel
theorem dX4_order_18 : decode cX4_order 18 = .ok (.istore_n 2, 1) := by decide +kernel
theorem dX4_order_19 : decode cX4_order 19 = .ok (.iload_n 2, 1) := by decide +kernel
theorem dX4_order_20 : decode cX4_order 20 = .ok (.iconst 4, 1) := by decide +kernel
theorem dX4_order_21 : decode cX4_order 21 = .ok (.if_icmp .le 10, 3) := by decide +kernel
theorem dX4_order_24 : decode cX4_order 24 = .ok (.aload_n 0, 1) := by decide +kernel
theorem dX4_order_25 : decode cX4_order 25 = .ok (.bipush (-3), 2) := by decide +kernel
theorem dX4_order_27 : decode cX4_order 27 = .ok (.invokevirtual 61, 3) := by decide +kernel
theorem dX4_order_30 : decode cX4_order 30 = .ok (.ireturn, 1) := by decide +kernel
theorem dX4_order_31 : decode cX4_order 31 = .ok (.bipush (-9), 2) := by decide +kernel
theorem dX4_order_33 : decode cX4_order 33 = .ok (.istore_n 3, 1) := by decide +kernel
theorem dX4_order_34 : decode cX4_order 34 = .ok (.bipush (-9), 2) := by decide +kernel
theorem dX4_order_36 : decode cX4_order 36 = .ok (.istore 4, 2) := by decide +kernel
theorem dX4_order_38 : decode cX4_order 38 = .ok (.iconst 0, 1) := by decide +kernel
theorem dX4_order_39 : decode cX4_order 39 = .ok (.istore 5, 2) := by decide +kernel
theorem dX4_order_41 : decode cX4_order 41 = .ok (.iload 5, 2) := by decide +kernel
theorem dX4_order_43 : decode cX4_order 43 = .ok (.bipush 24, 2) := by decide +kernel
theorem dX4_order_45 : decode cX4_order 45 = .ok (.if_icmp .ge 47, 3) := by decide +kernel
theorem dX4_order_48 : decode cX4_order 48 = .ok (.aload_n 0, 1) := by decide +kernel
theorem dX4_order_49 : decode cX4_order 49 = .ok (.iload_n 2, 1) := by decide +kernel
theorem dX4_order_50 : decode cX4_order 50 = .ok (.invokevirtual 243, 3) := by decide +kernel
theorem dX4_order_53 : decode cX4_order 53 = .ok (.aload_n 0, 1) := by decide +kernel
theorem dX4_order_54 : decode cX4_order 54 = .ok (.invokevirtual 223, 3) := by decide +kernel
theorem dX4_order_57 : decode cX4_order 57 = .ok (.istore 6, 2) := by decide +kernel
theorem dX4_order_59 : decode cX4_order 59 = .ok (.iload 6, 2) := by decide +kernel
theorem dX4_order_61 : decode cX4_order 61 = .ok (.iload_n 3, 1) := by decide +kernel
theorem dX4_order_62 : decode cX4_order 62 = .ok (.if_icmp .le 13, 3) := by decide +kernel
theorem dX4_order_65 : decode cX4_order 65 = .ok (.iload 6, 2) := by decide +kernel
theorem dX4_order_67 : decode cX4_order 67 = .ok (.istore_n 3, 1) := by decide +kernel
theorem dX4_order_68 : decode cX4_order 68 = .ok (.aload_n 0, 1) := by decide +kernel
theorem dX4_order_69 : decode cX4_order 69 = .ok (.iload_n 2, 1) := by decide +kernel
theorem dX4_order_70 : decode cX4_order 70 = .ok (.invokevirtual 246, 3) := by decide +kernel
theorem dX4_order_73 : decode cX4_order 73 = .ok (.istore 4, 2) := by decide +kernel
theorem dX4_order_75 : decode cX4_order 75 = .ok (.aload_n 0, 1) := by decide +kernel
theorem dX4_order_76 : decode cX4_order 76 = .ok (.iload_n 2, 1) := by decide +kernel
theorem dX4_order_77 : decode cX4_order 77 = .ok (.invokevirtual 249, 3) := by decide +kernel
theorem dX4_order_80 : decode cX4_order 80 = .ok (.ifCond .ne 6, 3) := by decide +kernel
theorem dX4_order_83 : decode cX4_order 83 = .ok (.goto 9, 3) := by decide +kernel
theorem dX4_order_86 : decode cX4_order 86 = .ok (.iinc 5 1, 3) := by decide +kernel
theorem dX4_order_89 : decode cX4_order 89 = .ok (.goto (-48), 3) := by decide +kernel
theorem dX4_order_92 : decode cX4_order 92 = .ok (.iload_n 1, 1) := by decide +kernel
theorem dX4_order_93 : decode cX4_order 93 = .ok (.ifCond .ne 8, 3) := by decide +kernel
theorem dX4_order_96 : decode cX4_order 96 = .ok (.iload 4, 2) := by decide +kernel
theorem dX4_order_98 : decode cX4_order 98 = .ok (.goto 4, 3) := by decide +kernel
theorem dX4_order_101 : decode cX4_order 101 = .ok (.iload_n 3, 1) := by decide +kernel
theorem dX4_order_102 : decode cX4_order 102 = .ok (.ireturn, 1) := by decide +kernel
theorem dX4_lineUp_0 : decode cX4_lineUp 0 = .ok (.iconst 0, 1) := by decide +kernel
theorem dX4_lineUp_1 : decode cX4_lineUp 1 = .ok (.istore_n 1, 1) := by decide +kernel
theorem dX4_lineUp_2 : decode cX4_lineUp 2 = .ok (.iconst 0, 1) := by decide +kernel
theorem dX4_lineUp_3 : decode cX4_lineUp 3 = .ok (.istore_n 2, 1) := by decide +kernel
theorem dX4_lineUp_4 : decode cX4_lineUp 4 = .ok (.iload_n 2, 1) := by decide +kernel
theorem dX4_lineUp_5 : decode cX4_lineUp 5 = .ok (.aload_n 0, 1) := by decide +kernel
theorem dX4_lineUp_6 : decode cX4_lineUp 6 = .ok (.getfield 12, 3) := by decide +kernel
theorem dX4_lineUp_9 : decode cX4_lineUp 9 = .ok (.getfield 159, 3) := by decide +kernel
theorem dX4_lineUp_12 : decode cX4_lineUp 12 = .ok (.if_icmp .ge 37, 3) := by decide +kernel
theorem dX4_lineUp_15 : decode cX4_lineUp 15 = .ok (.aload_n 0, 1) := by decide +kernel
theorem dX4_lineUp_16 : decode cX4_lineUp 16 = .ok (.getfield 12, 3) := by decide +kernel
theorem dX4_lineUp_19 : decode cX4_lineUp 19 = .ok (.iload_n 2, 1) := by decide +kernel
theorem dX4_lineUp_20 : decode cX4_lineUp 20 = .ok (.invokevirtual 252, 3) := by decide +kernel
theorem dX4_lineUp_23 : decode cX4_lineUp 23 = .ok (.ifCond .eq 20, 3) := by decide +kernel
theorem dX4_lineUp_26 : decode cX4_lineUp 26 = .ok (.aload_n 0, 1) := by decide +kernel
theorem dX4_lineUp_27 : decode cX4_lineUp 27 = .ok (.getfield 54, 3) := by decide +kernel
theorem dX4_lineUp_30 : decode cX4_lineUp 30 = .ok (.iload_n 1, 1) := by decide +kernel
theorem dX4_lineUp_31 : decode cX4_lineUp 31 = .ok (.iload_n 2, 1) := by decide +kernel
theorem dX4_lineUp_32 : decode cX4_lineUp 32 = .ok (.iastore, 1) := by decide +kernel
theorem dX4_lineUp_33 : decode cX4_lineUp 33 = .ok (.aload_n 0, 1) := by decide +kernel
theorem dX4_lineUp_34 : decode cX4_lineUp 34 = .ok (.getfield 51, 3) := by decide +kernel
theorem dX4_lineUp_37 : decode cX4_lineUp 37 = .ok (.iload_n 1, 1) := by decide +kernel
theorem dX4_lineUp_38 : decode cX4_lineUp 38 = .ok (.iload_n 2, 1) := by decide +kernel
theorem dX4_lineUp_39 : decode cX4_lineUp 39 = .ok (.iastore, 1) := by decide +kernel
theorem dX4_lineUp_40 : decode cX4_lineUp 40 = .ok (.iinc 1 1, 3) := by decide +kernel
theorem dX4_lineUp_43 : decode cX4_lineUp 43 = .ok (.iinc 2 1, 3) := by decide +kernel
theorem dX4_lineUp_46 : decode cX4_lineUp 46 = .ok (.goto (-42), 3) := by decide +kernel
theorem dX4_lineUp_49 : decode cX4_lineUp 49 = .ok (.iload_n 1, 1) := by decide +kernel
theorem dX4_lineUp_50 : decode cX4_lineUp 50 = .ok (.ireturn, 1) := by decide +kernel
theorem dX4_takeQueue_0 : decode cX4_takeQueue 0 = .ok (.aload_n 0, 1) := by decide +kernel
theorem dX4_takeQueue_1 : decode cX4_takeQueue 1 = .ok (.getfield 16, 3) := by decide +kernel
theorem dX4_takeQueue_4 : decode cX4_takeQueue 4 = .ok (.aload_n 0, 1) := by decide +kernel
theorem dX4_takeQueue_5 : decode cX4_takeQueue 5 = .ok (.getfield 12, 3) := by decide +kernel
theorem dX4_takeQueue_8 : decode cX4_takeQueue 8 = .ok (.invokevirtual 79, 3) := by decide +kernel
theorem dX4_takeQueue_11 : decode cX4_takeQueue 11 = .ok (.iconst 0, 1) := by decide +kernel
theorem dX4_takeQueue_12 : decode cX4_takeQueue 12 = .ok (.istore_n 2, 1) := by decide +kernel
theorem dX4_takeQueue_13 : decode cX4_takeQueue 13 = .ok (.iload_n 2, 1) := by decide +kernel
theorem dX4_takeQueue_14 : decode cX4_takeQueue 14 = .ok (.iload_n 1, 1) := by decide +kernel
theorem dX4_takeQueue_15 : decode cX4_takeQueue 15 = .ok (.if_icmp .ge 32, 3) := by decide +kernel
theorem dX4_takeQueue_18 : decode cX4_takeQueue 18 = .ok (.aload_n 0, 1) := by decide +kernel
theorem dX4_takeQueue_19 : decode cX4_takeQueue 19 = .ok (.getfield 16, 3) := by decide +kernel
theorem dX4_takeQueue_22 : decode cX4_takeQueue 22 = .ok (.aload_n 0, 1) := by decide +kernel
theorem dX4_takeQueue_23 : decode cX4_takeQueue 23 = .ok (.getfield 54, 3) := by decide +kernel
theorem dX4_takeQueue_26 : decode cX4_takeQueue 26 = .ok (.iload_n 2, 1) := by decide +kernel
theorem dX4_takeQueue_27 : decode cX4_takeQueue 27 = .ok (.iaload, 1) := by decide +kernel
theorem dX4_takeQueue_28 : decode cX4_takeQueue 28 = .ok (.aload_n 0, 1) := by decide +kernel
theorem dX4_takeQueue_29 : decode cX4_takeQueue 29 = .ok (.getfield 12, 3) := by decide +kernel
theorem dX4_takeQueue_32 : decode cX4_takeQueue 32 = .ok (.aload_n 0, 1) := by decide +kernel
theorem dX4_takeQueue_33 : decode cX4_takeQueue 33 = .ok (.getfield 51, 3) := by decide +kernel
theorem dX4_takeQueue_36 : decode cX4_takeQueue 36 = .ok (.iload_n 2, 1) := by decide +kernel
theorem dX4_takeQueue_37 : decode cX4_takeQueue 37 = .ok (.iaload, 1) := by decide +kernel
theorem dX4_takeQueue_38 : decode cX4_takeQueue 38 = .ok (.invokevirtual 255, 3) := by decide +kernel
theorem dX4_takeQueue_41 : decode cX4_takeQueue 41 = .ok (.iinc 2 1, 3) := by decide +kernel
theorem dX4_takeQueue_44 : decode cX4_takeQueue 44 = .ok (.goto (-31), 3) := by decide +kernel
theorem dX4_takeQueue_47 : decode cX4_takeQueue 47 = .ok (.return_, 1) := by decide +kernel
theorem dX4_queueDigits_0 : decode cX4_queueDigits 0 = .ok (.iload_n 1, 1) := by decide +kernel
theorem dX4_queueDigits_1 : decode cX4_queueDigits 1 = .ok (.ifCond .ne 6, 3) := by decide +kernel
theorem dX4_queueDigits_4 : decode cX4_queueDigits 4 = .ok (.bipush (-9), 2) := by decide +kernel
theorem dX4_queueDigits_6 : decode cX4_queueDigits 6 = .ok (.ireturn, 1) := by decide +kernel
theorem dX4_queueDigits_7 : decode cX4_queueDigits 7 = .ok (.iconst 0, 1) := by decide +kernel
theorem dX4_queueDigits_8 : decode cX4_queueDigits 8 = .ok (.istore_n 2, 1) := by decide +kernel
theorem dX4_queueDigits_9 : decode cX4_queueDigits 9 = .ok (.iconst 0, 1) := by decide +kernel
theorem dX4_queueDigits_10 : decode cX4_queueDigits 10 = .ok (.istore_n 3, 1) := by decide +kernel
theorem dX4_queueDigits_11 : decode cX4_queueDigits 11 = .ok (.iload_n 3, 1) := by decide +kernel
theorem dX4_queueDigits_12 : decode cX4_queueDigits 12 = .ok (.iload_n 1, 1) := by decide +kernel
theorem dX4_queueDigits_13 : decode cX4_queueDigits 13 = .ok (.if_icmp .ge 21, 3) := by decide +kernel
theorem dX4_queueDigits_16 : decode cX4_queueDigits 16 = .ok (.bipush 10, 2) := by decide +kernel
theorem dX4_queueDigits_18 : decode cX4_queueDigits 18 = .ok (.iload_n 2, 1) := by decide +kernel
theorem dX4_queueDigits_19 : decode cX4_queueDigits 19 = .ok (.imul, 1) := by decide +kernel
theorem dX4_queueDigits_20 : decode cX4_queueDigits 20 = .ok (.aload_n 0, 1) := by decide +kernel
theorem dX4_queueDigits_21 : decode cX4_queueDigits 21 = .ok (.getfield 51, 3) := by decide +kernel
theorem dX4_queueDigits_24 : decode cX4_queueDigits 24 = .ok (.iload_n 3, 1) := by decide +kernel
theorem dX4_queueDigits_25 : decode cX4_queueDigits 25 = .ok (.iaload, 1) := by decide +kernel
theorem dX4_queueDigits_26 : decode cX4_queueDigits 26 = .ok (.iadd, 1) := by decide +kernel
theorem dX4_queueDigits_27 : decode cX4_queueDigits 27 = .ok (.istore_n 2, 1) := by decide +kernel
theorem dX4_queueDigits_28 : decode cX4_queueDigits 28 = .ok (.iinc 3 1, 3) := by decide +kernel
theorem dX4_queueDigits_31 : decode cX4_queueDigits 31 = .ok (.goto (-20), 3) := by decide +kernel
theorem dX4_queueDigits_34 : decode cX4_queueDigits 34 = .ok (.iload_n 2, 1) := by decide +kernel
theorem dX4_queueDigits_35 : decode cX4_queueDigits 35 = .ok (.ireturn, 1) := by decide +kernel
theorem dX4_nextQueue_0 : decode cX4_nextQueue 0 = .ok (.iload_n 1, 1) := by decide +kernel
theorem dX4_nextQueue_1 : decode cX4_nextQueue 1 = .ok (.iconst 2, 1) := by decide +kernel
theorem dX4_nextQueue_2 : decode cX4_nextQueue 2 = .ok (.isub, 1) := by decide +kernel
theorem dX4_nextQueue_3 : decode cX4_nextQueue 3 = .ok (.istore_n 2, 1) := by decide +kernel
theorem dX4_nextQueue_4 : decode cX4_nextQueue 4 = .ok (.iload_n 2, 1) := by decide +kernel
theorem dX4_nextQueue_5 : decode cX4_nextQueue 5 = .ok (.ifCond .lt 26, 3) := by decide +kernel
theorem dX4_nextQueue_8 : decode cX4_nextQueue 8 = .ok (.aload_n 0, 1) := by decide +kernel
theorem dX4_nextQueue_9 : decode cX4_nextQueue 9 = .ok (.getfield 51, 3) := by decide +kernel
theorem dX4_nextQueue_12 : decode cX4_nextQueue 12 = .ok (.iload_n 2, 1) := by decide +kernel
theorem dX4_nextQueue_13 : decode cX4_nextQueue 13 = .ok (.iaload, 1) := by decide +kernel
theorem dX4_nextQueue_14 : decode cX4_nextQueue 14 = .ok (.aload_n 0, 1) := by decide +kernel
theorem dX4_nextQueue_15 : decode cX4_nextQueue 15 = .ok (.getfield 51, 3) := by decide +kernel
theorem dX4_nextQueue_18 : decode cX4_nextQueue 18 = .ok (.iload_n 2, 1) := by decide +kernel
theorem dX4_nextQueue_19 : decode cX4_nextQueue 19 = .ok (.iconst 1, 1) := by decide +kernel
theorem dX4_nextQueue_20 : decode cX4_nextQueue 20 = .ok (.iadd, 1) := by decide +kernel
theorem dX4_nextQueue_21 : decode cX4_nextQueue 21 = .ok (.iaload, 1) := by decide +kernel
theorem dX4_nextQueue_22 : decode cX4_nextQueue 22 = .ok (.if_icmp .le 9, 3) := by decide +kernel
theorem dX4_nextQueue_25 : decode cX4_nextQueue 25 = .ok (.iinc 2 (-1), 3) := by decide +kernel
theorem dX4_nextQueue_28 : decode cX4_nextQueue 28 = .ok (.goto (-24), 3) := by decide +kernel
theorem dX4_nextQueue_31 : decode cX4_nextQueue 31 = .ok (.iload_n 2, 1) := by decide +kernel
theorem dX4_nextQueue_32 : decode cX4_nextQueue 32 = .ok (.ifCond .ge 5, 3) := by decide +kernel
theorem dX4_nextQueue_35 : decode cX4_nextQueue 35 = .ok (.iconst 0, 1) := by decide +kernel
theorem dX4_nextQueue_36 : decode cX4_nextQueue 36 = .ok (.ireturn, 1) := by decide +kernel
theorem dX4_nextQueue_37 : decode cX4_nextQueue 37 = .ok (.iload_n 1, 1) := by decide +kernel
theorem dX4_nextQueue_38 : decode cX4_nextQueue 38 = .ok (.iconst 1, 1) := by decide +kernel
theorem dX4_nextQueue_39 : decode cX4_nextQueue 39 = .ok (.isub, 1) := by decide +kernel
theorem dX4_nextQueue_40 : decode cX4_nextQueue 40 = .ok (.istore_n 3, 1) := by decide +kernel
theorem dX4_nextQueue_41 : decode cX4_nextQueue 41 = .ok (.iload_n 3, 1) := by decide +kernel
theorem dX4_nextQueue_42 : decode cX4_nextQueue 42 = .ok (.iload_n 2, 1) := by decide +kernel
theorem dX4_nextQueue_43 : decode cX4_nextQueue 43 = .ok (.if_icmp .le 24, 3) := by decide +kernel
theorem dX4_nextQueue_46 : decode cX4_nextQueue 46 = .ok (.aload_n 0, 1) := by decide +kernel
theorem dX4_nextQueue_47 : decode cX4_nextQueue 47 = .ok (.getfield 51, 3) := by decide +kernel
theorem dX4_nextQueue_50 : decode cX4_nextQueue 50 = .ok (.iload_n 3, 1) := by decide +kernel
theorem dX4_nextQueue_51 : decode cX4_nextQueue 51 = .ok (.iaload, 1) := by decide +kernel
theorem dX4_nextQueue_52 : decode cX4_nextQueue 52 = .ok (.aload_n 0, 1) := by decide +kernel
theorem dX4_nextQueue_53 : decode cX4_nextQueue 53 = .ok (.getfield 51, 3) := by decide +kernel
theorem dX4_nextQueue_56 : decode cX4_nextQueue 56 = .ok (.iload_n 2, 1) := by decide +kernel
theorem dX4_nextQueue_57 : decode cX4_nextQueue 57 = .ok (.iaload, 1) := by decide +kernel
theorem dX4_nextQueue_58 : decode cX4_nextQueue 58 = .ok (.if_icmp .ge 9, 3) := by decide +kernel
theorem dX4_nextQueue_61 : decode cX4_nextQueue 61 = .ok (.iinc 3 (-1), 3) := by decide +kernel
theorem dX4_nextQueue_64 : decode cX4_nextQueue 64 = .ok (.goto (-23), 3) := by decide +kernel
theorem dX4_nextQueue_67 : decode cX4_nextQueue 67 = .ok (.aload_n 0, 1) := by decide +kernel
theorem dX4_nextQueue_68 : decode cX4_nextQueue 68 = .ok (.iload_n 2, 1) := by decide +kernel
theorem dX4_nextQueue_69 : decode cX4_nextQueue 69 = .ok (.iload_n 3, 1) := by decide +kernel
theorem dX4_nextQueue_70 : decode cX4_nextQueue 70 = .ok (.invokevirtual 259, 3) := by decide +kernel
theorem dX4_nextQueue_73 : decode cX4_nextQueue 73 = .ok (.iload_n 2, 1) := by decide +kernel
theorem dX4_nextQueue_74 : decode cX4_nextQueue 74 = .ok (.iconst 1, 1) := by decide +kernel
theorem dX4_nextQueue_75 : decode cX4_nextQueue 75 = .ok (.iadd, 1) := by decide +kernel
theorem dX4_nextQueue_76 : decode cX4_nextQueue 76 = .ok (.istore 4, 2) := by decide +kernel
theorem dX4_nextQueue_78 : decode cX4_nextQueue 78 = .ok (.iload_n 1, 1) := by decide +kernel
theorem dX4_nextQueue_79 : decode cX4_nextQueue 79 = .ok (.iconst 1, 1) := by decide +kernel
theorem dX4_nextQueue_80 : decode cX4_nextQueue 80 = .ok (.isub, 1) := by decide +kernel
theorem dX4_nextQueue_81 : decode cX4_nextQueue 81 = .ok (.istore 5, 2) := by decide +kernel
theorem dX4_nextQueue_83 : decode cX4_nextQueue 83 = .ok (.iload 4, 2) := by decide +kernel
theorem dX4_nextQueue_85 : decode cX4_nextQueue 85 = .ok (.iload 5, 2) := by decide +kernel
theorem dX4_nextQueue_87 : decode cX4_nextQueue 87 = .ok (.if_icmp .ge 20, 3) := by decide +kernel
theorem dX4_nextQueue_90 : decode cX4_nextQueue 90 = .ok (.aload_n 0, 1) := by decide +kernel
theorem dX4_nextQueue_91 : decode cX4_nextQueue 91 = .ok (.iload 4, 2) := by decide +kernel
theorem dX4_nextQueue_93 : decode cX4_nextQueue 93 = .ok (.iload 5, 2) := by decide +kernel
theorem dX4_nextQueue_95 : decode cX4_nextQueue 95 = .ok (.invokevirtual 259, 3) := by decide +kernel
theorem dX4_nextQueue_98 : decode cX4_nextQueue 98 = .ok (.iinc 4 1, 3) := by decide +kernel
theorem dX4_nextQueue_101 : decode cX4_nextQueue 101 = .ok (.iinc 5 (-1), 3) := by decide +kernel
theorem dX4_nextQueue_104 : decode cX4_nextQueue 104 = .ok (.goto (-21), 3) := by decide +kernel
theorem dX4_nextQueue_107 : decode cX4_nextQueue 107 = .ok (.iconst 1, 1) := by decide +kernel
theorem dX4_nextQueue_108 : decode cX4_nextQueue 108 = .ok (.ireturn, 1) := by decide +kernel
theorem dX4_swapQueue_0 : decode cX4_swapQueue 0 = .ok (.aload_n 0, 1) := by decide +kernel
theorem dX4_swapQueue_1 : decode cX4_swapQueue 1 = .ok (.getfield 51, 3) := by decide +kernel
theorem dX4_swapQueue_4 : decode cX4_swapQueue 4 = .ok (.iload_n 1, 1) := by decide +kernel
theorem dX4_swapQueue_5 : decode cX4_swapQueue 5 = .ok (.iaload, 1) := by decide +kernel
theorem dX4_swapQueue_6 : decode cX4_swapQueue 6 = .ok (.istore_n 3, 1) := by decide +kernel
theorem dX4_swapQueue_7 : decode cX4_swapQueue 7 = .ok (.aload_n 0, 1) := by decide +kernel
theorem dX4_swapQueue_8 : decode cX4_swapQueue 8 = .ok (.getfield 51, 3) := by decide +kernel
theorem dX4_swapQueue_11 : decode cX4_swapQueue 11 = .ok (.iload_n 1, 1) := by decide +kernel
theorem dX4_swapQueue_12 : decode cX4_swapQueue 12 = .ok (.aload_n 0, 1) := by decide +kernel
theorem dX4_swapQueue_13 : decode cX4_swapQueue 13 = .ok (.getfield 51, 3) := by decide +kernel
theorem dX4_swapQueue_16 : decode cX4_swapQueue 16 = .ok (.iload_n 2, 1) := by decide +kernel
theorem dX4_swapQueue_17 : decode cX4_swapQueue 17 = .ok (.iaload, 1) := by decide +kernel
theorem dX4_swapQueue_18 : decode cX4_swapQueue 18 = .ok (.iastore, 1) := by decide +kernel
theorem dX4_swapQueue_19 : decode cX4_swapQueue 19 = .ok (.aload_n 0, 1) := by decide +kernel
theorem dX4_swapQueue_20 : decode cX4_swapQueue 20 = .ok (.getfield 51, 3) := by decide +kernel
theorem dX4_swapQueue_23 : decode cX4_swapQueue 23 = .ok (.iload_n 2, 1) := by decide +kernel
theorem dX4_swapQueue_24 : decode cX4_swapQueue 24 = .ok (.iload_n 3, 1) := by decide +kernel
theorem dX4_swapQueue_25 : decode cX4_swapQueue 25 = .ok (.iastore, 1) := by decide +kernel
theorem dX4_swapQueue_26 : decode cX4_swapQueue 26 = .ok (.return_, 1) := by decide +kernel
theorem dX4_timetable_0 : decode cX4_timetable 0 = .ok (.aload_n 0, 1) := by decide +kernel
theorem dX4_timetable_1 : decode cX4_timetable 1 = .ok (.iload_n 1, 1) := by decide +kernel
theorem dX4_timetable_2 : decode cX4_timetable 2 = .ok (.invokevirtual 162, 3) := by decide +kernel
theorem dX4_timetable_5 : decode cX4_timetable 5 = .ok (.ifCond .ne 16, 3) := by decide +kernel
theorem dX4_timetable_8 : decode cX4_timetable 8 = .ok (.aload_n 0, 1) := by decide +kernel
theorem dX4_timetable_9 : decode cX4_timetable 9 = .ok (.iload_n 2, 1) := by decide +kernel
theorem dX4_timetable_10 : decode cX4_timetable 10 = .ok (.invokevirtual 162, 3) := by decide +kernel
theorem dX4_timetable_13 : decode cX4_timetable 13 = .ok (.ifCond .ne 8, 3) := by decide +kernel
theorem dX4_timetable_16 : decode cX4_timetable 16 = .ok (.iload_n 1, 1) := by decide +kernel
theorem dX4_timetable_17 : decode cX4_timetable 17 = .ok (.iload_n 2, 1) := by decide +kernel
theorem dX4_timetable_18 : decode cX4_timetable 18 = .ok (.if_icmp .ne 9, 3) := by decide +kernel
theorem dX4_timetable_21 : decode cX4_timetable 21 = .ok (.aload_n 0, 1) := by decide +kernel
theorem dX4_timetable_22 : decode cX4_timetable 22 = .ok (.iconst (-1), 1) := by decide +kernel
theorem dX4_timetable_23 : decode cX4_timetable 23 = .ok (.invokevirtual 61, 3) := by decide +kernel
theorem dX4_timetable_26 : decode cX4_timetable 26 = .ok (.ireturn, 1) := by decide +kernel
theorem dX4_timetable_27 : decode cX4_timetable 27 = .ok (.aload_n 0, 1) := by decide +kernel
theorem dX4_timetable_28 : decode cX4_timetable 28 = .ok (.getfield 12, 3) := by decide +kernel
theorem dX4_timetable_31 : decode cX4_timetable 31 = .ok (.iload_n 1, 1) := by decide +kernel
theorem dX4_timetable_32 : decode cX4_timetable 32 = .ok (.invokevirtual 252, 3) := by decide +kernel
theorem dX4_timetable_35 : decode cX4_timetable 35 = .ok (.ifCond .eq 14, 3) := by decide +kernel
theorem dX4_timetable_38 : decode cX4_timetable 38 = .ok (.aload_n 0, 1) := by decide +kernel
theorem dX4_timetable_39 : decode cX4_timetable 39 = .ok (.getfield 12, 3) := by decide +kernel
theorem dX4_timetable_42 : decode cX4_timetable 42 = .ok (.iload_n 2, 1) := by decide +kernel
theorem dX4_timetable_43 : decode cX4_timetable 43 = .ok (.invokevirtual 252, 3) := by decide +kernel
theorem dX4_timetable_46 : decode cX4_timetable 46 = .ok (.ifCond .ne 10, 3) := by decide +kernel
theorem dX4_timetable_49 : decode cX4_timetable 49 = .ok (.aload_n 0, 1) := by decide +kernel
theorem dX4_timetable_50 : decode cX4_timetable 50 = .ok (.bipush (-3), 2) := by decide +kernel
theorem dX4_timetable_52 : decode cX4_timetable 52 = .ok (.invokevirtual 61, 3) := by decide +kernel
theorem dX4_timetable_55 : decode cX4_timetable 55 = .ok (.ireturn, 1) := by decide +kernel
theorem dX4_timetable_56 : decode cX4_timetable 56 = .ok (.bipush (-9), 2) := by decide +kernel
theorem dX4_timetable_58 : decode cX4_timetable 58 = .ok (.istore_n 3, 1) := by decide +kernel
theorem dX4_timetable_59 : decode cX4_timetable 59 = .ok (.bipush (-9), 2) := by decide +kernel
theorem dX4_timetable_61 : decode cX4_timetable 61 = .ok (.istore 4, 2) := by decide +kernel
theorem dX4_timetable_63 : decode cX4_timetable 63 = .ok (.iconst 0, 1) := by decide +kernel
theorem dX4_timetable_64 : decode cX4_timetable 64 = .ok (.istore 5, 2) := by decide +kernel
theorem dX4_timetable_66 : decode cX4_timetable 66 = .ok (.iload 5, 2) := by decide +kernel
theorem dX4_timetable_68 : decode cX4_timetable 68 = .ok (.bipush 24, 2) := by decide +kernel
theorem dX4_timetable_70 : decode cX4_timetable 70 = .ok (.if_icmp .gt 82, 3) := by decide +kernel
theorem dX4_timetable_73 : decode cX4_timetable 73 = .ok (.iconst 0, 1) := by decide +kernel
theorem dX4_timetable_74 : decode cX4_timetable 74 = .ok (.istore 6, 2) := by decide +kernel
theorem dX4_timetable_76 : decode cX4_timetable 76 = .ok (.iload 6, 2) := by decide +kernel
theorem dX4_timetable_78 : decode cX4_timetable 78 = .ok (.bipush 24, 2) := by decide +kernel
theorem dX4_timetable_80 : decode cX4_timetable 80 = .ok (.if_icmp .gt 66, 3) := by decide +kernel
theorem dX4_timetable_83 : decode cX4_timetable 83 = .ok (.iload 5, 2) := by decide +kernel
theorem dX4_timetable_85 : decode cX4_timetable 85 = .ok (.iload 6, 2) := by decide +kernel
theorem dX4_timetable_87 : decode cX4_timetable 87 = .ok (.if_icmp .ne 8, 3) := by decide +kernel
theorem dX4_timetable_90 : decode cX4_timetable 90 = .ok (.bipush (-9), 2) := by decide +kernel
theorem dX4_timetable_92 : decode cX4_timetable 92 = .ok (.goto 13, 3) := by decide +kernel
theorem dX4_timetable_95 : decode cX4_timetable 95 = .ok (.aload_n 0, 1) := by decide +kernel
theorem dX4_timetable_96 : decode cX4_timetable 96 = .ok (.iload_n 1, 1) := by decide +kernel
theorem dX4_timetable_97 : decode cX4_timetable 97 = .ok (.iload 5, 2) := by decide +kernel
theorem dX4_timetable_99 : decode cX4_timetable 99 = .ok (.iload_n 2, 1) := by decide +kernel
theorem dX4_timetable_100 : decode cX4_timetable 100 = .ok (.iload 6, 2) := by decide +kernel
theorem dX4_timetable_102 : decode cX4_timetable 102 = .ok (.invokevirtual 263, 3) := by decide +kernel
theorem dX4_timetable_105 : decode cX4_timetable 105 = .ok (.istore 7, 2) := by decide +kernel
theorem dX4_timetable_107 : decode cX4_timetable 107 = .ok (.iload 7, 2) := by decide +kernel
theorem dX4_timetable_109 : decode cX4_timetable 109 = .ok (.bipush (-9), 2) := by decide +kernel
theorem dX4_timetable_111 : decode cX4_timetable 111 = .ok (.if_icmp .eq 29, 3) := by decide +kernel
theorem dX4_timetable_114 : decode cX4_timetable 114 = .ok (.iload_n 3, 1) := by decide +kernel
theorem dX4_timetable_115 : decode cX4_timetable 115 = .ok (.bipush (-9), 2) := by decide +kernel
theorem dX4_timetable_117 : decode cX4_timetable 117 = .ok (.if_icmp .eq 10, 3) := by decide +kernel
theorem dX4_timetable_120 : decode cX4_timetable 120 = .ok (.iload 7, 2) := by decide +kernel
theorem dX4_timetable_122 : decode cX4_timetable 122 = .ok (.iload 4, 2) := by decide +kernel
theorem dX4_timetable_124 : decode cX4_timetable 124 = .ok (.if_icmp .ge 16, 3) := by decide +kernel
theorem dX4_timetable_127 : decode cX4_timetable 127 = .ok (.bipush 100, 2) := by decide +kernel
theorem dX4_timetable_129 : decode cX4_timetable 129 = .ok (.iload 5, 2) := by decide +kernel
theorem dX4_timetable_131 : decode cX4_timetable 131 = .ok (.imul, 1) := by decide +kernel
theorem dX4_timetable_132 : decode cX4_timetable 132 = .ok (.iload 6, 2) := by decide +kernel
theorem dX4_timetable_134 : decode cX4_timetable 134 = .ok (.iadd, 1) := by decide +kernel
theorem dX4_timetable_135 : decode cX4_timetable 135 = .ok (.istore_n 3, 1) := by decide +kernel
theorem dX4_timetable_136 : decode cX4_timetable 136 = .ok (.iload 7, 2) := by decide +kernel
theorem dX4_timetable_138 : decode cX4_timetable 138 = .ok (.istore 4, 2) := by decide +kernel
theorem dX4_timetable_140 : decode cX4_timetable 140 = .ok (.iinc 6 6, 3) := by decide +kernel
theorem dX4_timetable_143 : decode cX4_timetable 143 = .ok (.goto (-67), 3) := by decide +kernel
theorem dX4_timetable_146 : decode cX4_timetable 146 = .ok (.iinc 5 6, 3) := by decide +kernel
theorem dX4_timetable_149 : decode cX4_timetable 149 = .ok (.goto (-83), 3) := by decide +kernel
theorem dX4_timetable_152 : decode cX4_timetable 152 = .ok (.iload_n 3, 1) := by decide +kernel
theorem dX4_timetable_153 : decode cX4_timetable 153 = .ok (.ireturn, 1) := by decide +kernel
theorem dX4_laterOf_0 : decode cX4_laterOf 0 = .ok (.aload_n 0, 1) := by decide +kernel
theorem dX4_laterOf_1 : decode cX4_laterOf 1 = .ok (.getfield 16, 3) := by decide +kernel
theorem dX4_laterOf_4 : decode cX4_laterOf 4 = .ok (.aload_n 0, 1) := by decide +kernel
theorem dX4_laterOf_5 : decode cX4_laterOf 5 = .ok (.getfield 12, 3) := by decide +kernel
theorem dX4_laterOf_8 : decode cX4_laterOf 8 = .ok (.invokevirtual 79, 3) := by decide +kernel
theorem dX4_laterOf_11 : decode cX4_laterOf 11 = .ok (.aload_n 0, 1) := by decide +kernel
theorem dX4_laterOf_12 : decode cX4_laterOf 12 = .ok (.getfield 16, 3) := by decide +kernel
theorem dX4_laterOf_15 : decode cX4_laterOf 15 = .ok (.getfield 177, 3) := by decide +kernel
theorem dX4_laterOf_18 : decode cX4_laterOf 18 = .ok (.iload_n 1, 1) := by decide +kernel
theorem dX4_laterOf_19 : decode cX4_laterOf 19 = .ok (.iload_n 2, 1) := by decide +kernel
theorem dX4_laterOf_20 : decode cX4_laterOf 20 = .ok (.iastore, 1) := by decide +kernel
theorem dX4_laterOf_21 : decode cX4_laterOf 21 = .ok (.aload_n 0, 1) := by decide +kernel
theorem dX4_laterOf_22 : decode cX4_laterOf 22 = .ok (.getfield 16, 3) := by decide +kernel
theorem dX4_laterOf_25 : decode cX4_laterOf 25 = .ok (.getfield 177, 3) := by decide +kernel
theorem dX4_laterOf_28 : decode cX4_laterOf 28 = .ok (.iload_n 3, 1) := by decide +kernel
theorem dX4_laterOf_29 : decode cX4_laterOf 29 = .ok (.iload 4, 2) := by decide +kernel
theorem dX4_laterOf_31 : decode cX4_laterOf 31 = .ok (.iastore, 1) := by decide +kernel
theorem dX4_laterOf_32 : decode cX4_laterOf 32 = .ok (.aload_n 0, 1) := by decide +kernel
theorem dX4_laterOf_33 : decode cX4_laterOf 33 = .ok (.iload_n 1, 1) := by decide +kernel
theorem dX4_laterOf_34 : decode cX4_laterOf 34 = .ok (.invokevirtual 211, 3) := by decide +kernel
theorem dX4_laterOf_37 : decode cX4_laterOf 37 = .ok (.ifCond .ne 6, 3) := by decide +kernel
theorem dX4_laterOf_40 : decode cX4_laterOf 40 = .ok (.bipush (-9), 2) := by decide +kernel
theorem dX4_laterOf_42 : decode cX4_laterOf 42 = .ok (.ireturn, 1) := by decide +kernel
theorem dX4_laterOf_43 : decode cX4_laterOf 43 = .ok (.aload_n 0, 1) := by decide +kernel
theorem dX4_laterOf_44 : decode cX4_laterOf 44 = .ok (.getfield 16, 3) := by decide +kernel
theorem dX4_laterOf_47 : decode cX4_laterOf 47 = .ok (.iload_n 3, 1) := by decide +kernel
theorem dX4_laterOf_48 : decode cX4_laterOf 48 = .ok (.bipush 72, 2) := by decide +kernel
theorem dX4_laterOf_50 : decode cX4_laterOf 50 = .ok (.aload_n 0, 1) := by decide +kernel
theorem dX4_laterOf_51 : decode cX4_laterOf 51 = .ok (.getfield 16, 3) := by decide +kernel
theorem dX4_laterOf_54 : decode cX4_laterOf 54 = .ok (.getfield 267, 3) := by decide +kernel
theorem dX4_laterOf_57 : decode cX4_laterOf 57 = .ok (.isub, 1) := by decide +kernel
theorem dX4_laterOf_58 : decode cX4_laterOf 58 = .ok (.invokevirtual 270, 3) := by decide +kernel
theorem dX4_laterOf_61 : decode cX4_laterOf 61 = .ok (.aload_n 0, 1) := by decide +kernel
theorem dX4_laterOf_62 : decode cX4_laterOf 62 = .ok (.getfield 16, 3) := by decide +kernel
theorem dX4_laterOf_65 : decode cX4_laterOf 65 = .ok (.getfield 180, 3) := by decide +kernel
theorem dX4_laterOf_68 : decode cX4_laterOf 68 = .ok (.iload_n 3, 1) := by decide +kernel
theorem dX4_laterOf_69 : decode cX4_laterOf 69 = .ok (.iaload, 1) := by decide +kernel
theorem dX4_laterOf_70 : decode cX4_laterOf 70 = .ok (.iconst 1, 1) := by decide +kernel
theorem dX4_laterOf_71 : decode cX4_laterOf 71 = .ok (.if_icmp .eq 6, 3) := by decide +kernel
theorem dX4_laterOf_74 : decode cX4_laterOf 74 = .ok (.bipush (-9), 2) := by decide +kernel
theorem dX4_laterOf_76 : decode cX4_laterOf 76 = .ok (.ireturn, 1) := by decide +kernel
theorem dX4_laterOf_77 : decode cX4_laterOf 77 = .ok (.aload_n 0, 1) := by decide +kernel
theorem dX4_laterOf_78 : decode cX4_laterOf 78 = .ok (.getfield 16, 3) := by decide +kernel
theorem dX4_laterOf_81 : decode cX4_laterOf 81 = .ok (.getfield 193, 3) := by decide +kernel
theorem dX4_laterOf_84 : decode cX4_laterOf 84 = .ok (.iload_n 1, 1) := by decide +kernel
theorem dX4_laterOf_85 : decode cX4_laterOf 85 = .ok (.iaload, 1) := by decide +kernel
theorem dX4_laterOf_86 : decode cX4_laterOf 86 = .ok (.aload_n 0, 1) := by decide +kernel
theorem dX4_laterOf_87 : decode cX4_laterOf 87 = .ok (.getfield 16, 3) := by decide +kernel
theorem dX4_laterOf_90 : decode cX4_laterOf 90 = .ok (.getfield 193, 3) := by decide +kernel
theorem dX4_laterOf_93 : decode cX4_laterOf 93 = .ok (.iload_n 3, 1) := by decide +kernel
theorem dX4_laterOf_94 : decode cX4_laterOf 94 = .ok (.iaload, 1) := by decide +kernel
theorem dX4_laterOf_95 : decode cX4_laterOf 95 = .ok (.invokestatic 273, 3) := by decide +kernel
theorem dX4_laterOf_98 : decode cX4_laterOf 98 = .ok (.ireturn, 1) := by decide +kernel
theorem dX4_said_0 : decode cX4_said 0 = .ok (.iconst 0, 1) := by decide +kernel
theorem dX4_said_1 : decode cX4_said 1 = .ok (.istore_n 1, 1) := by decide +kernel
theorem dX4_said_2 : decode cX4_said 2 = .ok (.iconst 0, 1) := by decide +kernel
theorem dX4_said_3 : decode cX4_said 3 = .ok (.istore_n 2, 1) := by decide +kernel
theorem dX4_said_4 : decode cX4_said 4 = .ok (.iload_n 2, 1) := by decide +kernel
theorem dX4_said_5 : decode cX4_said 5 = .ok (.bipush 9, 2) := by decide +kernel
theorem dX4_said_7 : decode cX4_said 7 = .ok (.if_icmp .gt 23, 3) := by decide +kernel
theorem dX4_said_10 : decode cX4_said 10 = .ok (.aload_n 0, 1) := by decide +kernel
theorem dX4_said_11 : decode cX4_said 11 = .ok (.iload_n 2, 1) := by decide +kernel
theorem dX4_said_12 : decode cX4_said 12 = .ok (.invokevirtual 278, 3) := by decide +kernel
theorem dX4_said_15 : decode cX4_said 15 = .ok (.ifCond .eq 9, 3) := by decide +kernel
theorem dX4_said_18 : decode cX4_said 18 = .ok (.iload_n 1, 1) := by decide +kernel
theorem dX4_said_19 : decode cX4_said 19 = .ok (.iconst 1, 1) := by decide +kernel
theorem dX4_said_20 : decode cX4_said 20 = .ok (.iload_n 2, 1) := by decide +kernel
theorem dX4_said_21 : decode cX4_said 21 = .ok (.ishl, 1) := by decide +kernel
theorem dX4_said_22 : decode cX4_said 22 = .ok (.ior, 1) := by decide +kernel
theorem dX4_said_23 : decode cX4_said 23 = .ok (.istore_n 1, 1) := by decide +kernel
theorem dX4_said_24 : decode cX4_said 24 = .ok (.iinc 2 1, 3) := by decide +kernel
theorem dX4_said_27 : decode cX4_said 27 = .ok (.goto (-23), 3) := by decide +kernel
theorem dX4_said_30 : decode cX4_said 30 = .ok (.iload_n 1, 1) := by decide +kernel
theorem dX4_said_31 : decode cX4_said 31 = .ok (.ireturn, 1) := by decide +kernel
theorem dX4_canBeSaid_0 : decode cX4_canBeSaid 0 = .ok (.iconst 0, 1) := by decide +kernel
theorem dX4_canBeSaid_1 : decode cX4_canBeSaid 1 = .ok (.istore_n 2, 1) := by decide +kernel
theorem dX4_canBeSaid_2 : decode cX4_canBeSaid 2 = .ok (.iload_n 2, 1) := by decide +kernel
theorem dX4_canBeSaid_3 : decode cX4_canBeSaid 3 = .ok (.aload_n 0, 1) := by decide +kernel
theorem dX4_canBeSaid_4 : decode cX4_canBeSaid 4 = .ok (.getfield 44, 3) := by decide +kernel
theorem dX4_canBeSaid_7 : decode cX4_canBeSaid 7 = .ok (.if_icmp .ge 32, 3) := by decide +kernel
theorem dX4_canBeSaid_10 : decode cX4_canBeSaid 10 = .ok (.aload_n 0, 1) := by decide +kernel
theorem dX4_canBeSaid_11 : decode cX4_canBeSaid 11 = .ok (.getfield 40, 3) := by decide +kernel
theorem dX4_canBeSaid_14 : decode cX4_canBeSaid 14 = .ok (.iload_n 2, 1) := by decide +kernel
theorem dX4_canBeSaid_15 : decode cX4_canBeSaid 15 = .ok (.iaload, 1) := by decide +kernel
theorem dX4_canBeSaid_16 : decode cX4_canBeSaid 16 = .ok (.bipush 99, 2) := by decide +kernel
theorem dX4_canBeSaid_18 : decode cX4_canBeSaid 18 = .ok (.if_icmp .eq 15, 3) := by decide +kernel
theorem dX4_canBeSaid_21 : decode cX4_canBeSaid 21 = .ok (.aload_n 0, 1) := by decide +kernel
theorem dX4_canBeSaid_22 : decode cX4_canBeSaid 22 = .ok (.getfield 40, 3) := by decide +kernel
theorem dX4_canBeSaid_25 : decode cX4_canBeSaid 25 = .ok (.iload_n 2, 1) := by decide +kernel
theorem dX4_canBeSaid_26 : decode cX4_canBeSaid 26 = .ok (.iaload, 1) := by decide +kernel
theorem dX4_canBeSaid_27 : decode cX4_canBeSaid 27 = .ok (.iload_n 1, 1) := by decide +kernel
theorem dX4_canBeSaid_28 : decode cX4_canBeSaid 28 = .ok (.if_icmp .eq 5, 3) := by decide +kernel
theorem dX4_canBeSaid_31 : decode cX4_canBeSaid 31 = .ok (.iconst 0, 1) := by decide +kernel
theorem dX4_canBeSaid_32 : decode cX4_canBeSaid 32 = .ok (.ireturn, 1) := by decide +kernel
theorem dX4_canBeSaid_33 : decode cX4_canBeSaid 33 = .ok (.iinc 2 1, 3) := by decide +kernel
theorem dX4_canBeSaid_36 : decode cX4_canBeSaid 36 = .ok (.goto (-34), 3) := by decide +kernel
theorem dX4_canBeSaid_39 : decode cX4_canBeSaid 39 = .ok (.iconst 1, 1) := by decide +kernel
theorem dX4_canBeSaid_40 : decode cX4_canBeSaid 40 = .ok (.ireturn, 1) := by decide +kernel
theorem dX4_lies_0 : decode cX4_lies 0 = .ok (.bipush 99, 2) := by decide +kernel
theorem dX4_lies_2 : decode cX4_lies 2 = .ok (.istore_n 1, 1) := by decide +kernel
theorem dX4_lies_3 : decode cX4_lies 3 = .ok (.iconst 0, 1) := by decide +kernel
theorem dX4_lies_4 : decode cX4_lies 4 = .ok (.istore_n 2, 1) := by decide +kernel
theorem dX4_lies_5 : decode cX4_lies 5 = .ok (.iload_n 2, 1) := by decide +kernel
theorem dX4_lies_6 : decode cX4_lies 6 = .ok (.aload_n 0, 1) := by decide +kernel
theorem dX4_lies_7 : decode cX4_lies 7 = .ok (.getfield 44, 3) := by decide +kernel
theorem dX4_lies_10 : decode cX4_lies 10 = .ok (.if_icmp .ge 48, 3) := by decide +kernel
theorem dX4_lies_13 : decode cX4_lies 13 = .ok (.iload_n 1, 1) := by decide +kernel
theorem dX4_lies_14 : decode cX4_lies 14 = .ok (.bipush 99, 2) := by decide +kernel
theorem dX4_lies_16 : decode cX4_lies 16 = .ok (.if_icmp .ne 13, 3) := by decide +kernel
theorem dX4_lies_19 : decode cX4_lies 19 = .ok (.aload_n 0, 1) := by decide +kernel
theorem dX4_lies_20 : decode cX4_lies 20 = .ok (.getfield 40, 3) := by decide +kernel
theorem dX4_lies_23 : decode cX4_lies 23 = .ok (.iload_n 2, 1) := by decide +kernel
theorem dX4_lies_24 : decode cX4_lies 24 = .ok (.iaload, 1) := by decide +kernel
theorem dX4_lies_25 : decode cX4_lies 25 = .ok (.istore_n 1, 1) := by decide +kernel
theorem dX4_lies_26 : decode cX4_lies 26 = .ok (.goto 26, 3) := by decide +kernel
theorem dX4_lies_29 : decode cX4_lies 29 = .ok (.aload_n 0, 1) := by decide +kernel
theorem dX4_lies_30 : decode cX4_lies 30 = .ok (.getfield 40, 3) := by decide +kernel
theorem dX4_lies_33 : decode cX4_lies 33 = .ok (.iload_n 2, 1) := by decide +kernel
theorem dX4_lies_34 : decode cX4_lies 34 = .ok (.iaload, 1) := by decide +kernel
theorem dX4_lies_35 : decode cX4_lies 35 = .ok (.bipush 99, 2) := by decide +kernel
theorem dX4_lies_37 : decode cX4_lies 37 = .ok (.if_icmp .eq 15, 3) := by decide +kernel
theorem dX4_lies_40 : decode cX4_lies 40 = .ok (.aload_n 0, 1) := by decide +kernel
theorem dX4_lies_41 : decode cX4_lies 41 = .ok (.getfield 40, 3) := by decide +kernel
theorem dX4_lies_44 : decode cX4_lies 44 = .ok (.iload_n 2, 1) := by decide +kernel
theorem dX4_lies_45 : decode cX4_lies 45 = .ok (.iaload, 1) := by decide +kernel
theorem dX4_lies_46 : decode cX4_lies 46 = .ok (.iload_n 1, 1) := by decide +kernel
theorem dX4_lies_47 : decode cX4_lies 47 = .ok (.if_icmp .eq 5, 3) := by decide +kernel
theorem dX4_lies_50 : decode cX4_lies 50 = .ok (.iload_n 2, 1) := by decide +kernel
theorem dX4_lies_51 : decode cX4_lies 51 = .ok (.ireturn, 1) := by decide +kernel
theorem dX4_lies_52 : decode cX4_lies 52 = .ok (.iinc 2 1, 3) := by decide +kernel
theorem dX4_lies_55 : decode cX4_lies 55 = .ok (.goto (-50), 3) := by decide +kernel
theorem dX4_lies_58 : decode cX4_lies 58 = .ok (.bipush (-9), 2) := by decide +kernel
theorem dX4_lies_60 : decode cX4_lies 60 = .ok (.ireturn, 1) := by decide +kernel
theorem dX4_tells_0 : decode cX4_tells 0 = .ok (.iconst 0, 1) := by decide +kernel
theorem dX4_tells_1 : decode cX4_tells 1 = .ok (.istore_n 1, 1) := by decide +kernel
theorem dX4_tells_2 : decode cX4_tells 2 = .ok (.aload_n 0, 1) := by decide +kernel
theorem dX4_tells_3 : decode cX4_tells 3 = .ok (.getfield 12, 3) := by decide +kernel
theorem dX4_tells_6 : decode cX4_tells 6 = .ok (.iconst 0, 1) := by decide +kernel
theorem dX4_tells_7 : decode cX4_tells 7 = .ok (.invokevirtual 281, 3) := by decide +kernel
theorem dX4_tells_10 : decode cX4_tells 10 = .ok (.istore_n 2, 1) := by decide +kernel
theorem dX4_tells_11 : decode cX4_tells 11 = .ok (.iconst 1, 1) := by decide +kernel
theorem dX4_tells_12 : decode cX4_tells 12 = .ok (.istore_n 3, 1) := by decide +kernel
theorem dX4_tells_13 : decode cX4_tells 13 = .ok (.iload_n 3, 1) := by decide +kernel
theorem dX4_tells_14 : decode cX4_tells 14 = .ok (.aload_n 0, 1) := by decide +kernel
theorem dX4_tells_15 : decode cX4_tells 15 = .ok (.getfield 12, 3) := by decide +kernel
theorem dX4_tells_18 : decode cX4_tells 18 = .ok (.getfield 156, 3) := by decide +kernel
theorem dX4_tells_21 : decode cX4_tells 21 = .ok (.if_icmp .ge 30, 3) := by decide +kernel
theorem dX4_tells_24 : decode cX4_tells 24 = .ok (.aload_n 0, 1) := by decide +kernel
theorem dX4_tells_25 : decode cX4_tells 25 = .ok (.getfield 12, 3) := by decide +kernel
theorem dX4_tells_28 : decode cX4_tells 28 = .ok (.iload_n 3, 1) := by decide +kernel
theorem dX4_tells_29 : decode cX4_tells 29 = .ok (.invokevirtual 281, 3) := by decide +kernel
theorem dX4_tells_32 : decode cX4_tells 32 = .ok (.istore 4, 2) := by decide +kernel
theorem dX4_tells_34 : decode cX4_tells 34 = .ok (.iload 4, 2) := by decide +kernel
theorem dX4_tells_36 : decode cX4_tells 36 = .ok (.iload_n 2, 1) := by decide +kernel
theorem dX4_tells_37 : decode cX4_tells 37 = .ok (.if_icmp .ge 8, 3) := by decide +kernel
theorem dX4_tells_40 : decode cX4_tells 40 = .ok (.iload 4, 2) := by decide +kernel
theorem dX4_tells_42 : decode cX4_tells 42 = .ok (.istore_n 2, 1) := by decide +kernel
theorem dX4_tells_43 : decode cX4_tells 43 = .ok (.iload_n 3, 1) := by decide +kernel
theorem dX4_tells_44 : decode cX4_tells 44 = .ok (.istore_n 1, 1) := by decide +kernel
theorem dX4_tells_45 : decode cX4_tells 45 = .ok (.iinc 3 1, 3) := by decide +kernel
theorem dX4_tells_48 : decode cX4_tells 48 = .ok (.goto (-35), 3) := by decide +kernel
theorem dX4_tells_51 : decode cX4_tells 51 = .ok (.iload_n 1, 1) := by decide +kernel
theorem dX4_tells_52 : decode cX4_tells 52 = .ok (.ireturn, 1) := by decide +kernel
theorem dX4_near_0 : decode cX4_near 0 = .ok (.aload_n 0, 1) := by decide +kernel
theorem dX4_near_1 : decode cX4_near 1 = .ok (.iload_n 1, 1) := by decide +kernel
theorem dX4_near_2 : decode cX4_near 2 = .ok (.invokevirtual 127, 3) := by decide +kernel
theorem dX4_near_5 : decode cX4_near 5 = .ok (.ifCond .eq 9, 3) := by decide +kernel
theorem dX4_near_8 : decode cX4_near 8 = .ok (.aload_n 0, 1) := by decide +kernel
theorem dX4_near_9 : decode cX4_near 9 = .ok (.iconst (-1), 1) := by decide +kernel
theorem dX4_near_10 : decode cX4_near 10 = .ok (.invokevirtual 61, 3) := by decide +kernel
theorem dX4_near_13 : decode cX4_near 13 = .ok (.ireturn, 1) := by decide +kernel
theorem dX4_near_14 : decode cX4_near 14 = .ok (.aload_n 0, 1) := by decide +kernel
theorem dX4_near_15 : decode cX4_near 15 = .ok (.getfield 12, 3) := by decide +kernel
theorem dX4_near_18 : decode cX4_near 18 = .ok (.iload_n 1, 1) := by decide +kernel
theorem dX4_near_19 : decode cX4_near 19 = .ok (.invokevirtual 284, 3) := by decide +kernel
theorem dX4_near_22 : decode cX4_near 22 = .ok (.istore_n 2, 1) := by decide +kernel
theorem dX4_near_23 : decode cX4_near 23 = .ok (.iload_n 2, 1) := by decide +kernel
theorem dX4_near_24 : decode cX4_near 24 = .ok (.bipush (-9), 2) := by decide +kernel
theorem dX4_near_26 : decode cX4_near 26 = .ok (.if_icmp .ne 8, 3) := by decide +kernel
theorem dX4_near_29 : decode cX4_near 29 = .ok (.bipush (-9), 2) := by decide +kernel
theorem dX4_near_31 : decode cX4_near 31 = .ok (.goto 9, 3) := by decide +kernel
theorem dX4_near_34 : decode cX4_near 34 = .ok (.iload_n 2, 1) := by decide +kernel
theorem dX4_near_35 : decode cX4_near 35 = .ok (.iload_n 1, 1) := by decide +kernel
theorem dX4_near_36 : decode cX4_near 36 = .ok (.isub, 1) := by decide +kernel
theorem dX4_near_37 : decode cX4_near 37 = .ok (.invokestatic 287, 3) := by decide +kernel
theorem dX4_near_40 : decode cX4_near 40 = .ok (.ireturn, 1) := by decide +kernel
theorem dX4_rescue_0 : decode cX4_rescue 0 = .ok (.aload_n 0, 1) := by decide +kernel
theorem dX4_rescue_1 : decode cX4_rescue 1 = .ok (.iload_n 1, 1) := by decide +kernel
theorem dX4_rescue_2 : decode cX4_rescue 2 = .ok (.invokevirtual 162, 3) := by decide +kernel
theorem dX4_rescue_5 : decode cX4_rescue 5 = .ok (.ifCond .eq 9, 3) := by decide +kernel
theorem dX4_rescue_8 : decode cX4_rescue 8 = .ok (.aload_n 0, 1) := by decide +kernel
theorem dX4_rescue_9 : decode cX4_rescue 9 = .ok (.iconst (-1), 1) := by decide +kernel
theorem dX4_rescue_10 : decode cX4_rescue 10 = .ok (.invokevirtual 61, 3) := by decide +kernel
theorem dX4_rescue_13 : decode cX4_rescue 13 = .ok (.ireturn, 1) := by decide +kernel
theorem dX4_rescue_14 : decode cX4_rescue 14 = .ok (.aload_n 0, 1) := by decide +kernel
theorem dX4_rescue_15 : decode cX4_rescue 15 = .ok (.getfield 12, 3) := by decide +kernel
theorem dX4_rescue_18 : decode cX4_rescue 18 = .ok (.getfield 174, 3) := by decide +kernel
theorem dX4_rescue_21 : decode cX4_rescue 21 = .ok (.iload_n 1, 1) := by decide +kernel
theorem dX4_rescue_22 : decode cX4_rescue 22 = .ok (.iaload, 1) := by decide +kernel
theorem dX4_rescue_23 : decode cX4_rescue 23 = .ok (.iconst (-1), 1) := by decide +kernel
theorem dX4_rescue_24 : decode cX4_rescue 24 = .ok (.if_icmp .eq 16, 3) := by decide +kernel
theorem dX4_rescue_27 : decode cX4_rescue 27 = .ok (.aload_n 0, 1) := by decide +kernel
theorem dX4_rescue_28 : decode cX4_rescue 28 = .ok (.getfield 12, 3) := by decide +kernel
theorem dX4_rescue_31 : decode cX4_rescue 31 = .ok (.getfield 180, 3) := by decide +kernel
theorem dX4_rescue_34 : decode cX4_rescue 34 = .ok (.iload_n 1, 1) := by decide +kernel
theorem dX4_rescue_35 : decode cX4_rescue 35 = .ok (.iaload, 1) := by decide +kernel
theorem dX4_rescue_36 : decode cX4_rescue 36 = .ok (.iconst 1, 1) := by decide +kernel
theorem dX4_rescue_37 : decode cX4_rescue 37 = .ok (.if_icmp .ne 10, 3) := by decide +kernel
theorem dX4_rescue_40 : decode cX4_rescue 40 = .ok (.aload_n 0, 1) := by decide +kernel
theorem dX4_rescue_41 : decode cX4_rescue 41 = .ok (.bipush (-3), 2) := by decide +kernel
theorem dX4_rescue_43 : decode cX4_rescue 43 = .ok (.invokevirtual 61, 3) := by decide +kernel
theorem dX4_rescue_46 : decode cX4_rescue 46 = .ok (.ireturn, 1) := by decide +kernel
theorem dX4_rescue_47 : decode cX4_rescue 47 = .ok (.aload_n 0, 1) := by decide +kernel
theorem dX4_rescue_48 : decode cX4_rescue 48 = .ok (.getfield 12, 3) := by decide +kernel
theorem dX4_rescue_51 : decode cX4_rescue 51 = .ok (.aload_n 0, 1) := by decide +kernel
theorem dX4_rescue_52 : decode cX4_rescue 52 = .ok (.getfield 12, 3) := by decide +kernel
theorem dX4_rescue_55 : decode cX4_rescue 55 = .ok (.getfield 174, 3) := by decide +kernel
theorem dX4_rescue_58 : decode cX4_rescue 58 = .ok (.iload_n 1, 1) := by decide +kernel
theorem dX4_rescue_59 : decode cX4_rescue 59 = .ok (.iaload, 1) := by decide +kernel
theorem dX4_rescue_60 : decode cX4_rescue 60 = .ok (.invokevirtual 284, 3) := by decide +kernel
theorem dX4_rescue_63 : decode cX4_rescue 63 = .ok (.ireturn, 1) := by decide +kernel
theorem dX4_march_0 : decode cX4_march 0 = .ok (.iload_n 1, 1) := by decide +kernel
theorem dX4_march_1 : decode cX4_march 1 = .ok (.ifCond .lt 8, 3) := by decide +kernel
theorem dX4_march_4 : decode cX4_march 4 = .ok (.iload_n 1, 1) := by decide +kernel
theorem dX4_march_5 : decode cX4_march 5 = .ok (.iconst 2, 1) := by decide +kernel
theorem dX4_march_6 : decode cX4_march 6 = .ok (.if_icmp .le 10, 3) := by decide +kernel
theorem dX4_march_9 : decode cX4_march 9 = .ok (.aload_n 0, 1) := by decide +kernel
theorem dX4_march_10 : decode cX4_march 10 = .ok (.bipush (-2), 2) := by decide +kernel
theorem dX4_march_12 : decode cX4_march 12 = .ok (.invokevirtual 61, 3) := by decide +kernel
theorem dX4_march_15 : decode cX4_march 15 = .ok (.ireturn, 1) := by decide +kernel
theorem dX4_march_16 : decode cX4_march 16 = .ok (.iload_n 1, 1) := by decide +kernel
theorem dX4_march_17 : decode cX4_march 17 = .ok (.iconst 2, 1) := by decide +kernel
theorem dX4_march_18 : decode cX4_march 18 = .ok (.if_icmp .ne 8, 3) := by decide +kernel
theorem dX4_march_21 : decode cX4_march 21 = .ok (.aload_n 0, 1) := by decide +kernel
theorem dX4_march_22 : decode cX4_march 22 = .ok (.invokevirtual 290, 3) := by decide +kernel
theorem dX4_march_25 : decode cX4_march 25 = .ok (.ireturn, 1) := by decide +kernel
theorem dX4_march_26 : decode cX4_march 26 = .ok (.iconst 0, 1) := by decide +kernel
theorem dX4_march_27 : decode cX4_march 27 = .ok (.istore_n 2, 1) := by decide +kernel
theorem dX4_march_28 : decode cX4_march 28 = .ok (.aload_n 0, 1) := by decide +kernel
theorem dX4_march_29 : decode cX4_march 29 = .ok (.iconst 0, 1) := by decide +kernel
theorem dX4_march_30 : decode cX4_march 30 = .ok (.invokevirtual 293, 3) := by decide +kernel
theorem dX4_march_33 : decode cX4_march 33 = .ok (.istore_n 3, 1) := by decide +kernel
theorem dX4_march_34 : decode cX4_march 34 = .ok (.iconst 1, 1) := by decide +kernel
theorem dX4_march_35 : decode cX4_march 35 = .ok (.istore 4, 2) := by decide +kernel
theorem dX4_march_37 : decode cX4_march 37 = .ok (.iload 4, 2) := by decide +kernel
theorem dX4_march_39 : decode cX4_march 39 = .ok (.aload_n 0, 1) := by decide +kernel
theorem dX4_march_40 : decode cX4_march 40 = .ok (.invokevirtual 296, 3) := by decide +kernel
theorem dX4_march_43 : decode cX4_march 43 = .ok (.if_icmp .ge 29, 3) := by decide +kernel
theorem dX4_march_46 : decode cX4_march 46 = .ok (.aload_n 0, 1) := by decide +kernel
theorem dX4_march_47 : decode cX4_march 47 = .ok (.iload 4, 2) := by decide +kernel
theorem dX4_march_49 : decode cX4_march 49 = .ok (.invokevirtual 293, 3) := by decide +kernel
theorem dX4_march_52 : decode cX4_march 52 = .ok (.istore 5, 2) := by decide +kernel
theorem dX4_march_54 : decode cX4_march 54 = .ok (.iload 5, 2) := by decide +kernel
theorem dX4_march_56 : decode cX4_march 56 = .ok (.iload_n 3, 1) := by decide +kernel
theorem dX4_march_57 : decode cX4_march 57 = .ok (.if_icmp .le 9, 3) := by decide +kernel
theorem dX4_march_60 : decode cX4_march 60 = .ok (.iload 5, 2) := by decide +kernel
theorem dX4_march_62 : decode cX4_march 62 = .ok (.istore_n 3, 1) := by decide +kernel
theorem dX4_march_63 : decode cX4_march 63 = .ok (.iload 4, 2) := by decide +kernel
theorem dX4_march_65 : decode cX4_march 65 = .ok (.istore_n 2, 1) := by decide +kernel
theorem dX4_march_66 : decode cX4_march 66 = .ok (.iinc 4 1, 3) := by decide +kernel
theorem dX4_march_69 : decode cX4_march 69 = .ok (.goto (-32), 3) := by decide +kernel
theorem dX4_march_72 : decode cX4_march 72 = .ok (.iload_n 1, 1) := by decide +kernel
theorem dX4_march_73 : decode cX4_march 73 = .ok (.ifCond .ne 7, 3) := by decide +kernel
theorem dX4_march_76 : decode cX4_march 76 = .ok (.iload_n 3, 1) := by decide +kernel
theorem dX4_march_77 : decode cX4_march 77 = .ok (.goto 4, 3) := by decide +kernel
theorem dX4_march_80 : decode cX4_march 80 = .ok (.iload_n 2, 1) := by decide +kernel
theorem dX4_march_81 : decode cX4_march 81 = .ok (.ireturn, 1) := by decide +kernel
theorem dX4_marchYards_0 : decode cX4_marchYards 0 = .ok (.iconst 5, 1) := by decide +kernel
theorem dX4_marchYards_1 : decode cX4_marchYards 1 = .ok (.aload_n 0, 1) := by decide +kernel
theorem dX4_marchYards_2 : decode cX4_marchYards 2 = .ok (.getfield 12, 3) := by decide +kernel
theorem dX4_marchYards_5 : decode cX4_marchYards 5 = .ok (.getfield 156, 3) := by decide +kernel
theorem dX4_marchYards_8 : decode cX4_marchYards 8 = .ok (.invokestatic 299, 3) := by decide +kernel
theorem dX4_marchYards_11 : decode cX4_marchYards 11 = .ok (.ireturn, 1) := by decide +kernel
theorem dX4_surePouring_0 : decode cX4_surePouring 0 = .ok (.bipush 99, 2) := by decide +kernel
theorem dX4_surePouring_2 : decode cX4_surePouring 2 = .ok (.istore_n 2, 1) := by decide +kernel
theorem dX4_surePouring_3 : decode cX4_surePouring 3 = .ok (.iconst 0, 1) := by decide +kernel
theorem dX4_surePouring_4 : decode cX4_surePouring 4 = .ok (.istore_n 3, 1) := by decide +kernel
theorem dX4_surePouring_5 : decode cX4_surePouring 5 = .ok (.iload_n 3, 1) := by decide +kernel
theorem dX4_surePouring_6 : decode cX4_surePouring 6 = .ok (.aload_n 0, 1) := by decide +kernel
theorem dX4_surePouring_7 : decode cX4_surePouring 7 = .ok (.invokevirtual 296, 3) := by decide +kernel
theorem dX4_surePouring_10 : decode cX4_surePouring 10 = .ok (.if_icmp .ge 20, 3) := by decide +kernel
theorem dX4_surePouring_13 : decode cX4_surePouring 13 = .ok (.iload_n 2, 1) := by decide +kernel
theorem dX4_surePouring_14 : decode cX4_surePouring 14 = .ok (.aload_n 0, 1) := by decide +kernel
theorem dX4_surePouring_15 : decode cX4_surePouring 15 = .ok (.iload_n 1, 1) := by decide +kernel
theorem dX4_surePouring_16 : decode cX4_surePouring 16 = .ok (.iload_n 3, 1) := by decide +kernel
theorem dX4_surePouring_17 : decode cX4_surePouring 17 = .ok (.invokevirtual 302, 3) := by decide +kernel
theorem dX4_surePouring_20 : decode cX4_surePouring 20 = .ok (.invokestatic 299, 3) := by decide +kernel
theorem dX4_surePouring_23 : decode cX4_surePouring 23 = .ok (.istore_n 2, 1) := by decide +kernel
theorem dX4_surePouring_24 : decode cX4_surePouring 24 = .ok (.iinc 3 1, 3) := by decide +kernel
theorem dX4_surePouring_27 : decode cX4_surePouring 27 = .ok (.goto (-22), 3) := by decide +kernel
theorem dX4_surePouring_30 : decode cX4_surePouring 30 = .ok (.iload_n 2, 1) := by decide +kernel
theorem dX4_surePouring_31 : decode cX4_surePouring 31 = .ok (.ireturn, 1) := by decide +kernel
theorem dX4_sureOfMarch_0 : decode cX4_sureOfMarch 0 = .ok (.bipush 99, 2) := by decide +kernel
theorem dX4_sureOfMarch_2 : decode cX4_sureOfMarch 2 = .ok (.istore_n 1, 1) := by decide +kernel
theorem dX4_sureOfMarch_3 : decode cX4_sureOfMarch 3 = .ok (.iconst 0, 1) := by decide +kernel
theorem dX4_sureOfMarch_4 : decode cX4_sureOfMarch 4 = .ok (.istore_n 2, 1) := by decide +kernel
theorem dX4_sureOfMarch_5 : decode cX4_sureOfMarch 5 = .ok (.iload_n 2, 1) := by decide +kernel
theorem dX4_sureOfMarch_6 : decode cX4_sureOfMarch 6 = .ok (.aload_n 0, 1) := by decide +kernel
theorem dX4_sureOfMarch_7 : decode cX4_sureOfMarch 7 = .ok (.invokevirtual 296, 3) := by decide +kernel
theorem dX4_sureOfMarch_10 : decode cX4_sureOfMarch 10 = .ok (.if_icmp .ge 47, 3) := by decide +kernel
theorem dX4_sureOfMarch_13 : decode cX4_sureOfMarch 13 = .ok (.iconst 0, 1) := by decide +kernel
theorem dX4_sureOfMarch_14 : decode cX4_sureOfMarch 14 = .ok (.istore_n 3, 1) := by decide +kernel
theorem dX4_sureOfMarch_15 : decode cX4_sureOfMarch 15 = .ok (.iconst 0, 1) := by decide +kernel
theorem dX4_sureOfMarch_16 : decode cX4_sureOfMarch 16 = .ok (.istore 4, 2) := by decide +kernel
theorem dX4_sureOfMarch_18 : decode cX4_sureOfMarch 18 = .ok (.iload 4, 2) := by decide +kernel
theorem dX4_sureOfMarch_20 : decode cX4_sureOfMarch 20 = .ok (.aload_n 0, 1) := by decide +kernel
theorem dX4_sureOfMarch_21 : decode cX4_sureOfMarch 21 = .ok (.invokevirtual 296, 3) := by decide +kernel
theorem dX4_sureOfMarch_24 : decode cX4_sureOfMarch 24 = .ok (.if_icmp .ge 21, 3) := by decide +kernel
theorem dX4_sureOfMarch_27 : decode cX4_sureOfMarch 27 = .ok (.iload_n 3, 1) := by decide +kernel
theorem dX4_sureOfMarch_28 : decode cX4_sureOfMarch 28 = .ok (.aload_n 0, 1) := by decide +kernel
theorem dX4_sureOfMarch_29 : decode cX4_sureOfMarch 29 = .ok (.iload 4, 2) := by decide +kernel
theorem dX4_sureOfMarch_31 : decode cX4_sureOfMarch 31 = .ok (.iload_n 2, 1) := by decide +kernel
theorem dX4_sureOfMarch_32 : decode cX4_sureOfMarch 32 = .ok (.invokevirtual 302, 3) := by decide +kernel
theorem dX4_sureOfMarch_35 : decode cX4_sureOfMarch 35 = .ok (.invokestatic 273, 3) := by decide +kernel
theorem dX4_sureOfMarch_38 : decode cX4_sureOfMarch 38 = .ok (.istore_n 3, 1) := by decide +kernel
theorem dX4_sureOfMarch_39 : decode cX4_sureOfMarch 39 = .ok (.iinc 4 1, 3) := by decide +kernel
theorem dX4_sureOfMarch_42 : decode cX4_sureOfMarch 42 = .ok (.goto (-24), 3) := by decide +kernel
theorem dX4_sureOfMarch_45 : decode cX4_sureOfMarch 45 = .ok (.iload_n 1, 1) := by decide +kernel
theorem dX4_sureOfMarch_46 : decode cX4_sureOfMarch 46 = .ok (.iload_n 3, 1) := by decide +kernel
theorem dX4_sureOfMarch_47 : decode cX4_sureOfMarch 47 = .ok (.invokestatic 299, 3) := by decide +kernel
theorem dX4_sureOfMarch_50 : decode cX4_sureOfMarch 50 = .ok (.istore_n 1, 1) := by decide +kernel
theorem dX4_sureOfMarch_51 : decode cX4_sureOfMarch 51 = .ok (.iinc 2 1, 3) := by decide +kernel
theorem dX4_sureOfMarch_54 : decode cX4_sureOfMarch 54 = .ok (.goto (-49), 3) := by decide +kernel
theorem dX4_sureOfMarch_57 : decode cX4_sureOfMarch 57 = .ok (.iload_n 1, 1) := by decide +kernel
theorem dX4_sureOfMarch_58 : decode cX4_sureOfMarch 58 = .ok (.ireturn, 1) := by decide +kernel
theorem dX4_leastAfter_0 : decode cX4_leastAfter 0 = .ok (.bipush 99, 2) := by decide +kernel
theorem dX4_leastAfter_2 : decode cX4_leastAfter 2 = .ok (.istore_n 3, 1) := by decide +kernel
theorem dX4_leastAfter_3 : decode cX4_leastAfter 3 = .ok (.iconst 0, 1) := by decide +kernel
theorem dX4_leastAfter_4 : decode cX4_leastAfter 4 = .ok (.istore 4, 2) := by decide +kernel
theorem dX4_leastAfter_6 : decode cX4_leastAfter 6 = .ok (.iload 4, 2) := by decide +kernel
theorem dX4_leastAfter_8 : decode cX4_leastAfter 8 = .ok (.aload_n 0, 1) := by decide +kernel
theorem dX4_leastAfter_9 : decode cX4_leastAfter 9 = .ok (.invokevirtual 296, 3) := by decide +kernel
theorem dX4_leastAfter_12 : decode cX4_leastAfter 12 = .ok (.if_icmp .ge 73, 3) := by decide +kernel
theorem dX4_leastAfter_15 : decode cX4_leastAfter 15 = .ok (.aload_n 0, 1) := by decide +kernel
theorem dX4_leastAfter_16 : decode cX4_leastAfter 16 = .ok (.getfield 12, 3) := by decide +kernel
theorem dX4_leastAfter_19 : decode cX4_leastAfter 19 = .ok (.getfield 136, 3) := by decide +kernel
theorem dX4_leastAfter_22 : decode cX4_leastAfter 22 = .ok (.iload 4, 2) := by decide +kernel
theorem dX4_leastAfter_24 : decode cX4_leastAfter 24 = .ok (.iaload, 1) := by decide +kernel
theorem dX4_leastAfter_25 : decode cX4_leastAfter 25 = .ok (.istore 5, 2) := by decide +kernel
theorem dX4_leastAfter_27 : decode cX4_leastAfter 27 = .ok (.iload 4, 2) := by decide +kernel
theorem dX4_leastAfter_29 : decode cX4_leastAfter 29 = .ok (.iload_n 1, 1) := by decide +kernel
theorem dX4_leastAfter_30 : decode cX4_leastAfter 30 = .ok (.if_icmp .ne 20, 3) := by decide +kernel
theorem dX4_leastAfter_33 : decode cX4_leastAfter 33 = .ok (.iload_n 1, 1) := by decide +kernel
theorem dX4_leastAfter_34 : decode cX4_leastAfter 34 = .ok (.iload_n 2, 1) := by decide +kernel
theorem dX4_leastAfter_35 : decode cX4_leastAfter 35 = .ok (.if_icmp .eq 15, 3) := by decide +kernel
theorem dX4_leastAfter_38 : decode cX4_leastAfter 38 = .ok (.bipush 99, 2) := by decide +kernel
theorem dX4_leastAfter_40 : decode cX4_leastAfter 40 = .ok (.iload 5, 2) := by decide +kernel
theorem dX4_leastAfter_42 : decode cX4_leastAfter 42 = .ok (.bipush 10, 2) := by decide +kernel
theorem dX4_leastAfter_44 : decode cX4_leastAfter 44 = .ok (.iadd, 1) := by decide +kernel
theorem dX4_leastAfter_45 : decode cX4_leastAfter 45 = .ok (.invokestatic 299, 3) := by decide +kernel
theorem dX4_leastAfter_48 : decode cX4_leastAfter 48 = .ok (.istore 5, 2) := by decide +kernel
theorem dX4_leastAfter_50 : decode cX4_leastAfter 50 = .ok (.iload 4, 2) := by decide +kernel
theorem dX4_leastAfter_52 : decode cX4_leastAfter 52 = .ok (.iload_n 2, 1) := by decide +kernel
theorem dX4_leastAfter_53 : decode cX4_leastAfter 53 = .ok (.if_icmp .ne 19, 3) := by decide +kernel
theorem dX4_leastAfter_56 : decode cX4_leastAfter 56 = .ok (.iload_n 1, 1) := by decide +kernel
theorem dX4_leastAfter_57 : decode cX4_leastAfter 57 = .ok (.iload_n 2, 1) := by decide +kernel
theorem dX4_leastAfter_58 : decode cX4_leastAfter 58 = .ok (.if_icmp .eq 14, 3) := by decide +kernel
theorem dX4_leastAfter_61 : decode cX4_leastAfter 61 = .ok (.iconst 0, 1) := by decide +kernel
theorem dX4_leastAfter_62 : decode cX4_leastAfter 62 = .ok (.iload 5, 2) := by decide +kernel
theorem dX4_leastAfter_64 : decode cX4_leastAfter 64 = .ok (.bipush 10, 2) := by decide +kernel
theorem dX4_leastAfter_66 : decode cX4_leastAfter 66 = .ok (.isub, 1) := by decide +kernel
theorem dX4_leastAfter_67 : decode cX4_leastAfter 67 = .ok (.invokestatic 273, 3) := by decide +kernel
theorem dX4_leastAfter_70 : decode cX4_leastAfter 70 = .ok (.istore 5, 2) := by decide +kernel
theorem dX4_leastAfter_72 : decode cX4_leastAfter 72 = .ok (.iload_n 3, 1) := by decide +kernel
theorem dX4_leastAfter_73 : decode cX4_leastAfter 73 = .ok (.iload 5, 2) := by decide +kernel
theorem dX4_leastAfter_75 : decode cX4_leastAfter 75 = .ok (.invokestatic 299, 3) := by decide +kernel
theorem dX4_leastAfter_78 : decode cX4_leastAfter 78 = .ok (.istore_n 3, 1) := by decide +kernel
theorem dX4_leastAfter_79 : decode cX4_leastAfter 79 = .ok (.iinc 4 1, 3) := by decide +kernel
theorem dX4_leastAfter_82 : decode cX4_leastAfter 82 = .ok (.goto (-76), 3) := by decide +kernel
theorem dX4_leastAfter_85 : decode cX4_leastAfter 85 = .ok (.iload_n 3, 1) := by decide +kernel
theorem dX4_leastAfter_86 : decode cX4_leastAfter 86 = .ok (.ireturn, 1) := by decide +kernel
theorem dX4_noons_0 : decode cX4_noons 0 = .ok (.aload_n 0, 1) := by decide +kernel
theorem dX4_noons_1 : decode cX4_noons 1 = .ok (.iload_n 1, 1) := by decide +kernel
theorem dX4_noons_2 : decode cX4_noons 2 = .ok (.invokevirtual 162, 3) := by decide +kernel
theorem dX4_noons_5 : decode cX4_noons 5 = .ok (.ifCond .eq 14, 3) := by decide +kernel
theorem dX4_noons_8 : decode cX4_noons 8 = .ok (.ldc2_w 305, 3) := by decide +kernel
theorem dX4_noons_11 : decode cX4_noons 11 = .ok (.aload_n 0, 1) := by decide +kernel
theorem dX4_noons_12 : decode cX4_noons 12 = .ok (.iconst (-1), 1) := by decide +kernel
theorem dX4_noons_13 : decode cX4_noons 13 = .ok (.invokevirtual 61, 3) := by decide +kernel
theorem dX4_noons_16 : decode cX4_noons 16 = .ok (.i2l, 1) := by decide +kernel
theorem dX4_noons_17 : decode cX4_noons 17 = .ok (.lsub, 1) := by decide +kernel
theorem dX4_noons_18 : decode cX4_noons 18 = .ok (.lreturn, 1) := by decide +kernel
theorem dX4_noons_19 : decode cX4_noons 19 = .ok (.iload_n 2, 1) := by decide +kernel
theorem dX4_noons_20 : decode cX4_noons 20 = .ok (.invokestatic 153, 3) := by decide +kernel
theorem dX4_noons_23 : decode cX4_noons 23 = .ok (.ifCond .eq 15, 3) := by decide +kernel
theorem dX4_noons_26 : decode cX4_noons 26 = .ok (.ldc2_w 305, 3) := by decide +kernel
theorem dX4_noons_29 : decode cX4_noons 29 = .ok (.aload_n 0, 1) := by decide +kernel
theorem dX4_noons_30 : decode cX4_noons 30 = .ok (.bipush (-2), 2) := by decide +kernel
theorem dX4_noons_32 : decode cX4_noons 32 = .ok (.invokevirtual 61, 3) := by decide +kernel
theorem dX4_noons_35 : decode cX4_noons 35 = .ok (.i2l, 1) := by decide +kernel
theorem dX4_noons_36 : decode cX4_noons 36 = .ok (.lsub, 1) := by decide +kernel
theorem dX4_noons_37 : decode cX4_noons 37 = .ok (.lreturn, 1) := by decide +kernel
theorem dX4_noons_38 : decode cX4_noons 38 = .ok (.iconst 0, 1) := by decide +kernel
theorem dX4_noons_39 : decode cX4_noons 39 = .ok (.istore_n 3, 1) := by decide +kernel
theorem dX4_noons_40 : decode cX4_noons 40 = .ok (.iconst 0, 1) := by decide +kernel
theorem dX4_noons_41 : decode cX4_noons 41 = .ok (.istore 4, 2) := by decide +kernel
theorem dX4_noons_43 : decode cX4_noons 43 = .ok (.iconst 0, 1) := by decide +kernel
theorem dX4_noons_44 : decode cX4_noons 44 = .ok (.istore 5, 2) := by decide +kernel
theorem dX4_noons_46 : decode cX4_noons 46 = .ok (.iload 5, 2) := by decide +kernel
theorem dX4_noons_48 : decode cX4_noons 48 = .ok (.bipush 9, 2) := by decide +kernel
theorem dX4_noons_50 : decode cX4_noons 50 = .ok (.if_icmp .gt 25, 3) := by decide +kernel
theorem dX4_noons_53 : decode cX4_noons 53 = .ok (.iinc 4 1, 3) := by decide +kernel
theorem dX4_noons_56 : decode cX4_noons 56 = .ok (.aload_n 0, 1) := by decide +kernel
theorem dX4_noons_57 : decode cX4_noons 57 = .ok (.iload_n 1, 1) := by decide +kernel
theorem dX4_noons_58 : decode cX4_noons 58 = .ok (.iload 5, 2) := by decide +kernel
theorem dX4_noons_60 : decode cX4_noons 60 = .ok (.invokevirtual 307, 3) := by decide +kernel
theorem dX4_noons_63 : decode cX4_noons 63 = .ok (.ifCond .eq 6, 3) := by decide +kernel
theorem dX4_noons_66 : decode cX4_noons 66 = .ok (.iinc 3 1, 3) := by decide +kernel
theorem dX4_noons_69 : decode cX4_noons 69 = .ok (.iinc 5 1, 3) := by decide +kernel
theorem dX4_noons_72 : decode cX4_noons 72 = .ok (.goto (-26), 3) := by decide +kernel
theorem dX4_noons_75 : decode cX4_noons 75 = .ok (.iload_n 3, 1) := by decide +kernel
theorem dX4_noons_76 : decode cX4_noons 76 = .ok (.iload 4, 2) := by decide +kernel
theorem dX4_noons_78 : decode cX4_noons 78 = .ok (.invokestatic 310, 3) := by decide +kernel
theorem dX4_noons_81 : decode cX4_noons 81 = .ok (.istore 5, 2) := by decide +kernel
theorem dX4_noons_83 : decode cX4_noons 83 = .ok (.iload_n 2, 1) := by decide +kernel
theorem dX4_noons_84 : decode cX4_noons 84 = .ok (.ifCond .ne 11, 3) := by decide +kernel
theorem dX4_noons_87 : decode cX4_noons 87 = .ok (.iload_n 3, 1) := by decide +kernel
theorem dX4_noons_88 : decode cX4_noons 88 = .ok (.iload 5, 2) := by decide +kernel
theorem dX4_noons_90 : decode cX4_noons 90 = .ok (.idiv, 1) := by decide +kernel
theorem dX4_noons_91 : decode cX4_noons 91 = .ok (.i2l, 1) := by decide +kernel
theorem dX4_noons_92 : decode cX4_noons 92 = .ok (.goto 9, 3) := by decide +kernel
theorem dX4_noons_95 : decode cX4_noons 95 = .ok (.iload 4, 2) := by decide +kernel
theorem dX4_noons_97 : decode cX4_noons 97 = .ok (.iload 5, 2) := by decide +kernel
theorem dX4_noons_99 : decode cX4_noons 99 = .ok (.idiv, 1) := by decide +kernel
theorem dX4_noons_100 : decode cX4_noons 100 = .ok (.i2l, 1) := by decide +kernel
theorem dX4_noons_101 : decode cX4_noons 101 = .ok (.lreturn, 1) := by decide +kernel
theorem dX4_getsThroughAtNoon_0 : decode cX4_getsThroughAtNoon 0 = .ok (.aload_n 0, 1) := by decide +kernel
theorem dX4_getsThroughAtNoon_1 : decode cX4_getsThroughAtNoon 1 = .ok (.getfield 16, 3) := by decide +kernel
theorem dX4_getsThroughAtNoon_4 : decode cX4_getsThroughAtNoon 4 = .ok (.aload_n 0, 1) := by decide +kernel
theorem dX4_getsThroughAtNoon_5 : decode cX4_getsThroughAtNoon 5 = .ok (.getfield 12, 3) := by decide +kernel
theorem dX4_getsThroughAtNoon_8 : decode cX4_getsThroughAtNoon 8 = .ok (.invokevirtual 79, 3) := by decide +kernel
theorem dX4_getsThroughAtNoon_11 : decode cX4_getsThroughAtNoon 11 = .ok (.aload_n 0, 1) := by decide +kernel
theorem dX4_getsThroughAtNoon_12 : decode cX4_getsThroughAtNoon 12 = .ok (.getfield 16, 3) := by decide +kernel
theorem dX4_getsThroughAtNoon_15 : decode cX4_getsThroughAtNoon 15 = .ok (.iload_n 2, 1) := by decide +kernel
theorem dX4_getsThroughAtNoon_16 : decode cX4_getsThroughAtNoon 16 = .ok (.putfield 118, 3) := by decide +kernel
theorem dX4_getsThroughAtNoon_19 : decode cX4_getsThroughAtNoon 19 = .ok (.aload_n 0, 1) := by decide +kernel
theorem dX4_getsThroughAtNoon_20 : decode cX4_getsThroughAtNoon 20 = .ok (.iload_n 1, 1) := by decide +kernel
theorem dX4_getsThroughAtNoon_21 : decode cX4_getsThroughAtNoon 21 = .ok (.invokevirtual 211, 3) := by decide +kernel
theorem dX4_getsThroughAtNoon_24 : decode cX4_getsThroughAtNoon 24 = .ok (.ireturn, 1) := by decide +kernel
theorem dX4_commonDivisor_0 : decode cX4_commonDivisor 0 = .ok (.iload_n 1, 1) := by decide +kernel
theorem dX4_commonDivisor_1 : decode cX4_commonDivisor 1 = .ok (.istore_n 2, 1) := by decide +kernel
theorem dX4_commonDivisor_2 : decode cX4_commonDivisor 2 = .ok (.iload_n 2, 1) := by decide +kernel
theorem dX4_commonDivisor_3 : decode cX4_commonDivisor 3 = .ok (.iconst 1, 1) := by decide +kernel
theorem dX4_commonDivisor_4 : decode cX4_commonDivisor 4 = .ok (.if_icmp .le 23, 3) := by decide +kernel
theorem dX4_commonDivisor_7 : decode cX4_commonDivisor 7 = .ok (.iload_n 0, 1) := by decide +kernel
theorem dX4_commonDivisor_8 : decode cX4_commonDivisor 8 = .ok (.iload_n 2, 1) := by decide +kernel
theorem dX4_commonDivisor_9 : decode cX4_commonDivisor 9 = .ok (.irem, 1) := by decide +kernel
theorem dX4_commonDivisor_10 : decode cX4_commonDivisor 10 = .ok (.ifCond .ne 11, 3) := by decide +kernel
theorem dX4_commonDivisor_13 : decode cX4_commonDivisor 13 = .ok (.iload_n 1, 1) := by decide +kernel
theorem dX4_commonDivisor_14 : decode cX4_commonDivisor 14 = .ok (.iload_n 2, 1) := by decide +kernel
theorem dX4_commonDivisor_15 : decode cX4_commonDivisor 15 = .ok (.irem, 1) := by decide +kernel
theorem dX4_commonDivisor_16 : decode cX4_commonDivisor 16 = .ok (.ifCond .ne 5, 3) := by decide +kernel
theorem dX4_commonDivisor_19 : decode cX4_commonDivisor 19 = .ok (.iload_n 2, 1) := by decide +kernel
theorem dX4_commonDivisor_20 : decode cX4_commonDivisor 20 = .ok (.ireturn, 1) := by decide +kernel
theorem dX4_commonDivisor_21 : decode cX4_commonDivisor 21 = .ok (.iinc 2 (-1), 3) := by decide +kernel
theorem dX4_commonDivisor_24 : decode cX4_commonDivisor 24 = .ok (.goto (-22), 3) := by decide +kernel
theorem dX4_commonDivisor_27 : decode cX4_commonDivisor 27 = .ok (.iconst 1, 1) := by decide +kernel
theorem dX4_commonDivisor_28 : decode cX4_commonDivisor 28 = .ok (.ireturn, 1) := by decide +kernel
theorem dX4_thaw_0 : decode cX4_thaw 0 = .ok (.aload_n 0, 1) := by decide +kernel
theorem dX4_thaw_1 : decode cX4_thaw 1 = .ok (.getfield 16, 3) := by decide +kernel
theorem dX4_thaw_4 : decode cX4_thaw 4 = .ok (.aload_n 0, 1) := by decide +kernel
theorem dX4_thaw_5 : decode cX4_thaw 5 = .ok (.getfield 12, 3) := by decide +kernel
theorem dX4_thaw_8 : decode cX4_thaw 8 = .ok (.invokevirtual 79, 3) := by decide +kernel
theorem dX4_thaw_11 : decode cX4_thaw 11 = .ok (.aload_n 0, 1) := by decide +kernel
theorem dX4_thaw_12 : decode cX4_thaw 12 = .ok (.getfield 16, 3) := by decide +kernel
theorem dX4_thaw_15 : decode cX4_thaw 15 = .ok (.invokevirtual 199, 3) := by decide +kernel
theorem dX4_thaw_18 : decode cX4_thaw 18 = .ok (.iconst 0, 1) := by decide +kernel
theorem dX4_thaw_19 : decode cX4_thaw 19 = .ok (.istore_n 1, 1) := by decide +kernel
theorem dX4_thaw_20 : decode cX4_thaw 20 = .ok (.iload_n 1, 1) := by decide +kernel
theorem dX4_thaw_21 : decode cX4_thaw 21 = .ok (.bipush 72, 2) := by decide +kernel
theorem dX4_thaw_23 : decode cX4_thaw 23 = .ok (.if_icmp .gt 29, 3) := by decide +kernel
theorem dX4_thaw_26 : decode cX4_thaw 26 = .ok (.aload_n 0, 1) := by decide +kernel
theorem dX4_thaw_27 : decode cX4_thaw 27 = .ok (.getfield 16, 3) := by decide +kernel
theorem dX4_thaw_30 : decode cX4_thaw 30 = .ok (.iconst 1, 1) := by decide +kernel
theorem dX4_thaw_31 : decode cX4_thaw 31 = .ok (.invokevirtual 313, 3) := by decide +kernel
theorem dX4_thaw_34 : decode cX4_thaw 34 = .ok (.ifCond .eq 5, 3) := by decide +kernel
theorem dX4_thaw_37 : decode cX4_thaw 37 = .ok (.iload_n 1, 1) := by decide +kernel
theorem dX4_thaw_38 : decode cX4_thaw 38 = .ok (.ireturn, 1) := by decide +kernel
theorem dX4_thaw_39 : decode cX4_thaw 39 = .ok (.aload_n 0, 1) := by decide +kernel
theorem dX4_thaw_40 : decode cX4_thaw 40 = .ok (.getfield 16, 3) := by decide +kernel
theorem dX4_thaw_43 : decode cX4_thaw 43 = .ok (.invokevirtual 202, 3) := by decide +kernel
theorem dX4_thaw_46 : decode cX4_thaw 46 = .ok (.iinc 1 1, 3) := by decide +kernel
theorem dX4_thaw_49 : decode cX4_thaw 49 = .ok (.goto (-29), 3) := by decide +kernel
theorem dX4_thaw_52 : decode cX4_thaw 52 = .ok (.bipush (-9), 2) := by decide +kernel
theorem dX4_thaw_54 : decode cX4_thaw 54 = .ok (.ireturn, 1) := by decide +kernel
theorem dX4_noon_0 : decode cX4_noon 0 = .ok (.aload_n 0, 1) := by decide +kernel
theorem dX4_noon_1 : decode cX4_noon 1 = .ok (.iload_n 1, 1) := by decide +kernel
theorem dX4_noon_2 : decode cX4_noon 2 = .ok (.invokevirtual 162, 3) := by decide +kernel
theorem dX4_noon_5 : decode cX4_noon 5 = .ok (.ifCond .eq 9, 3) := by decide +kernel
theorem dX4_noon_8 : decode cX4_noon 8 = .ok (.aload_n 0, 1) := by decide +kernel
theorem dX4_noon_9 : decode cX4_noon 9 = .ok (.iconst (-1), 1) := by decide +kernel
theorem dX4_noon_10 : decode cX4_noon 10 = .ok (.invokevirtual 61, 3) := by decide +kernel
theorem dX4_noon_13 : decode cX4_noon 13 = .ok (.ireturn, 1) := by decide +kernel
theorem dX4_noon_14 : decode cX4_noon 14 = .ok (.bipush 9, 2) := by decide +kernel
theorem dX4_noon_16 : decode cX4_noon 16 = .ok (.istore_n 2, 1) := by decide +kernel
theorem dX4_noon_17 : decode cX4_noon 17 = .ok (.iload_n 2, 1) := by decide +kernel
theorem dX4_noon_18 : decode cX4_noon 18 = .ok (.ifCond .lt 20, 3) := by decide +kernel
theorem dX4_noon_21 : decode cX4_noon 21 = .ok (.aload_n 0, 1) := by decide +kernel
theorem dX4_noon_22 : decode cX4_noon 22 = .ok (.iload_n 1, 1) := by decide +kernel
theorem dX4_noon_23 : decode cX4_noon 23 = .ok (.iload_n 2, 1) := by decide +kernel
theorem dX4_noon_24 : decode cX4_noon 24 = .ok (.invokevirtual 307, 3) := by decide +kernel
theorem dX4_noon_27 : decode cX4_noon 27 = .ok (.ifCond .eq 5, 3) := by decide +kernel
theorem dX4_noon_30 : decode cX4_noon 30 = .ok (.iload_n 2, 1) := by decide +kernel
theorem dX4_noon_31 : decode cX4_noon 31 = .ok (.ireturn, 1) := by decide +kernel
theorem dX4_noon_32 : decode cX4_noon 32 = .ok (.iinc 2 (-1), 3) := by decide +kernel
theorem dX4_noon_35 : decode cX4_noon 35 = .ok (.goto (-18), 3) := by decide +kernel
theorem dX4_noon_38 : decode cX4_noon 38 = .ok (.bipush (-9), 2) := by decide +kernel
theorem dX4_noon_40 : decode cX4_noon 40 = .ok (.ireturn, 1) := by decide +kernel
theorem dX4_needed_0 : decode cX4_needed 0 = .ok (.aload_n 0, 1) := by decide +kernel
theorem dX4_needed_1 : decode cX4_needed 1 = .ok (.iload_n 1, 1) := by decide +kernel
theorem dX4_needed_2 : decode cX4_needed 2 = .ok (.invokevirtual 127, 3) := by decide +kernel
theorem dX4_needed_5 : decode cX4_needed 5 = .ok (.ifCond .ne 11, 3) := by decide +kernel
theorem dX4_needed_8 : decode cX4_needed 8 = .ok (.aload_n 0, 1) := by decide +kernel
theorem dX4_needed_9 : decode cX4_needed 9 = .ok (.iload_n 2, 1) := by decide +kernel
theorem dX4_needed_10 : decode cX4_needed 10 = .ok (.invokevirtual 162, 3) := by decide +kernel
theorem dX4_needed_13 : decode cX4_needed 13 = .ok (.ifCond .eq 9, 3) := by decide +kernel
theorem dX4_needed_16 : decode cX4_needed 16 = .ok (.aload_n 0, 1) := by decide +kernel
theorem dX4_needed_17 : decode cX4_needed 17 = .ok (.iconst (-1), 1) := by decide +kernel
theorem dX4_needed_18 : decode cX4_needed 18 = .ok (.invokevirtual 61, 3) := by decide +kernel
theorem dX4_needed_21 : decode cX4_needed 21 = .ok (.ireturn, 1) := by decide +kernel
theorem dX4_needed_22 : decode cX4_needed 22 = .ok (.iconst 0, 1) := by decide +kernel
theorem dX4_needed_23 : decode cX4_needed 23 = .ok (.istore_n 3, 1) := by decide +kernel
theorem dX4_needed_24 : decode cX4_needed 24 = .ok (.iload_n 3, 1) := by decide +kernel
theorem dX4_needed_25 : decode cX4_needed 25 = .ok (.bipush 99, 2) := by decide +kernel
theorem dX4_needed_27 : decode cX4_needed 27 = .ok (.if_icmp .gt 40, 3) := by decide +kernel
theorem dX4_needed_30 : decode cX4_needed 30 = .ok (.aload_n 0, 1) := by decide +kernel
theorem dX4_needed_31 : decode cX4_needed 31 = .ok (.getfield 16, 3) := by decide +kernel
theorem dX4_needed_34 : decode cX4_needed 34 = .ok (.aload_n 0, 1) := by decide +kernel
theorem dX4_needed_35 : decode cX4_needed 35 = .ok (.getfield 12, 3) := by decide +kernel
theorem dX4_needed_38 : decode cX4_needed 38 = .ok (.invokevirtual 79, 3) := by decide +kernel
theorem dX4_needed_41 : decode cX4_needed 41 = .ok (.aload_n 0, 1) := by decide +kernel
theorem dX4_needed_42 : decode cX4_needed 42 = .ok (.getfield 16, 3) := by decide +kernel
theorem dX4_needed_45 : decode cX4_needed 45 = .ok (.getfield 136, 3) := by decide +kernel
theorem dX4_needed_48 : decode cX4_needed 48 = .ok (.iload_n 1, 1) := by decide +kernel
theorem dX4_needed_49 : decode cX4_needed 49 = .ok (.iload_n 3, 1) := by decide +kernel
theorem dX4_needed_50 : decode cX4_needed 50 = .ok (.iastore, 1) := by decide +kernel
theorem dX4_needed_51 : decode cX4_needed 51 = .ok (.aload_n 0, 1) := by decide +kernel
theorem dX4_needed_52 : decode cX4_needed 52 = .ok (.iload_n 2, 1) := by decide +kernel
theorem dX4_needed_53 : decode cX4_needed 53 = .ok (.invokevirtual 211, 3) := by decide +kernel
theorem dX4_needed_56 : decode cX4_needed 56 = .ok (.ifCond .eq 5, 3) := by decide +kernel
theorem dX4_needed_59 : decode cX4_needed 59 = .ok (.iload_n 3, 1) := by decide +kernel
theorem dX4_needed_60 : decode cX4_needed 60 = .ok (.ireturn, 1) := by decide +kernel
theorem dX4_needed_61 : decode cX4_needed 61 = .ok (.iinc 3 1, 3) := by decide +kernel
theorem dX4_needed_64 : decode cX4_needed 64 = .ok (.goto (-40), 3) := by decide +kernel
theorem dX4_needed_67 : decode cX4_needed 67 = .ok (.bipush (-9), 2) := by decide +kernel
theorem dX4_needed_69 : decode cX4_needed 69 = .ok (.ireturn, 1) := by decide +kernel
theorem dX4_key_0 : decode cX4_key 0 = .ok (.aload_n 0, 1) := by decide +kernel
theorem dX4_key_1 : decode cX4_key 1 = .ok (.getfield 16, 3) := by decide +kernel
theorem dX4_key_4 : decode cX4_key 4 = .ok (.aload_n 0, 1) := by decide +kernel
theorem dX4_key_5 : decode cX4_key 5 = .ok (.getfield 12, 3) := by decide +kernel
theorem dX4_key_8 : decode cX4_key 8 = .ok (.invokevirtual 79, 3) := by decide +kernel
theorem dX4_key_11 : decode cX4_key 11 = .ok (.aload_n 0, 1) := by decide +kernel
theorem dX4_key_12 : decode cX4_key 12 = .ok (.invokevirtual 223, 3) := by decide +kernel
theorem dX4_key_15 : decode cX4_key 15 = .ok (.istore_n 1, 1) := by decide +kernel
theorem dX4_key_16 : decode cX4_key 16 = .ok (.bipush (-9), 2) := by decide +kernel
theorem dX4_key_18 : decode cX4_key 18 = .ok (.istore_n 2, 1) := by decide +kernel
theorem dX4_key_19 : decode cX4_key 19 = .ok (.iconst 0, 1) := by decide +kernel
theorem dX4_key_20 : decode cX4_key 20 = .ok (.istore_n 3, 1) := by decide +kernel
theorem dX4_key_21 : decode cX4_key 21 = .ok (.iload_n 3, 1) := by decide +kernel
theorem dX4_key_22 : decode cX4_key 22 = .ok (.aload_n 0, 1) := by decide +kernel
theorem dX4_key_23 : decode cX4_key 23 = .ok (.getfield 12, 3) := by decide +kernel
theorem dX4_key_26 : decode cX4_key 26 = .ok (.getfield 156, 3) := by decide +kernel
theorem dX4_key_29 : decode cX4_key 29 = .ok (.if_icmp .ge 57, 3) := by decide +kernel
theorem dX4_key_32 : decode cX4_key 32 = .ok (.aload_n 0, 1) := by decide +kernel
theorem dX4_key_33 : decode cX4_key 33 = .ok (.getfield 16, 3) := by decide +kernel
theorem dX4_key_36 : decode cX4_key 36 = .ok (.aload_n 0, 1) := by decide +kernel
theorem dX4_key_37 : decode cX4_key 37 = .ok (.getfield 12, 3) := by decide +kernel
theorem dX4_key_40 : decode cX4_key 40 = .ok (.invokevirtual 79, 3) := by decide +kernel
theorem dX4_key_43 : decode cX4_key 43 = .ok (.aload_n 0, 1) := by decide +kernel
theorem dX4_key_44 : decode cX4_key 44 = .ok (.getfield 16, 3) := by decide +kernel
theorem dX4_key_47 : decode cX4_key 47 = .ok (.getfield 130, 3) := by decide +kernel
theorem dX4_key_50 : decode cX4_key 50 = .ok (.iload_n 3, 1) := by decide +kernel
theorem dX4_key_51 : decode cX4_key 51 = .ok (.iconst 0, 1) := by decide +kernel
theorem dX4_key_52 : decode cX4_key 52 = .ok (.iastore, 1) := by decide +kernel
theorem dX4_key_53 : decode cX4_key 53 = .ok (.aload_n 0, 1) := by decide +kernel
theorem dX4_key_54 : decode cX4_key 54 = .ok (.getfield 16, 3) := by decide +kernel
theorem dX4_key_57 : decode cX4_key 57 = .ok (.getfield 133, 3) := by decide +kernel
theorem dX4_key_60 : decode cX4_key 60 = .ok (.iload_n 3, 1) := by decide +kernel
theorem dX4_key_61 : decode cX4_key 61 = .ok (.iconst 0, 1) := by decide +kernel
theorem dX4_key_62 : decode cX4_key 62 = .ok (.iastore, 1) := by decide +kernel
theorem dX4_key_63 : decode cX4_key 63 = .ok (.aload_n 0, 1) := by decide +kernel
theorem dX4_key_64 : decode cX4_key 64 = .ok (.invokevirtual 223, 3) := by decide +kernel
theorem dX4_key_67 : decode cX4_key 67 = .ok (.istore 4, 2) := by decide +kernel
theorem dX4_key_69 : decode cX4_key 69 = .ok (.iload 4, 2) := by decide +kernel
theorem dX4_key_71 : decode cX4_key 71 = .ok (.iload_n 1, 1) := by decide +kernel
theorem dX4_key_72 : decode cX4_key 72 = .ok (.if_icmp .le 8, 3) := by decide +kernel
theorem dX4_key_75 : decode cX4_key 75 = .ok (.iload 4, 2) := by decide +kernel
theorem dX4_key_77 : decode cX4_key 77 = .ok (.istore_n 1, 1) := by decide +kernel
theorem dX4_key_78 : decode cX4_key 78 = .ok (.iload_n 3, 1) := by decide +kernel
theorem dX4_key_79 : decode cX4_key 79 = .ok (.istore_n 2, 1) := by decide +kernel
theorem dX4_key_80 : decode cX4_key 80 = .ok (.iinc 3 1, 3) := by decide +kernel
theorem dX4_key_83 : decode cX4_key 83 = .ok (.goto (-62), 3) := by decide +kernel
theorem dX4_key_86 : decode cX4_key 86 = .ok (.iload_n 2, 1) := by decide +kernel
theorem dX4_key_87 : decode cX4_key 87 = .ok (.ireturn, 1) := by decide +kernel
theorem dX4_blocker_0 : decode cX4_blocker 0 = .ok (.bipush (-9), 2) := by decide +kernel
theorem dX4_blocker_2 : decode cX4_blocker 2 = .ok (.istore_n 1, 1) := by decide +kernel
theorem dX4_blocker_3 : decode cX4_blocker 3 = .ok (.bipush (-9), 2) := by decide +kernel
theorem dX4_blocker_5 : decode cX4_blocker 5 = .ok (.istore_n 2, 1) := by decide +kernel
theorem dX4_blocker_6 : decode cX4_blocker 6 = .ok (.iconst 0, 1) := by decide +kernel
theorem dX4_blocker_7 : decode cX4_blocker 7 = .ok (.istore_n 3, 1) := by decide +kernel
theorem dX4_blocker_8 : decode cX4_blocker 8 = .ok (.iload_n 3, 1) := by decide +kernel
theorem dX4_blocker_9 : decode cX4_blocker 9 = .ok (.aload_n 0, 1) := by decide +kernel
theorem dX4_blocker_10 : decode cX4_blocker 10 = .ok (.getfield 12, 3) := by decide +kernel
theorem dX4_blocker_13 : decode cX4_blocker 13 = .ok (.getfield 159, 3) := by decide +kernel
theorem dX4_blocker_16 : decode cX4_blocker 16 = .ok (.if_icmp .ge 53, 3) := by decide +kernel
theorem dX4_blocker_19 : decode cX4_blocker 19 = .ok (.aload_n 0, 1) := by decide +kernel
theorem dX4_blocker_20 : decode cX4_blocker 20 = .ok (.getfield 12, 3) := by decide +kernel
theorem dX4_blocker_23 : decode cX4_blocker 23 = .ok (.getfield 180, 3) := by decide +kernel
theorem dX4_blocker_26 : decode cX4_blocker 26 = .ok (.iload_n 3, 1) := by decide +kernel
theorem dX4_blocker_27 : decode cX4_blocker 27 = .ok (.iaload, 1) := by decide +kernel
theorem dX4_blocker_28 : decode cX4_blocker 28 = .ok (.ifCond .ne 35, 3) := by decide +kernel
theorem dX4_blocker_31 : decode cX4_blocker 31 = .ok (.aload_n 0, 1) := by decide +kernel
theorem dX4_blocker_32 : decode cX4_blocker 32 = .ok (.iload_n 3, 1) := by decide +kernel
theorem dX4_blocker_33 : decode cX4_blocker 33 = .ok (.invokevirtual 316, 3) := by decide +kernel
theorem dX4_blocker_36 : decode cX4_blocker 36 = .ok (.istore 4, 2) := by decide +kernel
theorem dX4_blocker_38 : decode cX4_blocker 38 = .ok (.aload_n 0, 1) := by decide +kernel
theorem dX4_blocker_39 : decode cX4_blocker 39 = .ok (.iload_n 3, 1) := by decide +kernel
theorem dX4_blocker_40 : decode cX4_blocker 40 = .ok (.invokevirtual 319, 3) := by decide +kernel
theorem dX4_blocker_43 : decode cX4_blocker 43 = .ok (.istore 5, 2) := by decide +kernel
theorem dX4_blocker_45 : decode cX4_blocker 45 = .ok (.iload 5, 2) := by decide +kernel
theorem dX4_blocker_47 : decode cX4_blocker 47 = .ok (.iload 4, 2) := by decide +kernel
theorem dX4_blocker_49 : decode cX4_blocker 49 = .ok (.if_icmp .le 14, 3) := by decide +kernel
theorem dX4_blocker_52 : decode cX4_blocker 52 = .ok (.iload 5, 2) := by decide +kernel
theorem dX4_blocker_54 : decode cX4_blocker 54 = .ok (.iload_n 1, 1) := by decide +kernel
theorem dX4_blocker_55 : decode cX4_blocker 55 = .ok (.if_icmp .le 8, 3) := by decide +kernel
theorem dX4_blocker_58 : decode cX4_blocker 58 = .ok (.iload 5, 2) := by decide +kernel
theorem dX4_blocker_60 : decode cX4_blocker 60 = .ok (.istore_n 1, 1) := by decide +kernel
theorem dX4_blocker_61 : decode cX4_blocker 61 = .ok (.iload_n 3, 1) := by decide +kernel
theorem dX4_blocker_62 : decode cX4_blocker 62 = .ok (.istore_n 2, 1) := by decide +kernel
theorem dX4_blocker_63 : decode cX4_blocker 63 = .ok (.iinc 3 1, 3) := by decide +kernel
theorem dX4_blocker_66 : decode cX4_blocker 66 = .ok (.goto (-58), 3) := by decide +kernel
theorem dX4_blocker_69 : decode cX4_blocker 69 = .ok (.iload_n 2, 1) := by decide +kernel
theorem dX4_blocker_70 : decode cX4_blocker 70 = .ok (.ireturn, 1) := by decide +kernel
theorem dX4_othersThroughNow_0 : decode cX4_othersThroughNow 0 = .ok (.aload_n 0, 1) := by decide +kernel
theorem dX4_othersThroughNow_1 : decode cX4_othersThroughNow 1 = .ok (.getfield 16, 3) := by decide +kernel
theorem dX4_othersThroughNow_4 : decode cX4_othersThroughNow 4 = .ok (.aload_n 0, 1) := by decide +kernel
theorem dX4_othersThroughNow_5 : decode cX4_othersThroughNow 5 = .ok (.getfield 12, 3) := by decide +kernel
theorem dX4_othersThroughNow_8 : decode cX4_othersThroughNow 8 = .ok (.invokevirtual 79, 3) := by decide +kernel
theorem dX4_othersThroughNow_11 : decode cX4_othersThroughNow 11 = .ok (.aload_n 0, 1) := by decide +kernel
theorem dX4_othersThroughNow_12 : decode cX4_othersThroughNow 12 = .ok (.invokevirtual 223, 3) := by decide +kernel
theorem dX4_othersThroughNow_15 : decode cX4_othersThroughNow 15 = .ok (.istore_n 2, 1) := by decide +kernel
theorem dX4_othersThroughNow_16 : decode cX4_othersThroughNow 16 = .ok (.aload_n 0, 1) := by decide +kernel
theorem dX4_othersThroughNow_17 : decode cX4_othersThroughNow 17 = .ok (.getfield 16, 3) := by decide +kernel
theorem dX4_othersThroughNow_20 : decode cX4_othersThroughNow 20 = .ok (.getfield 180, 3) := by decide +kernel
theorem dX4_othersThroughNow_23 : decode cX4_othersThroughNow 23 = .ok (.iload_n 1, 1) := by decide +kernel
theorem dX4_othersThroughNow_24 : decode cX4_othersThroughNow 24 = .ok (.iaload, 1) := by decide +kernel
theorem dX4_othersThroughNow_25 : decode cX4_othersThroughNow 25 = .ok (.iconst 1, 1) := by decide +kernel
theorem dX4_othersThroughNow_26 : decode cX4_othersThroughNow 26 = .ok (.if_icmp .ne 9, 3) := by decide +kernel
theorem dX4_othersThroughNow_29 : decode cX4_othersThroughNow 29 = .ok (.iload_n 2, 1) := by decide +kernel
theorem dX4_othersThroughNow_30 : decode cX4_othersThroughNow 30 = .ok (.iconst 1, 1) := by decide +kernel
theorem dX4_othersThroughNow_31 : decode cX4_othersThroughNow 31 = .ok (.isub, 1) := by decide +kernel
theorem dX4_othersThroughNow_32 : decode cX4_othersThroughNow 32 = .ok (.goto 4, 3) := by decide +kernel
theorem dX4_othersThroughNow_35 : decode cX4_othersThroughNow 35 = .ok (.iload_n 2, 1) := by decide +kernel
theorem dX4_othersThroughNow_36 : decode cX4_othersThroughNow 36 = .ok (.ireturn, 1) := by decide +kernel
theorem dX4_othersThroughWithout_0 : decode cX4_othersThroughWithout 0 = .ok (.aload_n 0, 1) := by decide +kernel
theorem dX4_othersThroughWithout_1 : decode cX4_othersThroughWithout 1 = .ok (.getfield 16, 3) := by decide +kernel
theorem dX4_othersThroughWithout_4 : decode cX4_othersThroughWithout 4 = .ok (.aload_n 0, 1) := by decide +kernel
theorem dX4_othersThroughWithout_5 : decode cX4_othersThroughWithout 5 = .ok (.getfield 12, 3) := by decide +kernel
theorem dX4_othersThroughWithout_8 : decode cX4_othersThroughWithout 8 = .ok (.invokevirtual 79, 3) := by decide +kernel
theorem dX4_othersThroughWithout_11 : decode cX4_othersThroughWithout 11 = .ok (.aload_n 0, 1) := by decide +kernel
theorem dX4_othersThroughWithout_12 : decode cX4_othersThroughWithout 12 = .ok (.getfield 16, 3) := by decide +kernel
theorem dX4_othersThroughWithout_15 : decode cX4_othersThroughWithout 15 = .ok (.getfield 180, 3) := by decide +kernel
theorem dX4_othersThroughWithout_18 : decode cX4_othersThroughWithout 18 = .ok (.iload_n 1, 1) := by decide +kernel
theorem dX4_othersThroughWithout_19 : decode cX4_othersThroughWithout 19 = .ok (.iconst 3, 1) := by decide +kernel
theorem dX4_othersThroughWithout_20 : decode cX4_othersThroughWithout 20 = .ok (.iastore, 1) := by decide +kernel
theorem dX4_othersThroughWithout_21 : decode cX4_othersThroughWithout 21 = .ok (.aload_n 0, 1) := by decide +kernel
theorem dX4_othersThroughWithout_22 : decode cX4_othersThroughWithout 22 = .ok (.invokevirtual 223, 3) := by decide +kernel
theorem dX4_othersThroughWithout_25 : decode cX4_othersThroughWithout 25 = .ok (.ireturn, 1) := by decide +kernel
theorem dX4_mean_0 : decode cX4_mean 0 = .ok (.iload_n 1, 1) := by decide +kernel
theorem dX4_mean_1 : decode cX4_mean 1 = .ok (.iconst 0, 1) := by decide +kernel
theorem dX4_mean_2 : decode cX4_mean 2 = .ok (.bipush 72, 2) := by decide +kernel
theorem dX4_mean_4 : decode cX4_mean 4 = .ok (.invokestatic 57, 3) := by decide +kernel
theorem dX4_mean_7 : decode cX4_mean 7 = .ok (.istore_n 3, 1) := by decide +kernel
theorem dX4_mean_8 : decode cX4_mean 8 = .ok (.iload_n 3, 1) := by decide +kernel
theorem dX4_mean_9 : decode cX4_mean 9 = .ok (.ifCond .eq 9, 3) := by decide +kernel
theorem dX4_mean_12 : decode cX4_mean 12 = .ok (.aload_n 0, 1) := by decide +kernel
theorem dX4_mean_13 : decode cX4_mean 13 = .ok (.iload_n 3, 1) := by decide +kernel
theorem dX4_mean_14 : decode cX4_mean 14 = .ok (.invokevirtual 61, 3) := by decide +kernel
theorem dX4_mean_17 : decode cX4_mean 17 = .ok (.ireturn, 1) := by decide +kernel
theorem dX4_mean_18 : decode cX4_mean 18 = .ok (.iload_n 2, 1) := by decide +kernel
theorem dX4_mean_19 : decode cX4_mean 19 = .ok (.invokestatic 153, 3) := by decide +kernel
theorem dX4_mean_22 : decode cX4_mean 22 = .ok (.ifCond .eq 10, 3) := by decide +kernel
theorem dX4_mean_25 : decode cX4_mean 25 = .ok (.aload_n 0, 1) := by decide +kernel
theorem dX4_mean_26 : decode cX4_mean 26 = .ok (.bipush (-2), 2) := by decide +kernel
theorem dX4_mean_28 : decode cX4_mean 28 = .ok (.invokevirtual 61, 3) := by decide +kernel
theorem dX4_mean_31 : decode cX4_mean 31 = .ok (.ireturn, 1) := by decide +kernel
theorem dX4_mean_32 : decode cX4_mean 32 = .ok (.aload_n 0, 1) := by decide +kernel
theorem dX4_mean_33 : decode cX4_mean 33 = .ok (.iload_n 1, 1) := by decide +kernel
theorem dX4_mean_34 : decode cX4_mean 34 = .ok (.invokevirtual 190, 3) := by decide +kernel
theorem dX4_mean_37 : decode cX4_mean 37 = .ok (.iload_n 2, 1) := by decide +kernel
theorem dX4_mean_38 : decode cX4_mean 38 = .ok (.iconst 1, 1) := by decide +kernel
theorem dX4_mean_39 : decode cX4_mean 39 = .ok (.if_icmp .ne 27, 3) := by decide +kernel
theorem dX4_mean_42 : decode cX4_mean 42 = .ok (.aload_n 0, 1) := by decide +kernel
theorem dX4_mean_43 : decode cX4_mean 43 = .ok (.getfield 16, 3) := by decide +kernel
theorem dX4_mean_46 : decode cX4_mean 46 = .ok (.invokevirtual 322, 3) := by decide +kernel
theorem dX4_mean_49 : decode cX4_mean 49 = .ok (.aload_n 0, 1) := by decide +kernel
theorem dX4_mean_50 : decode cX4_mean 50 = .ok (.getfield 16, 3) := by decide +kernel
theorem dX4_mean_53 : decode cX4_mean 53 = .ok (.getfield 136, 3) := by decide +kernel
theorem dX4_mean_56 : decode cX4_mean 56 = .ok (.aload_n 0, 1) := by decide +kernel
theorem dX4_mean_57 : decode cX4_mean 57 = .ok (.getfield 16, 3) := by decide +kernel
theorem dX4_mean_60 : decode cX4_mean 60 = .ok (.invokevirtual 205, 3) := by decide +kernel
theorem dX4_mean_63 : decode cX4_mean 63 = .ok (.iaload, 1) := by decide +kernel
theorem dX4_mean_64 : decode cX4_mean 64 = .ok (.isub, 1) := by decide +kernel
theorem dX4_mean_65 : decode cX4_mean 65 = .ok (.ireturn, 1) := by decide +kernel
theorem dX4_mean_66 : decode cX4_mean 66 = .ok (.aload_n 0, 1) := by decide +kernel
theorem dX4_mean_67 : decode cX4_mean 67 = .ok (.getfield 16, 3) := by decide +kernel
theorem dX4_mean_70 : decode cX4_mean 70 = .ok (.invokevirtual 325, 3) := by decide +kernel
theorem dX4_mean_73 : decode cX4_mean 73 = .ok (.iconst 1, 1) := by decide +kernel
theorem dX4_mean_74 : decode cX4_mean 74 = .ok (.aload_n 0, 1) := by decide +kernel
theorem dX4_mean_75 : decode cX4_mean 75 = .ok (.getfield 16, 3) := by decide +kernel
theorem dX4_mean_78 : decode cX4_mean 78 = .ok (.getfield 156, 3) := by decide +kernel
theorem dX4_mean_81 : decode cX4_mean 81 = .ok (.invokestatic 273, 3) := by decide +kernel
theorem dX4_mean_84 : decode cX4_mean 84 = .ok (.idiv, 1) := by decide +kernel
theorem dX4_mean_85 : decode cX4_mean 85 = .ok (.ireturn, 1) := by decide +kernel
theorem dX4_runs_0 : decode cX4_runs 0 = .ok (.iload_n 1, 1) := by decide +kernel
theorem dX4_runs_1 : decode cX4_runs 1 = .ok (.iconst 1, 1) := by decide +kernel
theorem dX4_runs_2 : decode cX4_runs 2 = .ok (.bipush 60, 2) := by decide +kernel
theorem dX4_runs_4 : decode cX4_runs 4 = .ok (.invokestatic 57, 3) := by decide +kernel
theorem dX4_runs_7 : decode cX4_runs 7 = .ok (.istore_n 3, 1) := by decide +kernel
theorem dX4_runs_8 : decode cX4_runs 8 = .ok (.iload_n 3, 1) := by decide +kernel
theorem dX4_runs_9 : decode cX4_runs 9 = .ok (.ifCond .eq 9, 3) := by decide +kernel
theorem dX4_runs_12 : decode cX4_runs 12 = .ok (.aload_n 0, 1) := by decide +kernel
theorem dX4_runs_13 : decode cX4_runs 13 = .ok (.iload_n 3, 1) := by decide +kernel
theorem dX4_runs_14 : decode cX4_runs 14 = .ok (.invokevirtual 61, 3) := by decide +kernel
theorem dX4_runs_17 : decode cX4_runs 17 = .ok (.ireturn, 1) := by decide +kernel
theorem dX4_runs_18 : decode cX4_runs 18 = .ok (.iload_n 2, 1) := by decide +kernel
theorem dX4_runs_19 : decode cX4_runs 19 = .ok (.invokestatic 153, 3) := by decide +kernel
theorem dX4_runs_22 : decode cX4_runs 22 = .ok (.ifCond .eq 10, 3) := by decide +kernel
theorem dX4_runs_25 : decode cX4_runs 25 = .ok (.aload_n 0, 1) := by decide +kernel
theorem dX4_runs_26 : decode cX4_runs 26 = .ok (.bipush (-2), 2) := by decide +kernel
theorem dX4_runs_28 : decode cX4_runs 28 = .ok (.invokevirtual 61, 3) := by decide +kernel
theorem dX4_runs_31 : decode cX4_runs 31 = .ok (.ireturn, 1) := by decide +kernel
theorem dX4_runs_32 : decode cX4_runs 32 = .ok (.iconst 0, 1) := by decide +kernel
theorem dX4_runs_33 : decode cX4_runs 33 = .ok (.istore 4, 2) := by decide +kernel
theorem dX4_runs_35 : decode cX4_runs 35 = .ok (.bipush (-9), 2) := by decide +kernel
theorem dX4_runs_37 : decode cX4_runs 37 = .ok (.istore 5, 2) := by decide +kernel
theorem dX4_runs_39 : decode cX4_runs 39 = .ok (.iconst 0, 1) := by decide +kernel
theorem dX4_runs_40 : decode cX4_runs 40 = .ok (.istore 6, 2) := by decide +kernel
theorem dX4_runs_42 : decode cX4_runs 42 = .ok (.iconst 0, 1) := by decide +kernel
theorem dX4_runs_43 : decode cX4_runs 43 = .ok (.istore 7, 2) := by decide +kernel
theorem dX4_runs_45 : decode cX4_runs 45 = .ok (.iload 7, 2) := by decide +kernel
theorem dX4_runs_47 : decode cX4_runs 47 = .ok (.aload_n 0, 1) := by decide +kernel
theorem dX4_runs_48 : decode cX4_runs 48 = .ok (.getfield 12, 3) := by decide +kernel
theorem dX4_runs_51 : decode cX4_runs 51 = .ok (.getfield 156, 3) := by decide +kernel
theorem dX4_runs_54 : decode cX4_runs 54 = .ok (.if_icmp .ge 52, 3) := by decide +kernel
theorem dX4_runs_57 : decode cX4_runs 57 = .ok (.aload_n 0, 1) := by decide +kernel
theorem dX4_runs_58 : decode cX4_runs 58 = .ok (.getfield 12, 3) := by decide +kernel
theorem dX4_runs_61 : decode cX4_runs 61 = .ok (.iload 7, 2) := by decide +kernel
theorem dX4_runs_63 : decode cX4_runs 63 = .ok (.iload_n 1, 1) := by decide +kernel
theorem dX4_runs_64 : decode cX4_runs 64 = .ok (.invokevirtual 196, 3) := by decide +kernel
theorem dX4_runs_67 : decode cX4_runs 67 = .ok (.ifCond .eq 10, 3) := by decide +kernel
theorem dX4_runs_70 : decode cX4_runs 70 = .ok (.iload 6, 2) := by decide +kernel
theorem dX4_runs_72 : decode cX4_runs 72 = .ok (.iconst 1, 1) := by decide +kernel
theorem dX4_runs_73 : decode cX4_runs 73 = .ok (.iadd, 1) := by decide +kernel
theorem dX4_runs_74 : decode cX4_runs 74 = .ok (.goto 4, 3) := by decide +kernel
theorem dX4_runs_77 : decode cX4_runs 77 = .ok (.iconst 0, 1) := by decide +kernel
theorem dX4_runs_78 : decode cX4_runs 78 = .ok (.istore 6, 2) := by decide +kernel
theorem dX4_runs_80 : decode cX4_runs 80 = .ok (.iload 6, 2) := by decide +kernel
theorem dX4_runs_82 : decode cX4_runs 82 = .ok (.iload 4, 2) := by decide +kernel
theorem dX4_runs_84 : decode cX4_runs 84 = .ok (.if_icmp .le 16, 3) := by decide +kernel
theorem dX4_runs_87 : decode cX4_runs 87 = .ok (.iload 6, 2) := by decide +kernel
theorem dX4_runs_89 : decode cX4_runs 89 = .ok (.istore 4, 2) := by decide +kernel
theorem dX4_runs_91 : decode cX4_runs 91 = .ok (.iload 7, 2) := by decide +kernel
theorem dX4_runs_93 : decode cX4_runs 93 = .ok (.iconst 1, 1) := by decide +kernel
theorem dX4_runs_94 : decode cX4_runs 94 = .ok (.iadd, 1) := by decide +kernel
theorem dX4_runs_95 : decode cX4_runs 95 = .ok (.iload 6, 2) := by decide +kernel
theorem dX4_runs_97 : decode cX4_runs 97 = .ok (.isub, 1) := by decide +kernel
theorem dX4_runs_98 : decode cX4_runs 98 = .ok (.istore 5, 2) := by decide +kernel
theorem dX4_runs_100 : decode cX4_runs 100 = .ok (.iinc 7 1, 3) := by decide +kernel
theorem dX4_runs_103 : decode cX4_runs 103 = .ok (.goto (-58), 3) := by decide +kernel
theorem dX4_runs_106 : decode cX4_runs 106 = .ok (.iload_n 2, 1) := by decide +kernel
theorem dX4_runs_107 : decode cX4_runs 107 = .ok (.ifCond .ne 8, 3) := by decide +kernel
theorem dX4_runs_110 : decode cX4_runs 110 = .ok (.iload 4, 2) := by decide +kernel
theorem dX4_runs_112 : decode cX4_runs 112 = .ok (.goto 5, 3) := by decide +kernel
theorem dX4_runs_115 : decode cX4_runs 115 = .ok (.iload 5, 2) := by decide +kernel
theorem dX4_runs_117 : decode cX4_runs 117 = .ok (.ireturn, 1) := by decide +kernel
theorem dX4_day_0 : decode cX4_day 0 = .ok (.aload_n 0, 1) := by decide +kernel
theorem dX4_day_1 : decode cX4_day 1 = .ok (.getfield 16, 3) := by decide +kernel
theorem dX4_day_4 : decode cX4_day 4 = .ok (.aload_n 0, 1) := by decide +kernel
theorem dX4_day_5 : decode cX4_day 5 = .ok (.getfield 12, 3) := by decide +kernel
theorem dX4_day_8 : decode cX4_day 8 = .ok (.invokevirtual 79, 3) := by decide +kernel
theorem dX4_day_11 : decode cX4_day 11 = .ok (.aload_n 0, 1) := by decide +kernel
theorem dX4_day_12 : decode cX4_day 12 = .ok (.getfield 16, 3) := by decide +kernel
theorem dX4_day_15 : decode cX4_day 15 = .ok (.iconst 0, 1) := by decide +kernel
theorem dX4_day_16 : decode cX4_day 16 = .ok (.putfield 159, 3) := by decide +kernel
theorem dX4_day_19 : decode cX4_day 19 = .ok (.aload_n 0, 1) := by decide +kernel
theorem dX4_day_20 : decode cX4_day 20 = .ok (.getfield 16, 3) := by decide +kernel
theorem dX4_day_23 : decode cX4_day 23 = .ok (.bipush 24, 2) := by decide +kernel
theorem dX4_day_25 : decode cX4_day 25 = .ok (.invokevirtual 124, 3) := by decide +kernel
theorem dX4_day_28 : decode cX4_day 28 = .ok (.aload_n 0, 1) := by decide +kernel
theorem dX4_day_29 : decode cX4_day 29 = .ok (.getfield 16, 3) := by decide +kernel
theorem dX4_day_32 : decode cX4_day 32 = .ok (.invokevirtual 325, 3) := by decide +kernel
theorem dX4_day_35 : decode cX4_day 35 = .ok (.aload_n 0, 1) := by decide +kernel
theorem dX4_day_36 : decode cX4_day 36 = .ok (.getfield 12, 3) := by decide +kernel
theorem dX4_day_39 : decode cX4_day 39 = .ok (.invokevirtual 325, 3) := by decide +kernel
theorem dX4_day_42 : decode cX4_day 42 = .ok (.isub, 1) := by decide +kernel
theorem dX4_day_43 : decode cX4_day 43 = .ok (.ireturn, 1) := by decide +kernel
theorem dX4_stands_0 : decode cX4_stands 0 = .ok (.aload_n 0, 1) := by decide +kernel
theorem dX4_stands_1 : decode cX4_stands 1 = .ok (.iload_n 1, 1) := by decide +kernel
theorem dX4_stands_2 : decode cX4_stands 2 = .ok (.invokevirtual 162, 3) := by decide +kernel
theorem dX4_stands_5 : decode cX4_stands 5 = .ok (.ifCond .eq 9, 3) := by decide +kernel
theorem dX4_stands_8 : decode cX4_stands 8 = .ok (.aload_n 0, 1) := by decide +kernel
theorem dX4_stands_9 : decode cX4_stands 9 = .ok (.iconst (-1), 1) := by decide +kernel
theorem dX4_stands_10 : decode cX4_stands 10 = .ok (.invokevirtual 61, 3) := by decide +kernel
theorem dX4_stands_13 : decode cX4_stands 13 = .ok (.ireturn, 1) := by decide +kernel
theorem dX4_stands_14 : decode cX4_stands 14 = .ok (.aload_n 0, 1) := by decide +kernel
theorem dX4_stands_15 : decode cX4_stands 15 = .ok (.getfield 16, 3) := by decide +kernel
theorem dX4_stands_18 : decode cX4_stands 18 = .ok (.aload_n 0, 1) := by decide +kernel
theorem dX4_stands_19 : decode cX4_stands 19 = .ok (.getfield 12, 3) := by decide +kernel
theorem dX4_stands_22 : decode cX4_stands 22 = .ok (.invokevirtual 79, 3) := by decide +kernel
theorem dX4_stands_25 : decode cX4_stands 25 = .ok (.aload_n 0, 1) := by decide +kernel
theorem dX4_stands_26 : decode cX4_stands 26 = .ok (.getfield 16, 3) := by decide +kernel
theorem dX4_stands_29 : decode cX4_stands 29 = .ok (.invokevirtual 199, 3) := by decide +kernel
theorem dX4_stands_32 : decode cX4_stands 32 = .ok (.iconst 0, 1) := by decide +kernel
theorem dX4_stands_33 : decode cX4_stands 33 = .ok (.istore_n 2, 1) := by decide +kernel
theorem dX4_stands_34 : decode cX4_stands 34 = .ok (.iconst 0, 1) := by decide +kernel
theorem dX4_stands_35 : decode cX4_stands 35 = .ok (.istore_n 3, 1) := by decide +kernel
theorem dX4_stands_36 : decode cX4_stands 36 = .ok (.iload_n 3, 1) := by decide +kernel
theorem dX4_stands_37 : decode cX4_stands 37 = .ok (.bipush 72, 2) := by decide +kernel
theorem dX4_stands_39 : decode cX4_stands 39 = .ok (.if_icmp .ge 93, 3) := by decide +kernel
theorem dX4_stands_42 : decode cX4_stands 42 = .ok (.aload_n 0, 1) := by decide +kernel
theorem dX4_stands_43 : decode cX4_stands 43 = .ok (.getfield 16, 3) := by decide +kernel
theorem dX4_stands_46 : decode cX4_stands 46 = .ok (.getfield 180, 3) := by decide +kernel
theorem dX4_stands_49 : decode cX4_stands 49 = .ok (.iload_n 1, 1) := by decide +kernel
theorem dX4_stands_50 : decode cX4_stands 50 = .ok (.iaload, 1) := by decide +kernel
theorem dX4_stands_51 : decode cX4_stands 51 = .ok (.ifCond .ne 81, 3) := by decide +kernel
theorem dX4_stands_54 : decode cX4_stands 54 = .ok (.aload_n 0, 1) := by decide +kernel
theorem dX4_stands_55 : decode cX4_stands 55 = .ok (.getfield 16, 3) := by decide +kernel
theorem dX4_stands_58 : decode cX4_stands 58 = .ok (.getfield 177, 3) := by decide +kernel
theorem dX4_stands_61 : decode cX4_stands 61 = .ok (.iload_n 1, 1) := by decide +kernel
theorem dX4_stands_62 : decode cX4_stands 62 = .ok (.iaload, 1) := by decide +kernel
theorem dX4_stands_63 : decode cX4_stands 63 = .ok (.ifCond .le 7, 3) := by decide +kernel
theorem dX4_stands_66 : decode cX4_stands 66 = .ok (.iconst 1, 1) := by decide +kernel
theorem dX4_stands_67 : decode cX4_stands 67 = .ok (.goto 4, 3) := by decide +kernel
theorem dX4_stands_70 : decode cX4_stands 70 = .ok (.iconst 0, 1) := by decide +kernel
theorem dX4_stands_71 : decode cX4_stands 71 = .ok (.istore 4, 2) := by decide +kernel
theorem dX4_stands_73 : decode cX4_stands 73 = .ok (.aload_n 0, 1) := by decide +kernel
theorem dX4_stands_74 : decode cX4_stands 74 = .ok (.getfield 16, 3) := by decide +kernel
theorem dX4_stands_77 : decode cX4_stands 77 = .ok (.getfield 174, 3) := by decide +kernel
theorem dX4_stands_80 : decode cX4_stands 80 = .ok (.iload_n 1, 1) := by decide +kernel
theorem dX4_stands_81 : decode cX4_stands 81 = .ok (.iaload, 1) := by decide +kernel
theorem dX4_stands_82 : decode cX4_stands 82 = .ok (.istore 5, 2) := by decide +kernel
theorem dX4_stands_84 : decode cX4_stands 84 = .ok (.aload_n 0, 1) := by decide +kernel
theorem dX4_stands_85 : decode cX4_stands 85 = .ok (.getfield 16, 3) := by decide +kernel
theorem dX4_stands_88 : decode cX4_stands 88 = .ok (.invokevirtual 202, 3) := by decide +kernel
theorem dX4_stands_91 : decode cX4_stands 91 = .ok (.iload 4, 2) := by decide +kernel
theorem dX4_stands_93 : decode cX4_stands 93 = .ok (.ifCond .ne 33, 3) := by decide +kernel
theorem dX4_stands_96 : decode cX4_stands 96 = .ok (.aload_n 0, 1) := by decide +kernel
theorem dX4_stands_97 : decode cX4_stands 97 = .ok (.getfield 16, 3) := by decide +kernel
theorem dX4_stands_100 : decode cX4_stands 100 = .ok (.getfield 180, 3) := by decide +kernel
theorem dX4_stands_103 : decode cX4_stands 103 = .ok (.iload_n 1, 1) := by decide +kernel
theorem dX4_stands_104 : decode cX4_stands 104 = .ok (.iaload, 1) := by decide +kernel
theorem dX4_stands_105 : decode cX4_stands 105 = .ok (.iconst 1, 1) := by decide +kernel
theorem dX4_stands_106 : decode cX4_stands 106 = .ok (.if_icmp .eq 20, 3) := by decide +kernel
theorem dX4_stands_109 : decode cX4_stands 109 = .ok (.aload_n 0, 1) := by decide +kernel
theorem dX4_stands_110 : decode cX4_stands 110 = .ok (.getfield 16, 3) := by decide +kernel
theorem dX4_stands_113 : decode cX4_stands 113 = .ok (.getfield 174, 3) := by decide +kernel
theorem dX4_stands_116 : decode cX4_stands 116 = .ok (.iload_n 1, 1) := by decide +kernel
theorem dX4_stands_117 : decode cX4_stands 117 = .ok (.iaload, 1) := by decide +kernel
theorem dX4_stands_118 : decode cX4_stands 118 = .ok (.iload 5, 2) := by decide +kernel
theorem dX4_stands_120 : decode cX4_stands 120 = .ok (.if_icmp .ne 6, 3) := by decide +kernel
theorem dX4_stands_123 : decode cX4_stands 123 = .ok (.iinc 2 1, 3) := by decide +kernel
theorem dX4_stands_126 : decode cX4_stands 126 = .ok (.iinc 3 1, 3) := by decide +kernel
theorem dX4_stands_129 : decode cX4_stands 129 = .ok (.goto (-93), 3) := by decide +kernel
theorem dX4_stands_132 : decode cX4_stands 132 = .ok (.iload_n 2, 1) := by decide +kernel
theorem dX4_stands_133 : decode cX4_stands 133 = .ok (.ireturn, 1) := by decide +kernel
theorem dX4_row_0 : decode cX4_row 0 = .ok (.iload_n 1, 1) := by decide +kernel
theorem dX4_row_1 : decode cX4_row 1 = .ok (.iconst 0, 1) := by decide +kernel
theorem dX4_row_2 : decode cX4_row 2 = .ok (.bipush 99, 2) := by decide +kernel
theorem dX4_row_4 : decode cX4_row 4 = .ok (.invokestatic 57, 3) := by decide +kernel
theorem dX4_row_7 : decode cX4_row 7 = .ok (.istore_n 2, 1) := by decide +kernel
theorem dX4_row_8 : decode cX4_row 8 = .ok (.iload_n 2, 1) := by decide +kernel
theorem dX4_row_9 : decode cX4_row 9 = .ok (.ifCond .eq 9, 3) := by decide +kernel
theorem dX4_row_12 : decode cX4_row 12 = .ok (.aload_n 0, 1) := by decide +kernel
theorem dX4_row_13 : decode cX4_row 13 = .ok (.iload_n 2, 1) := by decide +kernel
theorem dX4_row_14 : decode cX4_row 14 = .ok (.invokevirtual 61, 3) := by decide +kernel
theorem dX4_row_17 : decode cX4_row 17 = .ok (.ireturn, 1) := by decide +kernel
theorem dX4_row_18 : decode cX4_row 18 = .ok (.aload_n 0, 1) := by decide +kernel
theorem dX4_row_19 : decode cX4_row 19 = .ok (.getfield 44, 3) := by decide +kernel
theorem dX4_row_22 : decode cX4_row 22 = .ok (.bipush 16, 2) := by decide +kernel
theorem dX4_row_24 : decode cX4_row 24 = .ok (.if_icmp .lt 10, 3) := by decide +kernel
theorem dX4_row_27 : decode cX4_row 27 = .ok (.aload_n 0, 1) := by decide +kernel
theorem dX4_row_28 : decode cX4_row 28 = .ok (.bipush (-6), 2) := by decide +kernel
theorem dX4_row_30 : decode cX4_row 30 = .ok (.invokevirtual 61, 3) := by decide +kernel
theorem dX4_row_33 : decode cX4_row 33 = .ok (.ireturn, 1) := by decide +kernel
theorem dX4_row_34 : decode cX4_row 34 = .ok (.aload_n 0, 1) := by decide +kernel
theorem dX4_row_35 : decode cX4_row 35 = .ok (.getfield 40, 3) := by decide +kernel
theorem dX4_row_38 : decode cX4_row 38 = .ok (.aload_n 0, 1) := by decide +kernel
theorem dX4_row_39 : decode cX4_row 39 = .ok (.getfield 44, 3) := by decide +kernel
theorem dX4_row_42 : decode cX4_row 42 = .ok (.iload_n 1, 1) := by decide +kernel
theorem dX4_row_43 : decode cX4_row 43 = .ok (.iastore, 1) := by decide +kernel
theorem dX4_row_44 : decode cX4_row 44 = .ok (.aload_n 0, 1) := by decide +kernel
theorem dX4_row_45 : decode cX4_row 45 = .ok (.dup, 1) := by decide +kernel
theorem dX4_row_46 : decode cX4_row 46 = .ok (.getfield 44, 3) := by decide +kernel
theorem dX4_row_49 : decode cX4_row 49 = .ok (.iconst 1, 1) := by decide +kernel
theorem dX4_row_50 : decode cX4_row 50 = .ok (.iadd, 1) := by decide +kernel
theorem dX4_row_51 : decode cX4_row 51 = .ok (.putfield 44, 3) := by decide +kernel
theorem dX4_row_54 : decode cX4_row 54 = .ok (.aload_n 0, 1) := by decide +kernel
theorem dX4_row_55 : decode cX4_row 55 = .ok (.getfield 44, 3) := by decide +kernel
theorem dX4_row_58 : decode cX4_row 58 = .ok (.ireturn, 1) := by decide +kernel
theorem dX4_judge_0 : decode cX4_judge 0 = .ok (.iload_n 1, 1) := by decide +kernel
theorem dX4_judge_1 : decode cX4_judge 1 = .ok (.iconst 0, 1) := by decide +kernel
theorem dX4_judge_2 : decode cX4_judge 2 = .ok (.bipush 72, 2) := by decide +kernel
theorem dX4_judge_4 : decode cX4_judge 4 = .ok (.invokestatic 57, 3) := by decide +kernel
theorem dX4_judge_7 : decode cX4_judge 7 = .ok (.istore_n 2, 1) := by decide +kernel
theorem dX4_judge_8 : decode cX4_judge 8 = .ok (.iload_n 2, 1) := by decide +kernel
theorem dX4_judge_9 : decode cX4_judge 9 = .ok (.ifCond .eq 9, 3) := by decide +kernel
theorem dX4_judge_12 : decode cX4_judge 12 = .ok (.aload_n 0, 1) := by decide +kernel
theorem dX4_judge_13 : decode cX4_judge 13 = .ok (.iload_n 2, 1) := by decide +kernel
theorem dX4_judge_14 : decode cX4_judge 14 = .ok (.invokevirtual 61, 3) := by decide +kernel
theorem dX4_judge_17 : decode cX4_judge 17 = .ok (.ireturn, 1) := by decide +kernel
theorem dX4_judge_18 : decode cX4_judge 18 = .ok (.aload_n 0, 1) := by decide +kernel
theorem dX4_judge_19 : decode cX4_judge 19 = .ok (.iload_n 1, 1) := by decide +kernel
theorem dX4_judge_20 : decode cX4_judge 20 = .ok (.invokevirtual 190, 3) := by decide +kernel
theorem dX4_judge_23 : decode cX4_judge 23 = .ok (.bipush (-9), 2) := by decide +kernel
theorem dX4_judge_25 : decode cX4_judge 25 = .ok (.istore_n 3, 1) := by decide +kernel
theorem dX4_judge_26 : decode cX4_judge 26 = .ok (.iconst 0, 1) := by decide +kernel
theorem dX4_judge_27 : decode cX4_judge 27 = .ok (.istore 4, 2) := by decide +kernel
theorem dX4_judge_29 : decode cX4_judge 29 = .ok (.iload 4, 2) := by decide +kernel
theorem dX4_judge_31 : decode cX4_judge 31 = .ok (.aload_n 0, 1) := by decide +kernel
theorem dX4_judge_32 : decode cX4_judge 32 = .ok (.getfield 44, 3) := by decide +kernel
theorem dX4_judge_35 : decode cX4_judge 35 = .ok (.if_icmp .ge 50, 3) := by decide +kernel
theorem dX4_judge_38 : decode cX4_judge 38 = .ok (.iload_n 3, 1) := by decide +kernel
theorem dX4_judge_39 : decode cX4_judge 39 = .ok (.bipush (-9), 2) := by decide +kernel
theorem dX4_judge_41 : decode cX4_judge 41 = .ok (.if_icmp .ne 44, 3) := by decide +kernel
theorem dX4_judge_44 : decode cX4_judge 44 = .ok (.iload 4, 2) := by decide +kernel
theorem dX4_judge_46 : decode cX4_judge 46 = .ok (.aload_n 0, 1) := by decide +kernel
theorem dX4_judge_47 : decode cX4_judge 47 = .ok (.getfield 16, 3) := by decide +kernel
theorem dX4_judge_50 : decode cX4_judge 50 = .ok (.getfield 156, 3) := by decide +kernel
theorem dX4_judge_53 : decode cX4_judge 53 = .ok (.if_icmp .ge 23, 3) := by decide +kernel
theorem dX4_judge_56 : decode cX4_judge 56 = .ok (.aload_n 0, 1) := by decide +kernel
theorem dX4_judge_57 : decode cX4_judge 57 = .ok (.getfield 16, 3) := by decide +kernel
theorem dX4_judge_60 : decode cX4_judge 60 = .ok (.getfield 136, 3) := by decide +kernel
theorem dX4_judge_63 : decode cX4_judge 63 = .ok (.iload 4, 2) := by decide +kernel
theorem dX4_judge_65 : decode cX4_judge 65 = .ok (.iaload, 1) := by decide +kernel
theorem dX4_judge_66 : decode cX4_judge 66 = .ok (.aload_n 0, 1) := by decide +kernel
theorem dX4_judge_67 : decode cX4_judge 67 = .ok (.getfield 40, 3) := by decide +kernel
theorem dX4_judge_70 : decode cX4_judge 70 = .ok (.iload 4, 2) := by decide +kernel
theorem dX4_judge_72 : decode cX4_judge 72 = .ok (.iaload, 1) := by decide +kernel
theorem dX4_judge_73 : decode cX4_judge 73 = .ok (.if_icmp .eq 6, 3) := by decide +kernel
theorem dX4_judge_76 : decode cX4_judge 76 = .ok (.iload 4, 2) := by decide +kernel
theorem dX4_judge_78 : decode cX4_judge 78 = .ok (.istore_n 3, 1) := by decide +kernel
theorem dX4_judge_79 : decode cX4_judge 79 = .ok (.iinc 4 1, 3) := by decide +kernel
theorem dX4_judge_82 : decode cX4_judge 82 = .ok (.goto (-53), 3) := by decide +kernel
theorem dX4_judge_85 : decode cX4_judge 85 = .ok (.aload_n 0, 1) := by decide +kernel
theorem dX4_judge_86 : decode cX4_judge 86 = .ok (.iconst 0, 1) := by decide +kernel
theorem dX4_judge_87 : decode cX4_judge 87 = .ok (.putfield 44, 3) := by decide +kernel
theorem dX4_judge_90 : decode cX4_judge 90 = .ok (.iload_n 3, 1) := by decide +kernel
theorem dX4_judge_91 : decode cX4_judge 91 = .ok (.ireturn, 1) := by decide +kernel
theorem dX4_clear_0 : decode cX4_clear 0 = .ok (.aload_n 0, 1) := by decide +kernel
theorem dX4_clear_1 : decode cX4_clear 1 = .ok (.getfield 44, 3) := by decide +kernel
theorem dX4_clear_4 : decode cX4_clear 4 = .ok (.istore_n 1, 1) := by decide +kernel
theorem dX4_clear_5 : decode cX4_clear 5 = .ok (.aload_n 0, 1) := by decide +kernel
theorem dX4_clear_6 : decode cX4_clear 6 = .ok (.iconst 0, 1) := by decide +kernel
theorem dX4_clear_7 : decode cX4_clear 7 = .ok (.putfield 44, 3) := by decide +kernel
theorem dX4_clear_10 : decode cX4_clear 10 = .ok (.iload_n 1, 1) := by decide +kernel
theorem dX4_clear_11 : decode cX4_clear 11 = .ok (.ireturn, 1) := by decide +kernel
theorem dX4_lots_0 : decode cX4_lots 0 = .ok (.iload_n 1, 1) := by decide +kernel
theorem dX4_lots_1 : decode cX4_lots 1 = .ok (.iconst 1, 1) := by decide +kernel
theorem dX4_lots_2 : decode cX4_lots 2 = .ok (.bipush 20, 2) := by decide +kernel
theorem dX4_lots_4 : decode cX4_lots 4 = .ok (.invokestatic 57, 3) := by decide +kernel
theorem dX4_lots_7 : decode cX4_lots 7 = .ok (.istore 4, 2) := by decide +kernel
theorem dX4_lots_9 : decode cX4_lots 9 = .ok (.iload 4, 2) := by decide +kernel
theorem dX4_lots_11 : decode cX4_lots 11 = .ok (.ifCond .eq 10, 3) := by decide +kernel
theorem dX4_lots_14 : decode cX4_lots 14 = .ok (.aload_n 0, 1) := by decide +kernel
theorem dX4_lots_15 : decode cX4_lots 15 = .ok (.iload 4, 2) := by decide +kernel
theorem dX4_lots_17 : decode cX4_lots 17 = .ok (.invokevirtual 61, 3) := by decide +kernel
theorem dX4_lots_20 : decode cX4_lots 20 = .ok (.ireturn, 1) := by decide +kernel
theorem dX4_lots_21 : decode cX4_lots 21 = .ok (.iload_n 3, 1) := by decide +kernel
theorem dX4_lots_22 : decode cX4_lots 22 = .ok (.invokestatic 153, 3) := by decide +kernel
theorem dX4_lots_25 : decode cX4_lots 25 = .ok (.ifCond .eq 10, 3) := by decide +kernel
theorem dX4_lots_28 : decode cX4_lots 28 = .ok (.aload_n 0, 1) := by decide +kernel
theorem dX4_lots_29 : decode cX4_lots 29 = .ok (.bipush (-2), 2) := by decide +kernel
theorem dX4_lots_31 : decode cX4_lots 31 = .ok (.invokevirtual 61, 3) := by decide +kernel
theorem dX4_lots_34 : decode cX4_lots 34 = .ok (.ireturn, 1) := by decide +kernel
theorem dX4_lots_35 : decode cX4_lots 35 = .ok (.iload_n 2, 1) := by decide +kernel
theorem dX4_lots_36 : decode cX4_lots 36 = .ok (.istore 5, 2) := by decide +kernel
theorem dX4_lots_38 : decode cX4_lots 38 = .ok (.iconst 0, 1) := by decide +kernel
theorem dX4_lots_39 : decode cX4_lots 39 = .ok (.istore 6, 2) := by decide +kernel
theorem dX4_lots_41 : decode cX4_lots 41 = .ok (.iconst 0, 1) := by decide +kernel
theorem dX4_lots_42 : decode cX4_lots 42 = .ok (.istore 7, 2) := by decide +kernel
theorem dX4_lots_44 : decode cX4_lots 44 = .ok (.iload 7, 2) := by decide +kernel
theorem dX4_lots_46 : decode cX4_lots 46 = .ok (.iload_n 1, 1) := by decide +kernel
theorem dX4_lots_47 : decode cX4_lots 47 = .ok (.if_icmp .ge 92, 3) := by decide +kernel
theorem dX4_lots_50 : decode cX4_lots 50 = .ok (.aload_n 0, 1) := by decide +kernel
theorem dX4_lots_51 : decode cX4_lots 51 = .ok (.getfield 16, 3) := by decide +kernel
theorem dX4_lots_54 : decode cX4_lots 54 = .ok (.aload_n 0, 1) := by decide +kernel
theorem dX4_lots_55 : decode cX4_lots 55 = .ok (.getfield 12, 3) := by decide +kernel
theorem dX4_lots_58 : decode cX4_lots 58 = .ok (.invokevirtual 79, 3) := by decide +kernel
theorem dX4_lots_61 : decode cX4_lots 61 = .ok (.iload 5, 2) := by decide +kernel
theorem dX4_lots_63 : decode cX4_lots 63 = .ok (.invokestatic 328, 3) := by decide +kernel
theorem dX4_lots_66 : decode cX4_lots 66 = .ok (.istore 5, 2) := by decide +kernel
theorem dX4_lots_68 : decode cX4_lots 68 = .ok (.aload_n 0, 1) := by decide +kernel
theorem dX4_lots_69 : decode cX4_lots 69 = .ok (.getfield 16, 3) := by decide +kernel
theorem dX4_lots_72 : decode cX4_lots 72 = .ok (.iload 5, 2) := by decide +kernel
theorem dX4_lots_74 : decode cX4_lots 74 = .ok (.bipush 10, 2) := by decide +kernel
theorem dX4_lots_76 : decode cX4_lots 76 = .ok (.invokestatic 331, 3) := by decide +kernel
theorem dX4_lots_79 : decode cX4_lots 79 = .ok (.putfield 115, 3) := by decide +kernel
theorem dX4_lots_82 : decode cX4_lots 82 = .ok (.iload 5, 2) := by decide +kernel
theorem dX4_lots_84 : decode cX4_lots 84 = .ok (.invokestatic 328, 3) := by decide +kernel
theorem dX4_lots_87 : decode cX4_lots 87 = .ok (.istore 5, 2) := by decide +kernel
theorem dX4_lots_89 : decode cX4_lots 89 = .ok (.aload_n 0, 1) := by decide +kernel
theorem dX4_lots_90 : decode cX4_lots 90 = .ok (.getfield 16, 3) := by decide +kernel
theorem dX4_lots_93 : decode cX4_lots 93 = .ok (.iload 5, 2) := by decide +kernel
theorem dX4_lots_95 : decode cX4_lots 95 = .ok (.bipush 10, 2) := by decide +kernel
theorem dX4_lots_97 : decode cX4_lots 97 = .ok (.invokestatic 331, 3) := by decide +kernel
theorem dX4_lots_100 : decode cX4_lots 100 = .ok (.putfield 118, 3) := by decide +kernel
theorem dX4_lots_103 : decode cX4_lots 103 = .ok (.aload_n 0, 1) := by decide +kernel
theorem dX4_lots_104 : decode cX4_lots 104 = .ok (.getfield 16, 3) := by decide +kernel
theorem dX4_lots_107 : decode cX4_lots 107 = .ok (.bipush 48, 2) := by decide +kernel
theorem dX4_lots_109 : decode cX4_lots 109 = .ok (.invokevirtual 334, 3) := by decide +kernel
theorem dX4_lots_112 : decode cX4_lots 112 = .ok (.iload 6, 2) := by decide +kernel
theorem dX4_lots_114 : decode cX4_lots 114 = .ok (.aload_n 0, 1) := by decide +kernel
theorem dX4_lots_115 : decode cX4_lots 115 = .ok (.getfield 16, 3) := by decide +kernel
theorem dX4_lots_118 : decode cX4_lots 118 = .ok (.iload_n 3, 1) := by decide +kernel
theorem dX4_lots_119 : decode cX4_lots 119 = .ok (.ifCond .ne 7, 3) := by decide +kernel
theorem dX4_lots_122 : decode cX4_lots 122 = .ok (.iconst 1, 1) := by decide +kernel
theorem dX4_lots_123 : decode cX4_lots 123 = .ok (.goto 4, 3) := by decide +kernel
theorem dX4_lots_126 : decode cX4_lots 126 = .ok (.iconst 2, 1) := by decide +kernel
theorem dX4_lots_127 : decode cX4_lots 127 = .ok (.invokevirtual 183, 3) := by decide +kernel
theorem dX4_lots_130 : decode cX4_lots 130 = .ok (.iadd, 1) := by decide +kernel
theorem dX4_lots_131 : decode cX4_lots 131 = .ok (.istore 6, 2) := by decide +kernel
theorem dX4_lots_133 : decode cX4_lots 133 = .ok (.iinc 7 1, 3) := by decide +kernel
theorem dX4_lots_136 : decode cX4_lots 136 = .ok (.goto (-92), 3) := by decide +kernel
theorem dX4_lots_139 : decode cX4_lots 139 = .ok (.iload 6, 2) := by decide +kernel
theorem dX4_lots_141 : decode cX4_lots 141 = .ok (.ireturn, 1) := by decide +kernel
theorem dX4_nextSeed_0 : decode cX4_nextSeed 0 = .ok (.iload_n 0, 1) := by decide +kernel
theorem dX4_nextSeed_1 : decode cX4_nextSeed 1 = .ok (.ldc_w 337, 3) := by decide +kernel
theorem dX4_nextSeed_4 : decode cX4_nextSeed 4 = .ok (.imul, 1) := by decide +kernel
theorem dX4_nextSeed_5 : decode cX4_nextSeed 5 = .ok (.sipush 12345, 3) := by decide +kernel
theorem dX4_nextSeed_8 : decode cX4_nextSeed 8 = .ok (.iadd, 1) := by decide +kernel
theorem dX4_nextSeed_9 : decode cX4_nextSeed 9 = .ok (.ireturn, 1) := by decide +kernel
theorem dX4_drawn_0 : decode cX4_drawn 0 = .ok (.iload_n 0, 1) := by decide +kernel
theorem dX4_drawn_1 : decode cX4_drawn 1 = .ok (.ldc_w 338, 3) := by decide +kernel
theorem dX4_drawn_4 : decode cX4_drawn 4 = .ok (.iand, 1) := by decide +kernel
theorem dX4_drawn_5 : decode cX4_drawn 5 = .ok (.ldc_w 339, 3) := by decide +kernel
theorem dX4_drawn_8 : decode cX4_drawn 8 = .ok (.idiv, 1) := by decide +kernel
theorem dX4_drawn_9 : decode cX4_drawn 9 = .ok (.iconst 1, 1) := by decide +kernel
theorem dX4_drawn_10 : decode cX4_drawn 10 = .ok (.iload_n 1, 1) := by decide +kernel
theorem dX4_drawn_11 : decode cX4_drawn 11 = .ok (.invokestatic 273, 3) := by decide +kernel
theorem dX4_drawn_14 : decode cX4_drawn 14 = .ok (.irem, 1) := by decide +kernel
theorem dX4_drawn_15 : decode cX4_drawn 15 = .ok (.ireturn, 1) := by decide +kernel
theorem dX4_image_0 : decode cX4_image 0 = .ok (.aload_n 0, 1) := by decide +kernel
theorem dX4_image_1 : decode cX4_image 1 = .ok (.getfield 19, 3) := by decide +kernel
theorem dX4_image_4 : decode cX4_image 4 = .ok (.aload_n 0, 1) := by decide +kernel
theorem dX4_image_5 : decode cX4_image 5 = .ok (.getfield 12, 3) := by decide +kernel
theorem dX4_image_8 : decode cX4_image 8 = .ok (.invokevirtual 79, 3) := by decide +kernel
theorem dX4_image_11 : decode cX4_image 11 = .ok (.aload_n 0, 1) := by decide +kernel
theorem dX4_image_12 : decode cX4_image 12 = .ok (.iconst 1, 1) := by decide +kernel
theorem dX4_image_13 : decode cX4_image 13 = .ok (.putfield 22, 3) := by decide +kernel
theorem dX4_image_16 : decode cX4_image 16 = .ok (.aload_n 0, 1) := by decide +kernel
theorem dX4_image_17 : decode cX4_image 17 = .ok (.getfield 12, 3) := by decide +kernel
theorem dX4_image_20 : decode cX4_image 20 = .ok (.getfield 121, 3) := by decide +kernel
theorem dX4_image_23 : decode cX4_image 23 = .ok (.ireturn, 1) := by decide +kernel
theorem dX4_restore_0 : decode cX4_restore 0 = .ok (.aload_n 0, 1) := by decide +kernel
theorem dX4_restore_1 : decode cX4_restore 1 = .ok (.getfield 22, 3) := by decide +kernel
theorem dX4_restore_4 : decode cX4_restore 4 = .ok (.ifCond .ne 10, 3) := by decide +kernel
theorem dX4_restore_7 : decode cX4_restore 7 = .ok (.aload_n 0, 1) := by decide +kernel
theorem dX4_restore_8 : decode cX4_restore 8 = .ok (.bipush (-3), 2) := by decide +kernel
theorem dX4_restore_10 : decode cX4_restore 10 = .ok (.invokevirtual 61, 3) := by decide +kernel
theorem dX4_restore_13 : decode cX4_restore 13 = .ok (.ireturn, 1) := by decide +kernel
theorem dX4_restore_14 : decode cX4_restore 14 = .ok (.aload_n 0, 1) := by decide +kernel
theorem dX4_restore_15 : decode cX4_restore 15 = .ok (.getfield 12, 3) := by decide +kernel
theorem dX4_restore_18 : decode cX4_restore 18 = .ok (.aload_n 0, 1) := by decide +kernel
theorem dX4_restore_19 : decode cX4_restore 19 = .ok (.getfield 19, 3) := by decide +kernel
theorem dX4_restore_22 : decode cX4_restore 22 = .ok (.invokevirtual 79, 3) := by decide +kernel
theorem dX4_restore_25 : decode cX4_restore 25 = .ok (.aload_n 0, 1) := by decide +kernel
theorem dX4_restore_26 : decode cX4_restore 26 = .ok (.getfield 29, 3) := by decide +kernel
theorem dX4_restore_29 : decode cX4_restore 29 = .ok (.invokevirtual 90, 3) := by decide +kernel
theorem dX4_restore_32 : decode cX4_restore 32 = .ok (.aload_n 0, 1) := by decide +kernel
theorem dX4_restore_33 : decode cX4_restore 33 = .ok (.getfield 12, 3) := by decide +kernel
theorem dX4_restore_36 : decode cX4_restore 36 = .ok (.getfield 121, 3) := by decide +kernel
theorem dX4_restore_39 : decode cX4_restore 39 = .ok (.ireturn, 1) := by decide +kernel
theorem dX4_count_0 : decode cX4_count 0 = .ok (.iload_n 1, 1) := by decide +kernel
theorem dX4_count_1 : decode cX4_count 1 = .ok (.bipush 11, 2) := by decide +kernel
theorem dX4_count_3 : decode cX4_count 3 = .ok (.if_icmp .lt 19, 3) := by decide +kernel
theorem dX4_count_6 : decode cX4_count 6 = .ok (.iload_n 1, 1) := by decide +kernel
theorem dX4_count_7 : decode cX4_count 7 = .ok (.bipush 16, 2) := by decide +kernel
theorem dX4_count_9 : decode cX4_count 9 = .ok (.if_icmp .gt 13, 3) := by decide +kernel
theorem dX4_count_12 : decode cX4_count 12 = .ok (.aload_n 0, 1) := by decide +kernel
theorem dX4_count_13 : decode cX4_count 13 = .ok (.getfield 48, 3) := by decide +kernel
theorem dX4_count_16 : decode cX4_count 16 = .ok (.iload_n 1, 1) := by decide +kernel
theorem dX4_count_17 : decode cX4_count 17 = .ok (.bipush 10, 2) := by decide +kernel
theorem dX4_count_19 : decode cX4_count 19 = .ok (.isub, 1) := by decide +kernel
theorem dX4_count_20 : decode cX4_count 20 = .ok (.iaload, 1) := by decide +kernel
theorem dX4_count_21 : decode cX4_count 21 = .ok (.ireturn, 1) := by decide +kernel
theorem dX4_count_22 : decode cX4_count 22 = .ok (.iload_n 1, 1) := by decide +kernel
theorem dX4_count_23 : decode cX4_count 23 = .ok (.tableswitch 118 0 8 #[49, 57, 65, 73, 81, 89, 97, 105, 110], 49) := by decide +kernel
theorem dX4_count_72 : decode cX4_count 72 = .ok (.aload_n 0, 1) := by decide +kernel
theorem dX4_count_73 : decode cX4_count 73 = .ok (.getfield 12, 3) := by decide +kernel
theorem dX4_count_76 : decode cX4_count 76 = .ok (.getfield 156, 3) := by decide +kernel
theorem dX4_count_79 : decode cX4_count 79 = .ok (.ireturn, 1) := by decide +kernel
theorem dX4_count_80 : decode cX4_count 80 = .ok (.aload_n 0, 1) := by decide +kernel
theorem dX4_count_81 : decode cX4_count 81 = .ok (.getfield 12, 3) := by decide +kernel
theorem dX4_count_84 : decode cX4_count 84 = .ok (.getfield 159, 3) := by decide +kernel
theorem dX4_count_87 : decode cX4_count 87 = .ok (.ireturn, 1) := by decide +kernel
theorem dX4_count_88 : decode cX4_count 88 = .ok (.aload_n 0, 1) := by decide +kernel
theorem dX4_count_89 : decode cX4_count 89 = .ok (.getfield 12, 3) := by decide +kernel
theorem dX4_count_92 : decode cX4_count 92 = .ok (.getfield 121, 3) := by decide +kernel
theorem dX4_count_95 : decode cX4_count 95 = .ok (.ireturn, 1) := by decide +kernel
theorem dX4_count_96 : decode cX4_count 96 = .ok (.aload_n 0, 1) := by decide +kernel
theorem dX4_count_97 : decode cX4_count 97 = .ok (.getfield 12, 3) := by decide +kernel
theorem dX4_count_100 : decode cX4_count 100 = .ok (.getfield 115, 3) := by decide +kernel
theorem dX4_count_103 : decode cX4_count 103 = .ok (.ireturn, 1) := by decide +kernel
theorem dX4_count_104 : decode cX4_count 104 = .ok (.aload_n 0, 1) := by decide +kernel
theorem dX4_count_105 : decode cX4_count 105 = .ok (.getfield 12, 3) := by decide +kernel
theorem dX4_count_108 : decode cX4_count 108 = .ok (.getfield 118, 3) := by decide +kernel
theorem dX4_count_111 : decode cX4_count 111 = .ok (.ireturn, 1) := by decide +kernel
theorem dX4_count_112 : decode cX4_count 112 = .ok (.aload_n 0, 1) := by decide +kernel
theorem dX4_count_113 : decode cX4_count 113 = .ok (.getfield 12, 3) := by decide +kernel
theorem dX4_count_116 : decode cX4_count 116 = .ok (.invokevirtual 325, 3) := by decide +kernel
theorem dX4_count_119 : decode cX4_count 119 = .ok (.ireturn, 1) := by decide +kernel
theorem dX4_count_120 : decode cX4_count 120 = .ok (.aload_n 0, 1) := by decide +kernel
theorem dX4_count_121 : decode cX4_count 121 = .ok (.getfield 36, 3) := by decide +kernel
theorem dX4_count_124 : decode cX4_count 124 = .ok (.getfield 65, 3) := by decide +kernel
theorem dX4_count_127 : decode cX4_count 127 = .ok (.ireturn, 1) := by decide +kernel
theorem dX4_count_128 : decode cX4_count 128 = .ok (.aload_n 0, 1) := by decide +kernel
theorem dX4_count_129 : decode cX4_count 129 = .ok (.getfield 44, 3) := by decide +kernel
theorem dX4_count_132 : decode cX4_count 132 = .ok (.ireturn, 1) := by decide +kernel
theorem dX4_count_133 : decode cX4_count 133 = .ok (.aload_n 0, 1) := by decide +kernel
theorem dX4_count_134 : decode cX4_count 134 = .ok (.getfield 29, 3) := by decide +kernel
theorem dX4_count_137 : decode cX4_count 137 = .ok (.getfield 186, 3) := by decide +kernel
theorem dX4_count_140 : decode cX4_count 140 = .ok (.ireturn, 1) := by decide +kernel
theorem dX4_count_141 : decode cX4_count 141 = .ok (.bipush (-9), 2) := by decide +kernel
theorem dX4_count_143 : decode cX4_count 143 = .ok (.ireturn, 1) := by decide +kernel
theorem dX4_refuse_0 : decode cX4_refuse 0 = .ok (.iload_n 1, 1) := by decide +kernel
theorem dX4_refuse_1 : decode cX4_refuse 1 = .ok (.iconst (-1), 1) := by decide +kernel
theorem dX4_refuse_2 : decode cX4_refuse 2 = .ok (.if_icmp .gt 20, 3) := by decide +kernel
theorem dX4_refuse_5 : decode cX4_refuse 5 = .ok (.iload_n 1, 1) := by decide +kernel
theorem dX4_refuse_6 : decode cX4_refuse 6 = .ok (.bipush (-6), 2) := by decide +kernel
theorem dX4_refuse_8 : decode cX4_refuse 8 = .ok (.if_icmp .lt 14, 3) := by decide +kernel
theorem dX4_refuse_11 : decode cX4_refuse 11 = .ok (.aload_n 0, 1) := by decide +kernel
theorem dX4_refuse_12 : decode cX4_refuse 12 = .ok (.getfield 48, 3) := by decide +kernel
theorem dX4_refuse_15 : decode cX4_refuse 15 = .ok (.iload_n 1, 1) := by decide +kernel
theorem dX4_refuse_16 : decode cX4_refuse 16 = .ok (.ineg, 1) := by decide +kernel
theorem dX4_refuse_17 : decode cX4_refuse 17 = .ok (.dup2, 1) := by decide +kernel
theorem dX4_refuse_18 : decode cX4_refuse 18 = .ok (.iaload, 1) := by decide +kernel
theorem dX4_refuse_19 : decode cX4_refuse 19 = .ok (.iconst 1, 1) := by decide +kernel
theorem dX4_refuse_20 : decode cX4_refuse 20 = .ok (.iadd, 1) := by decide +kernel
theorem dX4_refuse_21 : decode cX4_refuse 21 = .ok (.iastore, 1) := by decide +kernel
theorem dX4_refuse_22 : decode cX4_refuse 22 = .ok (.iload_n 1, 1) := by decide +kernel
theorem dX4_refuse_23 : decode cX4_refuse 23 = .ok (.ireturn, 1) := by decide +kernel
theorem dX4_outside_0 : decode cX4_outside 0 = .ok (.iload_n 0, 1) := by decide +kernel
theorem dX4_outside_1 : decode cX4_outside 1 = .ok (.iload_n 1, 1) := by decide +kernel
theorem dX4_outside_2 : decode cX4_outside 2 = .ok (.if_icmp .ge 6, 3) := by decide +kernel
theorem dX4_outside_5 : decode cX4_outside 5 = .ok (.bipush (-4), 2) := by decide +kernel
theorem dX4_outside_7 : decode cX4_outside 7 = .ok (.ireturn, 1) := by decide +kernel
theorem dX4_outside_8 : decode cX4_outside 8 = .ok (.iload_n 0, 1) := by decide +kernel
theorem dX4_outside_9 : decode cX4_outside 9 = .ok (.iload_n 2, 1) := by decide +kernel
theorem dX4_outside_10 : decode cX4_outside 10 = .ok (.if_icmp .le 8, 3) := by decide +kernel
theorem dX4_outside_13 : decode cX4_outside 13 = .ok (.bipush (-6), 2) := by decide +kernel
theorem dX4_outside_15 : decode cX4_outside 15 = .ok (.goto 4, 3) := by decide +kernel
theorem dX4_outside_18 : decode cX4_outside 18 = .ok (.iconst 0, 1) := by decide +kernel
theorem dX4_outside_19 : decode cX4_outside 19 = .ok (.ireturn, 1) := by decide +kernel
theorem dX4_neither_0 : decode cX4_neither 0 = .ok (.iload_n 0, 1) := by decide +kernel
theorem dX4_neither_1 : decode cX4_neither 1 = .ok (.ifCond .eq 12, 3) := by decide +kernel
theorem dX4_neither_4 : decode cX4_neither 4 = .ok (.iload_n 0, 1) := by decide +kernel
theorem dX4_neither_5 : decode cX4_neither 5 = .ok (.iconst 1, 1) := by decide +kernel
theorem dX4_neither_6 : decode cX4_neither 6 = .ok (.if_icmp .eq 7, 3) := by decide +kernel
theorem dX4_neither_9 : decode cX4_neither 9 = .ok (.iconst 1, 1) := by decide +kernel
theorem dX4_neither_10 : decode cX4_neither 10 = .ok (.goto 4, 3) := by decide +kernel
theorem dX4_neither_13 : decode cX4_neither 13 = .ok (.iconst 0, 1) := by decide +kernel
theorem dX4_neither_14 : decode cX4_neither 14 = .ok (.ireturn, 1) := by decide +kernel
theorem dX4_noYard_0 : decode cX4_noYard 0 = .ok (.iload_n 1, 1) := by decide +kernel
theorem dX4_noYard_1 : decode cX4_noYard 1 = .ok (.ifCond .lt 14, 3) := by decide +kernel
theorem dX4_noYard_4 : decode cX4_noYard 4 = .ok (.iload_n 1, 1) := by decide +kernel
theorem dX4_noYard_5 : decode cX4_noYard 5 = .ok (.aload_n 0, 1) := by decide +kernel
theorem dX4_noYard_6 : decode cX4_noYard 6 = .ok (.getfield 12, 3) := by decide +kernel
theorem dX4_noYard_9 : decode cX4_noYard 9 = .ok (.getfield 156, 3) := by decide +kernel
theorem dX4_noYard_12 : decode cX4_noYard 12 = .ok (.if_icmp .lt 7, 3) := by decide +kernel
theorem dX4_noYard_15 : decode cX4_noYard 15 = .ok (.iconst 1, 1) := by decide +kernel
theorem dX4_noYard_16 : decode cX4_noYard 16 = .ok (.goto 4, 3) := by decide +kernel
theorem dX4_noYard_19 : decode cX4_noYard 19 = .ok (.iconst 0, 1) := by decide +kernel
theorem dX4_noYard_20 : decode cX4_noYard 20 = .ok (.ireturn, 1) := by decide +kernel
theorem dX4_noTrain_0 : decode cX4_noTrain 0 = .ok (.iload_n 1, 1) := by decide +kernel
theorem dX4_noTrain_1 : decode cX4_noTrain 1 = .ok (.ifCond .lt 14, 3) := by decide +kernel
theorem dX4_noTrain_4 : decode cX4_noTrain 4 = .ok (.iload_n 1, 1) := by decide +kernel
theorem dX4_noTrain_5 : decode cX4_noTrain 5 = .ok (.aload_n 0, 1) := by decide +kernel
theorem dX4_noTrain_6 : decode cX4_noTrain 6 = .ok (.getfield 12, 3) := by decide +kernel
theorem dX4_noTrain_9 : decode cX4_noTrain 9 = .ok (.getfield 159, 3) := by decide +kernel
theorem dX4_noTrain_12 : decode cX4_noTrain 12 = .ok (.if_icmp .lt 7, 3) := by decide +kernel
theorem dX4_noTrain_15 : decode cX4_noTrain 15 = .ok (.iconst 1, 1) := by decide +kernel
theorem dX4_noTrain_16 : decode cX4_noTrain 16 = .ok (.goto 4, 3) := by decide +kernel
theorem dX4_noTrain_19 : decode cX4_noTrain 19 = .ok (.iconst 0, 1) := by decide +kernel
theorem dX4_noTrain_20 : decode cX4_noTrain 20 = .ok (.ireturn, 1) := by decide +kernel
theorem dX4_notAhead_0 : decode cX4_notAhead 0 = .ok (.aload_n 0, 1) := by decide +kernel
theorem dX4_notAhead_1 : decode cX4_notAhead 1 = .ok (.iload_n 1, 1) := by decide +kernel
theorem dX4_notAhead_2 : decode cX4_notAhead 2 = .ok (.invokevirtual 162, 3) := by decide +kernel
theorem dX4_notAhead_5 : decode cX4_notAhead 5 = .ok (.ifCond .eq 5, 3) := by decide +kernel
theorem dX4_notAhead_8 : decode cX4_notAhead 8 = .ok (.iconst (-1), 1) := by decide +kernel
theorem dX4_notAhead_9 : decode cX4_notAhead 9 = .ok (.ireturn, 1) := by decide +kernel
theorem dX4_notAhead_10 : decode cX4_notAhead 10 = .ok (.aload_n 0, 1) := by decide +kernel
theorem dX4_notAhead_11 : decode cX4_notAhead 11 = .ok (.getfield 12, 3) := by decide +kernel
theorem dX4_notAhead_14 : decode cX4_notAhead 14 = .ok (.iload_n 1, 1) := by decide +kernel
theorem dX4_notAhead_15 : decode cX4_notAhead 15 = .ok (.invokevirtual 252, 3) := by decide +kernel
theorem dX4_notAhead_18 : decode cX4_notAhead 18 = .ok (.ifCond .eq 7, 3) := by decide +kernel
theorem dX4_notAhead_21 : decode cX4_notAhead 21 = .ok (.iconst 0, 1) := by decide +kernel
theorem dX4_notAhead_22 : decode cX4_notAhead 22 = .ok (.goto 5, 3) := by decide +kernel
theorem dX4_notAhead_25 : decode cX4_notAhead 25 = .ok (.bipush (-3), 2) := by decide +kernel
theorem dX4_notAhead_27 : decode cX4_notAhead 27 = .ok (.ireturn, 1) := by decide +kernel
theorem dX4_goInMind_0 : decode cX4_goInMind 0 = .ok (.aload_n 0, 1) := by decide +kernel
theorem dX4_goInMind_1 : decode cX4_goInMind 1 = .ok (.getfield 16, 3) := by decide +kernel
theorem dX4_goInMind_4 : decode cX4_goInMind 4 = .ok (.aload_n 0, 1) := by decide +kernel
theorem dX4_goInMind_5 : decode cX4_goInMind 5 = .ok (.getfield 12, 3) := by decide +kernel
theorem dX4_goInMind_8 : decode cX4_goInMind 8 = .ok (.invokevirtual 79, 3) := by decide +kernel
theorem dX4_goInMind_11 : decode cX4_goInMind 11 = .ok (.aload_n 0, 1) := by decide +kernel
theorem dX4_goInMind_12 : decode cX4_goInMind 12 = .ok (.getfield 16, 3) := by decide +kernel
theorem dX4_goInMind_15 : decode cX4_goInMind 15 = .ok (.iload_n 1, 1) := by decide +kernel
theorem dX4_goInMind_16 : decode cX4_goInMind 16 = .ok (.invokevirtual 124, 3) := by decide +kernel
theorem dX4_goInMind_19 : decode cX4_goInMind 19 = .ok (.return_, 1) := by decide +kernel
theorem dX4_getsThrough_0 : decode cX4_getsThrough 0 = .ok (.aload_n 0, 1) := by decide +kernel
theorem dX4_getsThrough_1 : decode cX4_getsThrough 1 = .ok (.getfield 16, 3) := by decide +kernel
theorem dX4_getsThrough_4 : decode cX4_getsThrough 4 = .ok (.iload_n 1, 1) := by decide +kernel
theorem dX4_getsThrough_5 : decode cX4_getsThrough 5 = .ok (.bipush 72, 2) := by decide +kernel
theorem dX4_getsThrough_7 : decode cX4_getsThrough 7 = .ok (.invokevirtual 270, 3) := by decide +kernel
theorem dX4_getsThrough_10 : decode cX4_getsThrough 10 = .ok (.aload_n 0, 1) := by decide +kernel
theorem dX4_getsThrough_11 : decode cX4_getsThrough 11 = .ok (.getfield 16, 3) := by decide +kernel
theorem dX4_getsThrough_14 : decode cX4_getsThrough 14 = .ok (.getfield 180, 3) := by decide +kernel
theorem dX4_getsThrough_17 : decode cX4_getsThrough 17 = .ok (.iload_n 1, 1) := by decide +kernel
theorem dX4_getsThrough_18 : decode cX4_getsThrough 18 = .ok (.iaload, 1) := by decide +kernel
theorem dX4_getsThrough_19 : decode cX4_getsThrough 19 = .ok (.iconst 1, 1) := by decide +kernel
theorem dX4_getsThrough_20 : decode cX4_getsThrough 20 = .ok (.if_icmp .ne 7, 3) := by decide +kernel
theorem dX4_getsThrough_23 : decode cX4_getsThrough 23 = .ok (.iconst 1, 1) := by decide +kernel
theorem dX4_getsThrough_24 : decode cX4_getsThrough 24 = .ok (.goto 4, 3) := by decide +kernel
theorem dX4_getsThrough_27 : decode cX4_getsThrough 27 = .ok (.iconst 0, 1) := by decide +kernel
theorem dX4_getsThrough_28 : decode cX4_getsThrough 28 = .ok (.ireturn, 1) := by decide +kernel
theorem dX4_throughInMind_0 : decode cX4_throughInMind 0 = .ok (.aload_n 0, 1) := by decide +kernel
theorem dX4_throughInMind_1 : decode cX4_throughInMind 1 = .ok (.getfield 16, 3) := by decide +kernel
theorem dX4_throughInMind_4 : decode cX4_throughInMind 4 = .ok (.bipush 72, 2) := by decide +kernel
theorem dX4_throughInMind_6 : decode cX4_throughInMind 6 = .ok (.invokevirtual 334, 3) := by decide +kernel
theorem dX4_throughInMind_9 : decode cX4_throughInMind 9 = .ok (.aload_n 0, 1) := by decide +kernel
theorem dX4_throughInMind_10 : decode cX4_throughInMind 10 = .ok (.getfield 16, 3) := by decide +kernel
theorem dX4_throughInMind_13 : decode cX4_throughInMind 13 = .ok (.iconst 1, 1) := by decide +kernel
theorem dX4_throughInMind_14 : decode cX4_throughInMind 14 = .ok (.invokevirtual 183, 3) := by decide +kernel
theorem dX4_throughInMind_17 : decode cX4_throughInMind 17 = .ok (.ireturn, 1) := by decide +kernel
theorem dX5_init_0 : decode cX5_init 0 = .ok (.aload_n 0, 1) := by decide +kernel
theorem dX5_init_1 : decode cX5_init 1 = .ok (.invokespecial 1, 3) := by decide +kernel
theorem dX5_init_4 : decode cX5_init 4 = .ok (.aload_n 0, 1) := by decide +kernel
theorem dX5_init_5 : decode cX5_init 5 = .ok (.bipush 8, 2) := by decide +kernel
theorem dX5_init_7 : decode cX5_init 7 = .ok (.putfield 7, 3) := by decide +kernel
theorem dX5_init_10 : decode cX5_init 10 = .ok (.aload_n 0, 1) := by decide +kernel
theorem dX5_init_11 : decode cX5_init 11 = .ok (.bipush 16, 2) := by decide +kernel
theorem dX5_init_13 : decode cX5_init 13 = .ok (.newarray .int, 2) := by decide +kernel
theorem dX5_init_15 : decode cX5_init 15 = .ok (.putfield 13, 3) := by decide +kernel
theorem dX5_init_18 : decode cX5_init 18 = .ok (.aload_n 0, 1) := by decide +kernel
theorem dX5_init_19 : decode cX5_init 19 = .ok (.bipush 16, 2) := by decide +kernel
theorem dX5_init_21 : decode cX5_init 21 = .ok (.newarray .int, 2) := by decide +kernel
theorem dX5_init_23 : decode cX5_init 23 = .ok (.putfield 17, 3) := by decide +kernel
theorem dX5_init_26 : decode cX5_init 26 = .ok (.aload_n 0, 1) := by decide +kernel
theorem dX5_init_27 : decode cX5_init 27 = .ok (.bipush 16, 2) := by decide +kernel
theorem dX5_init_29 : decode cX5_init 29 = .ok (.newarray .int, 2) := by decide +kernel
theorem dX5_init_31 : decode cX5_init 31 = .ok (.putfield 20, 3) := by decide +kernel
theorem dX5_init_34 : decode cX5_init 34 = .ok (.aload_n 0, 1) := by decide +kernel
theorem dX5_init_35 : decode cX5_init 35 = .ok (.iconst 3, 1) := by decide +kernel
theorem dX5_init_36 : decode cX5_init 36 = .ok (.putfield 23, 3) := by decide +kernel
theorem dX5_init_39 : decode cX5_init 39 = .ok (.aload_n 0, 1) := by decide +kernel
theorem dX5_init_40 : decode cX5_init 40 = .ok (.iconst 4, 1) := by decide +kernel
theorem dX5_init_41 : decode cX5_init 41 = .ok (.putfield 26, 3) := by decide +kernel
theorem dX5_init_44 : decode cX5_init 44 = .ok (.aload_n 0, 1) := by decide +kernel
theorem dX5_init_45 : decode cX5_init 45 = .ok (.iconst 5, 1) := by decide +kernel
theorem dX5_init_46 : decode cX5_init 46 = .ok (.newarray .int, 2) := by decide +kernel
theorem dX5_init_48 : decode cX5_init 48 = .ok (.putfield 29, 3) := by decide +kernel
theorem dX5_init_51 : decode cX5_init 51 = .ok (.aload_n 0, 1) := by decide +kernel
theorem dX5_init_52 : decode cX5_init 52 = .ok (.iconst 5, 1) := by decide +kernel
theorem dX5_init_53 : decode cX5_init 53 = .ok (.newarray .int, 2) := by decide +kernel
theorem dX5_init_55 : decode cX5_init 55 = .ok (.putfield 32, 3) := by decide +kernel
theorem dX5_init_58 : decode cX5_init 58 = .ok (.aload_n 0, 1) := by decide +kernel
theorem dX5_init_59 : decode cX5_init 59 = .ok (.iconst 5, 1) := by decide +kernel
theorem dX5_init_60 : decode cX5_init 60 = .ok (.newarray .int, 2) := by decide +kernel
theorem dX5_init_62 : decode cX5_init 62 = .ok (.putfield 35, 3) := by decide +kernel
theorem dX5_init_65 : decode cX5_init 65 = .ok (.aload_n 0, 1) := by decide +kernel
theorem dX5_init_66 : decode cX5_init 66 = .ok (.iconst 5, 1) := by decide +kernel
theorem dX5_init_67 : decode cX5_init 67 = .ok (.newarray .int, 2) := by decide +kernel
theorem dX5_init_69 : decode cX5_init 69 = .ok (.putfield 38, 3) := by decide +kernel
theorem dX5_init_72 : decode cX5_init 72 = .ok (.aload_n 0, 1) := by decide +kernel
theorem dX5_init_73 : decode cX5_init 73 = .ok (.iconst 5, 1) := by decide +kernel
theorem dX5_init_74 : decode cX5_init 74 = .ok (.newarray .int, 2) := by decide +kernel
theorem dX5_init_76 : decode cX5_init 76 = .ok (.putfield 41, 3) := by decide +kernel
theorem dX5_init_79 : decode cX5_init 79 = .ok (.aload_n 0, 1) := by decide +kernel
theorem dX5_init_80 : decode cX5_init 80 = .ok (.iconst 5, 1) := by decide +kernel
theorem dX5_init_81 : decode cX5_init 81 = .ok (.newarray .int, 2) := by decide +kernel
theorem dX5_init_83 : decode cX5_init 83 = .ok (.putfield 44, 3) := by decide +kernel
theorem dX5_init_86 : decode cX5_init 86 = .ok (.aload_n 0, 1) := by decide +kernel
theorem dX5_init_87 : decode cX5_init 87 = .ok (.bipush 7, 2) := by decide +kernel
theorem dX5_init_89 : decode cX5_init 89 = .ok (.newarray .int, 2) := by decide +kernel
theorem dX5_init_91 : decode cX5_init 91 = .ok (.putfield 47, 3) := by decide +kernel
theorem dX5_init_94 : decode cX5_init 94 = .ok (.aload_n 0, 1) := by decide +kernel
theorem dX5_init_95 : decode cX5_init 95 = .ok (.iconst 5, 1) := by decide +kernel
theorem dX5_init_96 : decode cX5_init 96 = .ok (.newarray .int, 2) := by decide +kernel
theorem dX5_init_98 : decode cX5_init 98 = .ok (.putfield 50, 3) := by decide +kernel
theorem dX5_init_101 : decode cX5_init 101 = .ok (.aload_n 0, 1) := by decide +kernel
theorem dX5_init_102 : decode cX5_init 102 = .ok (.iconst 5, 1) := by decide +kernel
theorem dX5_init_103 : decode cX5_init 103 = .ok (.newarray .int, 2) := by decide +kernel
theorem dX5_init_105 : decode cX5_init 105 = .ok (.putfield 53, 3) := by decide +kernel
theorem dX5_init_108 : decode cX5_init 108 = .ok (.aload_n 0, 1) := by decide +kernel
theorem dX5_init_109 : decode cX5_init 109 = .ok (.bipush 96, 2) := by decide +kernel
theorem dX5_init_111 : decode cX5_init 111 = .ok (.newarray .int, 2) := by decide +kernel
theorem dX5_init_113 : decode cX5_init 113 = .ok (.putfield 56, 3) := by decide +kernel
theorem dX5_init_116 : decode cX5_init 116 = .ok (.aload_n 0, 1) := by decide +kernel
theorem dX5_init_117 : decode cX5_init 117 = .ok (.bipush 49, 2) := by decide +kernel
theorem dX5_init_119 : decode cX5_init 119 = .ok (.newarray .int, 2) := by decide +kernel
theorem dX5_init_121 : decode cX5_init 121 = .ok (.putfield 59, 3) := by decide +kernel
theorem dX5_init_124 : decode cX5_init 124 = .ok (.aload_n 0, 1) := by decide +kernel
theorem dX5_init_125 : decode cX5_init 125 = .ok (.bipush 49, 2) := by decide +kernel
theorem dX5_init_127 : decode cX5_init 127 = .ok (.newarray .int, 2) := by decide +kernel
theorem dX5_init_129 : decode cX5_init 129 = .ok (.putfield 62, 3) := by decide +kernel
theorem dX5_init_132 : decode cX5_init 132 = .ok (.aload_n 0, 1) := by decide +kernel
theorem dX5_init_133 : decode cX5_init 133 = .ok (.sipush 196, 3) := by decide +kernel
theorem dX5_init_136 : decode cX5_init 136 = .ok (.newarray .int, 2) := by decide +kernel
theorem dX5_init_138 : decode cX5_init 138 = .ok (.putfield 65, 3) := by decide +kernel
theorem dX5_init_141 : decode cX5_init 141 = .ok (.aload_n 0, 1) := by decide +kernel
theorem dX5_init_142 : decode cX5_init 142 = .ok (.bipush 83, 2) := by decide +kernel
theorem dX5_init_144 : decode cX5_init 144 = .ok (.newarray .int, 2) := by decide +kernel
theorem dX5_init_146 : decode cX5_init 146 = .ok (.putfield 68, 3) := by decide +kernel
theorem dX5_init_149 : decode cX5_init 149 = .ok (.aload_n 0, 1) := by decide +kernel
theorem dX5_init_150 : decode cX5_init 150 = .ok (.bipush 83, 2) := by decide +kernel
theorem dX5_init_152 : decode cX5_init 152 = .ok (.newarray .int, 2) := by decide +kernel
theorem dX5_init_154 : decode cX5_init 154 = .ok (.putfield 71, 3) := by decide +kernel
theorem dX5_init_157 : decode cX5_init 157 = .ok (.aload_n 0, 1) := by decide +kernel
theorem dX5_init_158 : decode cX5_init 158 = .ok (.sipush 664, 3) := by decide +kernel
theorem dX5_init_161 : decode cX5_init 161 = .ok (.newarray .int, 2) := by decide +kernel
theorem dX5_init_163 : decode cX5_init 163 = .ok (.putfield 74, 3) := by decide +kernel
theorem dX5_init_166 : decode cX5_init 166 = .ok (.aload_n 0, 1) := by decide +kernel
theorem dX5_init_167 : decode cX5_init 167 = .ok (.bipush 83, 2) := by decide +kernel
theorem dX5_init_169 : decode cX5_init 169 = .ok (.newarray .int, 2) := by decide +kernel
theorem dX5_init_171 : decode cX5_init 171 = .ok (.putfield 77, 3) := by decide +kernel
theorem dX5_init_174 : decode cX5_init 174 = .ok (.aload_n 0, 1) := by decide +kernel
theorem dX5_init_175 : decode cX5_init 175 = .ok (.iconst 5, 1) := by decide +kernel
theorem dX5_init_176 : decode cX5_init 176 = .ok (.newarray .int, 2) := by decide +kernel
theorem dX5_init_178 : decode cX5_init 178 = .ok (.putfield 80, 3) := by decide +kernel
theorem dX5_init_181 : decode cX5_init 181 = .ok (.aload_n 0, 1) := by decide +kernel
theorem dX5_init_182 : decode cX5_init 182 = .ok (.bipush 20, 2) := by decide +kernel
theorem dX5_init_184 : decode cX5_init 184 = .ok (.newarray .int, 2) := by decide +kernel
theorem dX5_init_186 : decode cX5_init 186 = .ok (.putfield 83, 3) := by decide +kernel
theorem dX5_init_189 : decode cX5_init 189 = .ok (.aload_n 0, 1) := by decide +kernel
theorem dX5_init_190 : decode cX5_init 190 = .ok (.iconst 5, 1) := by decide +kernel
theorem dX5_init_191 : decode cX5_init 191 = .ok (.newarray .int, 2) := by decide +kernel
theorem dX5_init_193 : decode cX5_init 193 = .ok (.putfield 86, 3) := by decide +kernel
theorem dX5_init_196 : decode cX5_init 196 = .ok (.aload_n 0, 1) := by decide +kernel
theorem dX5_init_197 : decode cX5_init 197 = .ok (.bipush 16, 2) := by decide +kernel
theorem dX5_init_199 : decode cX5_init 199 = .ok (.newarray .int, 2) := by decide +kernel
theorem dX5_init_201 : decode cX5_init 201 = .ok (.putfield 89, 3) := by decide +kernel
theorem dX5_init_204 : decode cX5_init 204 = .ok (.aload_n 0, 1) := by decide +kernel
theorem dX5_init_205 : decode cX5_init 205 = .ok (.iconst 0, 1) := by decide +kernel
theorem dX5_init_206 : decode cX5_init 206 = .ok (.putfield 92, 3) := by decide +kernel
theorem dX5_init_209 : decode cX5_init 209 = .ok (.iconst 0, 1) := by decide +kernel
theorem dX5_init_210 : decode cX5_init 210 = .ok (.istore_n 1, 1) := by decide +kernel
theorem dX5_init_211 : decode cX5_init 211 = .ok (.iload_n 1, 1) := by decide +kernel
theorem dX5_init_212 : decode cX5_init 212 = .ok (.bipush 16, 2) := by decide +kernel
theorem dX5_init_214 : decode cX5_init 214 = .ok (.if_icmp .ge 17, 3) := by decide +kernel
theorem dX5_init_217 : decode cX5_init 217 = .ok (.aload_n 0, 1) := by decide +kernel
theorem dX5_init_218 : decode cX5_init 218 = .ok (.getfield 20, 3) := by decide +kernel
theorem dX5_init_221 : decode cX5_init 221 = .ok (.iload_n 1, 1) := by decide +kernel
theorem dX5_init_222 : decode cX5_init 222 = .ok (.bipush 40, 2) := by decide +kernel
theorem dX5_init_224 : decode cX5_init 224 = .ok (.iastore, 1) := by decide +kernel
theorem dX5_init_225 : decode cX5_init 225 = .ok (.iinc 1 1, 3) := by decide +kernel
theorem dX5_init_228 : decode cX5_init 228 = .ok (.goto (-17), 3) := by decide +kernel
theorem dX5_init_231 : decode cX5_init 231 = .ok (.return_, 1) := by decide +kernel
theorem dX5_in_0 : decode cX5_in 0 = .ok (.lload_n 0, 1) := by decide +kernel
theorem dX5_in_1 : decode cX5_in 1 = .ok (.lload_n 2, 1) := by decide +kernel
theorem dX5_in_2 : decode cX5_in 2 = .ok (.lcmp, 1) := by decide +kernel
theorem dX5_in_3 : decode cX5_in 3 = .ok (.ifCond .lt 14, 3) := by decide +kernel
theorem dX5_in_6 : decode cX5_in 6 = .ok (.lload_n 0, 1) := by decide +kernel
theorem dX5_in_7 : decode cX5_in 7 = .ok (.lload 4, 2) := by decide +kernel
theorem dX5_in_9 : decode cX5_in 9 = .ok (.lcmp, 1) := by decide +kernel
theorem dX5_in_10 : decode cX5_in 10 = .ok (.ifCond .gt 7, 3) := by decide +kernel
theorem dX5_in_13 : decode cX5_in 13 = .ok (.iconst 1, 1) := by decide +kernel
theorem dX5_in_14 : decode cX5_in 14 = .ok (.goto 4, 3) := by decide +kernel
theorem dX5_in_17 : decode cX5_in 17 = .ok (.iconst 0, 1) := by decide +kernel
theorem dX5_in_18 : decode cX5_in 18 = .ok (.ireturn, 1) := by decide +kernel
theorem dX5_refuse_0 : decode cX5_refuse 0 = .ok (.aload_n 0, 1) := by decide +kernel
theorem dX5_refuse_1 : decode cX5_refuse 1 = .ok (.getfield 47, 3) := by decide +kernel
theorem dX5_refuse_4 : decode cX5_refuse 4 = .ok (.iload_n 1, 1) := by decide +kernel
theorem dX5_refuse_5 : decode cX5_refuse 5 = .ok (.ineg, 1) := by decide +kernel
theorem dX5_refuse_6 : decode cX5_refuse 6 = .ok (.dup2, 1) := by decide +kernel
theorem dX5_refuse_7 : decode cX5_refuse 7 = .ok (.iaload, 1) := by decide +kernel
theorem dX5_refuse_8 : decode cX5_refuse 8 = .ok (.iconst 1, 1) := by decide +kernel
theorem dX5_refuse_9 : decode cX5_refuse 9 = .ok (.iadd, 1) := by decide +kernel
theorem dX5_refuse_10 : decode cX5_refuse 10 = .ok (.iastore, 1) := by decide +kernel
theorem dX5_refuse_11 : decode cX5_refuse 11 = .ok (.iload_n 1, 1) := by decide +kernel
theorem dX5_refuse_12 : decode cX5_refuse 12 = .ok (.ireturn, 1) := by decide +kernel
theorem dX5_isYard_0 : decode cX5_isYard 0 = .ok (.iload_n 1, 1) := by decide +kernel
theorem dX5_isYard_1 : decode cX5_isYard 1 = .ok (.i2l, 1) := by decide +kernel
theorem dX5_isYard_2 : decode cX5_isYard 2 = .ok (.lconst 0, 1) := by decide +kernel
theorem dX5_isYard_3 : decode cX5_isYard 3 = .ok (.aload_n 0, 1) := by decide +kernel
theorem dX5_isYard_4 : decode cX5_isYard 4 = .ok (.getfield 7, 3) := by decide +kernel
theorem dX5_isYard_7 : decode cX5_isYard 7 = .ok (.iconst 1, 1) := by decide +kernel
theorem dX5_isYard_8 : decode cX5_isYard 8 = .ok (.isub, 1) := by decide +kernel
theorem dX5_isYard_9 : decode cX5_isYard 9 = .ok (.i2l, 1) := by decide +kernel
theorem dX5_isYard_10 : decode cX5_isYard 10 = .ok (.invokestatic 95, 3) := by decide +kernel
theorem dX5_isYard_13 : decode cX5_isYard 13 = .ok (.ireturn, 1) := by decide +kernel
theorem dX5_isTrain_0 : decode cX5_isTrain 0 = .ok (.iload_n 1, 1) := by decide +kernel
theorem dX5_isTrain_1 : decode cX5_isTrain 1 = .ok (.i2l, 1) := by decide +kernel
theorem dX5_isTrain_2 : decode cX5_isTrain 2 = .ok (.lconst 0, 1) := by decide +kernel
theorem dX5_isTrain_3 : decode cX5_isTrain 3 = .ok (.aload_n 0, 1) := by decide +kernel
theorem dX5_isTrain_4 : decode cX5_isTrain 4 = .ok (.getfield 99, 3) := by decide +kernel
theorem dX5_isTrain_7 : decode cX5_isTrain 7 = .ok (.iconst 1, 1) := by decide +kernel
theorem dX5_isTrain_8 : decode cX5_isTrain 8 = .ok (.isub, 1) := by decide +kernel
theorem dX5_isTrain_9 : decode cX5_isTrain 9 = .ok (.i2l, 1) := by decide +kernel
theorem dX5_isTrain_10 : decode cX5_isTrain 10 = .ok (.invokestatic 95, 3) := by decide +kernel
theorem dX5_isTrain_13 : decode cX5_isTrain 13 = .ok (.ireturn, 1) := by decide +kernel
theorem dX5_wrongNumber_0 : decode cX5_wrongNumber 0 = .ok (.iload_n 0, 1) := by decide +kernel
theorem dX5_wrongNumber_1 : decode cX5_wrongNumber 1 = .ok (.iload_n 1, 1) := by decide +kernel
theorem dX5_wrongNumber_2 : decode cX5_wrongNumber 2 = .ok (.if_icmp .ge 8, 3) := by decide +kernel
theorem dX5_wrongNumber_5 : decode cX5_wrongNumber 5 = .ok (.bipush (-4), 2) := by decide +kernel
theorem dX5_wrongNumber_7 : decode cX5_wrongNumber 7 = .ok (.goto 14, 3) := by decide +kernel
theorem dX5_wrongNumber_10 : decode cX5_wrongNumber 10 = .ok (.iload_n 0, 1) := by decide +kernel
theorem dX5_wrongNumber_11 : decode cX5_wrongNumber 11 = .ok (.iload_n 2, 1) := by decide +kernel
theorem dX5_wrongNumber_12 : decode cX5_wrongNumber 12 = .ok (.if_icmp .le 8, 3) := by decide +kernel
theorem dX5_wrongNumber_15 : decode cX5_wrongNumber 15 = .ok (.bipush (-6), 2) := by decide +kernel
theorem dX5_wrongNumber_17 : decode cX5_wrongNumber 17 = .ok (.goto 4, 3) := by decide +kernel
theorem dX5_wrongNumber_20 : decode cX5_wrongNumber 20 = .ok (.iconst 0, 1) := by decide +kernel
theorem dX5_wrongNumber_21 : decode cX5_wrongNumber 21 = .ok (.ireturn, 1) := by decide +kernel
theorem dX5_wrongBit_0 : decode cX5_wrongBit 0 = .ok (.iload_n 0, 1) := by decide +kernel
theorem dX5_wrongBit_1 : decode cX5_wrongBit 1 = .ok (.ifCond .ne 19, 3) := by decide +kernel
theorem dX5_wrongBit_4 : decode cX5_wrongBit 4 = .ok (.iload_n 1, 1) := by decide +kernel
theorem dX5_wrongBit_5 : decode cX5_wrongBit 5 = .ok (.i2l, 1) := by decide +kernel
theorem dX5_wrongBit_6 : decode cX5_wrongBit 6 = .ok (.lconst 0, 1) := by decide +kernel
theorem dX5_wrongBit_7 : decode cX5_wrongBit 7 = .ok (.iload_n 2, 1) := by decide +kernel
theorem dX5_wrongBit_8 : decode cX5_wrongBit 8 = .ok (.i2l, 1) := by decide +kernel
theorem dX5_wrongBit_9 : decode cX5_wrongBit 9 = .ok (.invokestatic 95, 3) := by decide +kernel
theorem dX5_wrongBit_12 : decode cX5_wrongBit 12 = .ok (.ifCond .ne 8, 3) := by decide +kernel
theorem dX5_wrongBit_15 : decode cX5_wrongBit 15 = .ok (.bipush (-2), 2) := by decide +kernel
theorem dX5_wrongBit_17 : decode cX5_wrongBit 17 = .ok (.goto 4, 3) := by decide +kernel
theorem dX5_wrongBit_20 : decode cX5_wrongBit 20 = .ok (.iload_n 0, 1) := by decide +kernel
theorem dX5_wrongBit_21 : decode cX5_wrongBit 21 = .ok (.ireturn, 1) := by decide +kernel
theorem dX5_atLeast_0 : decode cX5_atLeast 0 = .ok (.iload_n 0, 1) := by decide +kernel
theorem dX5_atLeast_1 : decode cX5_atLeast 1 = .ok (.ifCond .ge 7, 3) := by decide +kernel
theorem dX5_atLeast_4 : decode cX5_atLeast 4 = .ok (.iconst 0, 1) := by decide +kernel
theorem dX5_atLeast_5 : decode cX5_atLeast 5 = .ok (.goto 4, 3) := by decide +kernel
theorem dX5_atLeast_8 : decode cX5_atLeast 8 = .ok (.iload_n 0, 1) := by decide +kernel
theorem dX5_atLeast_9 : decode cX5_atLeast 9 = .ok (.ireturn, 1) := by decide +kernel
theorem dX5_held_0 : decode cX5_held 0 = .ok (.iload_n 0, 1) := by decide +kernel
theorem dX5_held_1 : decode cX5_held 1 = .ok (.ifCond .ge 7, 3) := by decide +kernel
theorem dX5_held_4 : decode cX5_held 4 = .ok (.iconst 0, 1) := by decide +kernel
theorem dX5_held_5 : decode cX5_held 5 = .ok (.goto 15, 3) := by decide +kernel
theorem dX5_held_8 : decode cX5_held 8 = .ok (.iload_n 0, 1) := by decide +kernel
theorem dX5_held_9 : decode cX5_held 9 = .ok (.bipush 99, 2) := by decide +kernel
theorem dX5_held_11 : decode cX5_held 11 = .ok (.if_icmp .le 8, 3) := by decide +kernel
theorem dX5_held_14 : decode cX5_held 14 = .ok (.bipush 99, 2) := by decide +kernel
theorem dX5_held_16 : decode cX5_held 16 = .ok (.goto 4, 3) := by decide +kernel
theorem dX5_held_19 : decode cX5_held 19 = .ok (.iload_n 0, 1) := by decide +kernel
theorem dX5_held_20 : decode cX5_held 20 = .ok (.ireturn, 1) := by decide +kernel
theorem dX5_hasBit_0 : decode cX5_hasBit 0 = .ok (.iload_n 0, 1) := by decide +kernel
theorem dX5_hasBit_1 : decode cX5_hasBit 1 = .ok (.iload_n 1, 1) := by decide +kernel
theorem dX5_hasBit_2 : decode cX5_hasBit 2 = .ok (.ishr, 1) := by decide +kernel
theorem dX5_hasBit_3 : decode cX5_hasBit 3 = .ok (.iconst 1, 1) := by decide +kernel
theorem dX5_hasBit_4 : decode cX5_hasBit 4 = .ok (.iand, 1) := by decide +kernel
theorem dX5_hasBit_5 : decode cX5_hasBit 5 = .ok (.iconst 1, 1) := by decide +kernel
theorem dX5_hasBit_6 : decode cX5_hasBit 6 = .ok (.if_icmp .ne 7, 3) := by decide +kernel
theorem dX5_hasBit_9 : decode cX5_hasBit 9 = .ok (.iconst 1, 1) := by decide +kernel
theorem dX5_hasBit_10 : decode cX5_hasBit 10 = .ok (.goto 4, 3) := by decide +kernel
theorem dX5_hasBit_13 : decode cX5_hasBit 13 = .ok (.iconst 0, 1) := by decide +kernel
theorem dX5_hasBit_14 : decode cX5_hasBit 14 = .ok (.ireturn, 1) := by decide +kernel
theorem dX5_onesOf_0 : decode cX5_onesOf 0 = .ok (.iconst 0, 1) := by decide +kernel
theorem dX5_onesOf_1 : decode cX5_onesOf 1 = .ok (.istore_n 1, 1) := by decide +kernel
theorem dX5_onesOf_2 : decode cX5_onesOf 2 = .ok (.iload_n 0, 1) := by decide +kernel
theorem dX5_onesOf_3 : decode cX5_onesOf 3 = .ok (.istore_n 2, 1) := by decide +kernel
theorem dX5_onesOf_4 : decode cX5_onesOf 4 = .ok (.iload_n 2, 1) := by decide +kernel
theorem dX5_onesOf_5 : decode cX5_onesOf 5 = .ok (.ifCond .eq 15, 3) := by decide +kernel
theorem dX5_onesOf_8 : decode cX5_onesOf 8 = .ok (.iinc 1 1, 3) := by decide +kernel
theorem dX5_onesOf_11 : decode cX5_onesOf 11 = .ok (.iload_n 2, 1) := by decide +kernel
theorem dX5_onesOf_12 : decode cX5_onesOf 12 = .ok (.iload_n 2, 1) := by decide +kernel
theorem dX5_onesOf_13 : decode cX5_onesOf 13 = .ok (.iconst 1, 1) := by decide +kernel
theorem dX5_onesOf_14 : decode cX5_onesOf 14 = .ok (.isub, 1) := by decide +kernel
theorem dX5_onesOf_15 : decode cX5_onesOf 15 = .ok (.iand, 1) := by decide +kernel
theorem dX5_onesOf_16 : decode cX5_onesOf 16 = .ok (.istore_n 2, 1) := by decide +kernel
theorem dX5_onesOf_17 : decode cX5_onesOf 17 = .ok (.goto (-13), 3) := by decide +kernel
theorem dX5_onesOf_20 : decode cX5_onesOf 20 = .ok (.iload_n 1, 1) := by decide +kernel
theorem dX5_onesOf_21 : decode cX5_onesOf 21 = .ok (.ireturn, 1) := by decide +kernel
theorem dX5_freezes_0 : decode cX5_freezes 0 = .ok (.aload_n 0, 1) := by decide +kernel
theorem dX5_freezes_1 : decode cX5_freezes 1 = .ok (.getfield 13, 3) := by decide +kernel
theorem dX5_freezes_4 : decode cX5_freezes 4 = .ok (.iload_n 1, 1) := by decide +kernel
theorem dX5_freezes_5 : decode cX5_freezes 5 = .ok (.iaload, 1) := by decide +kernel
theorem dX5_freezes_6 : decode cX5_freezes 6 = .ok (.tableswitch 66 1 4 #[30, 66, 37, 49], 30) := by decide +kernel
theorem dX5_freezes_36 : decode cX5_freezes 36 = .ok (.aload_n 0, 1) := by decide +kernel
theorem dX5_freezes_37 : decode cX5_freezes 37 = .ok (.getfield 23, 3) := by decide +kernel
theorem dX5_freezes_40 : decode cX5_freezes 40 = .ok (.iconst 2, 1) := by decide +kernel
theorem dX5_freezes_41 : decode cX5_freezes 41 = .ok (.idiv, 1) := by decide +kernel
theorem dX5_freezes_42 : decode cX5_freezes 42 = .ok (.ireturn, 1) := by decide +kernel
theorem dX5_freezes_43 : decode cX5_freezes 43 = .ok (.aload_n 0, 1) := by decide +kernel
theorem dX5_freezes_44 : decode cX5_freezes 44 = .ok (.getfield 23, 3) := by decide +kernel
theorem dX5_freezes_47 : decode cX5_freezes 47 = .ok (.aload_n 0, 1) := by decide +kernel
theorem dX5_freezes_48 : decode cX5_freezes 48 = .ok (.getfield 17, 3) := by decide +kernel
theorem dX5_freezes_51 : decode cX5_freezes 51 = .ok (.iload_n 1, 1) := by decide +kernel
theorem dX5_freezes_52 : decode cX5_freezes 52 = .ok (.iaload, 1) := by decide +kernel
theorem dX5_freezes_53 : decode cX5_freezes 53 = .ok (.iadd, 1) := by decide +kernel
theorem dX5_freezes_54 : decode cX5_freezes 54 = .ok (.ireturn, 1) := by decide +kernel
theorem dX5_freezes_55 : decode cX5_freezes 55 = .ok (.aload_n 0, 1) := by decide +kernel
theorem dX5_freezes_56 : decode cX5_freezes 56 = .ok (.getfield 23, 3) := by decide +kernel
theorem dX5_freezes_59 : decode cX5_freezes 59 = .ok (.aload_n 0, 1) := by decide +kernel
theorem dX5_freezes_60 : decode cX5_freezes 60 = .ok (.getfield 17, 3) := by decide +kernel
theorem dX5_freezes_63 : decode cX5_freezes 63 = .ok (.iload_n 1, 1) := by decide +kernel
theorem dX5_freezes_64 : decode cX5_freezes 64 = .ok (.iaload, 1) := by decide +kernel
theorem dX5_freezes_65 : decode cX5_freezes 65 = .ok (.iadd, 1) := by decide +kernel
theorem dX5_freezes_66 : decode cX5_freezes 66 = .ok (.iconst 2, 1) := by decide +kernel
theorem dX5_freezes_67 : decode cX5_freezes 67 = .ok (.isub, 1) := by decide +kernel
theorem dX5_freezes_68 : decode cX5_freezes 68 = .ok (.invokestatic 102, 3) := by decide +kernel
theorem dX5_freezes_71 : decode cX5_freezes 71 = .ok (.ireturn, 1) := by decide +kernel
theorem dX5_freezes_72 : decode cX5_freezes 72 = .ok (.aload_n 0, 1) := by decide +kernel
theorem dX5_freezes_73 : decode cX5_freezes 73 = .ok (.getfield 23, 3) := by decide +kernel
theorem dX5_freezes_76 : decode cX5_freezes 76 = .ok (.ireturn, 1) := by decide +kernel
theorem dX5_melts_0 : decode cX5_melts 0 = .ok (.aload_n 0, 1) := by decide +kernel
theorem dX5_melts_1 : decode cX5_melts 1 = .ok (.getfield 13, 3) := by decide +kernel
theorem dX5_melts_4 : decode cX5_melts 4 = .ok (.iload_n 1, 1) := by decide +kernel
theorem dX5_melts_5 : decode cX5_melts 5 = .ok (.iaload, 1) := by decide +kernel
theorem dX5_melts_6 : decode cX5_melts 6 = .ok (.tableswitch 84 1 5 #[34, 41, 84, 58, 65], 34) := by decide +kernel
theorem dX5_melts_40 : decode cX5_melts 40 = .ok (.iconst 2, 1) := by decide +kernel
theorem dX5_melts_41 : decode cX5_melts 41 = .ok (.aload_n 0, 1) := by decide +kernel
theorem dX5_melts_42 : decode cX5_melts 42 = .ok (.getfield 26, 3) := by decide +kernel
theorem dX5_melts_45 : decode cX5_melts 45 = .ok (.imul, 1) := by decide +kernel
theorem dX5_melts_46 : decode cX5_melts 46 = .ok (.ireturn, 1) := by decide +kernel
theorem dX5_melts_47 : decode cX5_melts 47 = .ok (.aload_n 0, 1) := by decide +kernel
theorem dX5_melts_48 : decode cX5_melts 48 = .ok (.getfield 26, 3) := by decide +kernel
theorem dX5_melts_51 : decode cX5_melts 51 = .ok (.aload_n 0, 1) := by decide +kernel
theorem dX5_melts_52 : decode cX5_melts 52 = .ok (.getfield 17, 3) := by decide +kernel
theorem dX5_melts_55 : decode cX5_melts 55 = .ok (.iload_n 1, 1) := by decide +kernel
theorem dX5_melts_56 : decode cX5_melts 56 = .ok (.iaload, 1) := by decide +kernel
theorem dX5_melts_57 : decode cX5_melts 57 = .ok (.iconst 2, 1) := by decide +kernel
theorem dX5_melts_58 : decode cX5_melts 58 = .ok (.idiv, 1) := by decide +kernel
theorem dX5_melts_59 : decode cX5_melts 59 = .ok (.isub, 1) := by decide +kernel
theorem dX5_melts_60 : decode cX5_melts 60 = .ok (.invokestatic 102, 3) := by decide +kernel
theorem dX5_melts_63 : decode cX5_melts 63 = .ok (.ireturn, 1) := by decide +kernel
theorem dX5_melts_64 : decode cX5_melts 64 = .ok (.aload_n 0, 1) := by decide +kernel
theorem dX5_melts_65 : decode cX5_melts 65 = .ok (.getfield 26, 3) := by decide +kernel
theorem dX5_melts_68 : decode cX5_melts 68 = .ok (.iconst 1, 1) := by decide +kernel
theorem dX5_melts_69 : decode cX5_melts 69 = .ok (.iadd, 1) := by decide +kernel
theorem dX5_melts_70 : decode cX5_melts 70 = .ok (.ireturn, 1) := by decide +kernel
theorem dX5_melts_71 : decode cX5_melts 71 = .ok (.aload_n 0, 1) := by decide +kernel
theorem dX5_melts_72 : decode cX5_melts 72 = .ok (.getfield 26, 3) := by decide +kernel
theorem dX5_melts_75 : decode cX5_melts 75 = .ok (.aload_n 0, 1) := by decide +kernel
theorem dX5_melts_76 : decode cX5_melts 76 = .ok (.getfield 17, 3) := by decide +kernel
theorem dX5_melts_79 : decode cX5_melts 79 = .ok (.iload_n 1, 1) := by decide +kernel
theorem dX5_melts_80 : decode cX5_melts 80 = .ok (.iaload, 1) := by decide +kernel
theorem dX5_melts_81 : decode cX5_melts 81 = .ok (.iconst 2, 1) := by decide +kernel
theorem dX5_melts_82 : decode cX5_melts 82 = .ok (.idiv, 1) := by decide +kernel
theorem dX5_melts_83 : decode cX5_melts 83 = .ok (.isub, 1) := by decide +kernel
theorem dX5_melts_84 : decode cX5_melts 84 = .ok (.invokestatic 102, 3) := by decide +kernel
theorem dX5_melts_87 : decode cX5_melts 87 = .ok (.iconst 2, 1) := by decide +kernel
theorem dX5_melts_88 : decode cX5_melts 88 = .ok (.idiv, 1) := by decide +kernel
theorem dX5_melts_89 : decode cX5_melts 89 = .ok (.ireturn, 1) := by decide +kernel
theorem dX5_melts_90 : decode cX5_melts 90 = .ok (.aload_n 0, 1) := by decide +kernel
theorem dX5_melts_91 : decode cX5_melts 91 = .ok (.getfield 26, 3) := by decide +kernel
theorem dX5_melts_94 : decode cX5_melts 94 = .ok (.ireturn, 1) := by decide +kernel
theorem dX5_wants_0 : decode cX5_wants 0 = .ok (.aload_n 0, 1) := by decide +kernel
theorem dX5_wants_1 : decode cX5_wants 1 = .ok (.getfield 13, 3) := by decide +kernel
theorem dX5_wants_4 : decode cX5_wants 4 = .ok (.iload_n 1, 1) := by decide +kernel
theorem dX5_wants_5 : decode cX5_wants 5 = .ok (.iaload, 1) := by decide +kernel
theorem dX5_wants_6 : decode cX5_wants 6 = .ok (.tableswitch 53 1 5 #[34, 40, 49, 49, 40], 34) := by decide +kernel
theorem dX5_wants_40 : decode cX5_wants 40 = .ok (.iload_n 2, 1) := by decide +kernel
theorem dX5_wants_41 : decode cX5_wants 41 = .ok (.iload_n 2, 1) := by decide +kernel
theorem dX5_wants_42 : decode cX5_wants 42 = .ok (.iconst 2, 1) := by decide +kernel
theorem dX5_wants_43 : decode cX5_wants 43 = .ok (.idiv, 1) := by decide +kernel
theorem dX5_wants_44 : decode cX5_wants 44 = .ok (.iadd, 1) := by decide +kernel
theorem dX5_wants_45 : decode cX5_wants 45 = .ok (.ireturn, 1) := by decide +kernel
theorem dX5_wants_46 : decode cX5_wants 46 = .ok (.iload_n 2, 1) := by decide +kernel
theorem dX5_wants_47 : decode cX5_wants 47 = .ok (.aload_n 0, 1) := by decide +kernel
theorem dX5_wants_48 : decode cX5_wants 48 = .ok (.getfield 17, 3) := by decide +kernel
theorem dX5_wants_51 : decode cX5_wants 51 = .ok (.iload_n 1, 1) := by decide +kernel
theorem dX5_wants_52 : decode cX5_wants 52 = .ok (.iaload, 1) := by decide +kernel
theorem dX5_wants_53 : decode cX5_wants 53 = .ok (.iadd, 1) := by decide +kernel
theorem dX5_wants_54 : decode cX5_wants 54 = .ok (.ireturn, 1) := by decide +kernel
theorem dX5_wants_55 : decode cX5_wants 55 = .ok (.iload_n 2, 1) := by decide +kernel
theorem dX5_wants_56 : decode cX5_wants 56 = .ok (.iconst 2, 1) := by decide +kernel
theorem dX5_wants_57 : decode cX5_wants 57 = .ok (.idiv, 1) := by decide +kernel
theorem dX5_wants_58 : decode cX5_wants 58 = .ok (.ireturn, 1) := by decide +kernel
theorem dX5_wants_59 : decode cX5_wants 59 = .ok (.iload_n 2, 1) := by decide +kernel
theorem dX5_wants_60 : decode cX5_wants 60 = .ok (.ireturn, 1) := by decide +kernel
theorem dX5_bears_0 : decode cX5_bears 0 = .ok (.aload_n 0, 1) := by decide +kernel
theorem dX5_bears_1 : decode cX5_bears 1 = .ok (.getfield 20, 3) := by decide +kernel
theorem dX5_bears_4 : decode cX5_bears 4 = .ok (.iload_n 1, 1) := by decide +kernel
theorem dX5_bears_5 : decode cX5_bears 5 = .ok (.iaload, 1) := by decide +kernel
theorem dX5_bears_6 : decode cX5_bears 6 = .ok (.aload_n 0, 1) := by decide +kernel
theorem dX5_bears_7 : decode cX5_bears 7 = .ok (.iload_n 1, 1) := by decide +kernel
theorem dX5_bears_8 : decode cX5_bears 8 = .ok (.iload_n 2, 1) := by decide +kernel
theorem dX5_bears_9 : decode cX5_bears 9 = .ok (.invokevirtual 106, 3) := by decide +kernel
theorem dX5_bears_12 : decode cX5_bears 12 = .ok (.if_icmp .lt 7, 3) := by decide +kernel
theorem dX5_bears_15 : decode cX5_bears 15 = .ok (.iconst 1, 1) := by decide +kernel
theorem dX5_bears_16 : decode cX5_bears 16 = .ok (.goto 4, 3) := by decide +kernel
theorem dX5_bears_19 : decode cX5_bears 19 = .ok (.iconst 0, 1) := by decide +kernel
theorem dX5_bears_20 : decode cX5_bears 20 = .ok (.ireturn, 1) := by decide +kernel
theorem dX5_isFree_0 : decode cX5_isFree 0 = .ok (.iconst 1, 1) := by decide +kernel
theorem dX5_isFree_1 : decode cX5_isFree 1 = .ok (.istore_n 3, 1) := by decide +kernel
theorem dX5_isFree_2 : decode cX5_isFree 2 = .ok (.iconst 0, 1) := by decide +kernel
theorem dX5_isFree_3 : decode cX5_isFree 3 = .ok (.istore 4, 2) := by decide +kernel
theorem dX5_isFree_5 : decode cX5_isFree 5 = .ok (.iload 4, 2) := by decide +kernel
theorem dX5_isFree_7 : decode cX5_isFree 7 = .ok (.aload_n 0, 1) := by decide +kernel
theorem dX5_isFree_8 : decode cX5_isFree 8 = .ok (.getfield 99, 3) := by decide +kernel
theorem dX5_isFree_11 : decode cX5_isFree 11 = .ok (.if_icmp .ge 46, 3) := by decide +kernel
theorem dX5_isFree_14 : decode cX5_isFree 14 = .ok (.iload_n 3, 1) := by decide +kernel
theorem dX5_isFree_15 : decode cX5_isFree 15 = .ok (.ifCond .eq 34, 3) := by decide +kernel
theorem dX5_isFree_18 : decode cX5_isFree 18 = .ok (.iload 4, 2) := by decide +kernel
theorem dX5_isFree_20 : decode cX5_isFree 20 = .ok (.iload_n 2, 1) := by decide +kernel
theorem dX5_isFree_21 : decode cX5_isFree 21 = .ok (.if_icmp .eq 24, 3) := by decide +kernel
theorem dX5_isFree_24 : decode cX5_isFree 24 = .ok (.aload_n 0, 1) := by decide +kernel
theorem dX5_isFree_25 : decode cX5_isFree 25 = .ok (.getfield 44, 3) := by decide +kernel
theorem dX5_isFree_28 : decode cX5_isFree 28 = .ok (.iload 4, 2) := by decide +kernel
theorem dX5_isFree_30 : decode cX5_isFree 30 = .ok (.iaload, 1) := by decide +kernel
theorem dX5_isFree_31 : decode cX5_isFree 31 = .ok (.ifCond .ne 14, 3) := by decide +kernel
theorem dX5_isFree_34 : decode cX5_isFree 34 = .ok (.aload_n 0, 1) := by decide +kernel
theorem dX5_isFree_35 : decode cX5_isFree 35 = .ok (.getfield 38, 3) := by decide +kernel
theorem dX5_isFree_38 : decode cX5_isFree 38 = .ok (.iload 4, 2) := by decide +kernel
theorem dX5_isFree_40 : decode cX5_isFree 40 = .ok (.iaload, 1) := by decide +kernel
theorem dX5_isFree_41 : decode cX5_isFree 41 = .ok (.iload_n 1, 1) := by decide +kernel
theorem dX5_isFree_42 : decode cX5_isFree 42 = .ok (.if_icmp .eq 7, 3) := by decide +kernel
theorem dX5_isFree_45 : decode cX5_isFree 45 = .ok (.iconst 1, 1) := by decide +kernel
theorem dX5_isFree_46 : decode cX5_isFree 46 = .ok (.goto 4, 3) := by decide +kernel
theorem dX5_isFree_49 : decode cX5_isFree 49 = .ok (.iconst 0, 1) := by decide +kernel
theorem dX5_isFree_50 : decode cX5_isFree 50 = .ok (.istore_n 3, 1) := by decide +kernel
theorem dX5_isFree_51 : decode cX5_isFree 51 = .ok (.iinc 4 1, 3) := by decide +kernel
theorem dX5_isFree_54 : decode cX5_isFree 54 = .ok (.goto (-49), 3) := by decide +kernel
theorem dX5_isFree_57 : decode cX5_isFree 57 = .ok (.iload_n 3, 1) := by decide +kernel
theorem dX5_isFree_58 : decode cX5_isFree 58 = .ok (.ifCond .ne 23, 3) := by decide +kernel
theorem dX5_isFree_61 : decode cX5_isFree 61 = .ok (.aload_n 0, 1) := by decide +kernel
theorem dX5_isFree_62 : decode cX5_isFree 62 = .ok (.getfield 13, 3) := by decide +kernel
theorem dX5_isFree_65 : decode cX5_isFree 65 = .ok (.iload_n 1, 1) := by decide +kernel
theorem dX5_isFree_66 : decode cX5_isFree 66 = .ok (.iaload, 1) := by decide +kernel
theorem dX5_isFree_67 : decode cX5_isFree 67 = .ok (.iconst 3, 1) := by decide +kernel
theorem dX5_isFree_68 : decode cX5_isFree 68 = .ok (.if_icmp .eq 13, 3) := by decide +kernel
theorem dX5_isFree_71 : decode cX5_isFree 71 = .ok (.aload_n 0, 1) := by decide +kernel
theorem dX5_isFree_72 : decode cX5_isFree 72 = .ok (.getfield 13, 3) := by decide +kernel
theorem dX5_isFree_75 : decode cX5_isFree 75 = .ok (.iload_n 1, 1) := by decide +kernel
theorem dX5_isFree_76 : decode cX5_isFree 76 = .ok (.iaload, 1) := by decide +kernel
theorem dX5_isFree_77 : decode cX5_isFree 77 = .ok (.iconst 4, 1) := by decide +kernel
theorem dX5_isFree_78 : decode cX5_isFree 78 = .ok (.if_icmp .ne 7, 3) := by decide +kernel
theorem dX5_isFree_81 : decode cX5_isFree 81 = .ok (.iconst 1, 1) := by decide +kernel
theorem dX5_isFree_82 : decode cX5_isFree 82 = .ok (.goto 4, 3) := by decide +kernel
theorem dX5_isFree_85 : decode cX5_isFree 85 = .ok (.iconst 0, 1) := by decide +kernel
theorem dX5_isFree_86 : decode cX5_isFree 86 = .ok (.ireturn, 1) := by decide +kernel
theorem dX5_trainOn_0 : decode cX5_trainOn 0 = .ok (.aload_n 0, 1) := by decide +kernel
theorem dX5_trainOn_1 : decode cX5_trainOn 1 = .ok (.getfield 41, 3) := by decide +kernel
theorem dX5_trainOn_4 : decode cX5_trainOn 4 = .ok (.iload_n 1, 1) := by decide +kernel
theorem dX5_trainOn_5 : decode cX5_trainOn 5 = .ok (.iaload, 1) := by decide +kernel
theorem dX5_trainOn_6 : decode cX5_trainOn 6 = .ok (.ifCond .le 14, 3) := by decide +kernel
theorem dX5_trainOn_9 : decode cX5_trainOn 9 = .ok (.aload_n 0, 1) := by decide +kernel
theorem dX5_trainOn_10 : decode cX5_trainOn 10 = .ok (.getfield 41, 3) := by decide +kernel
theorem dX5_trainOn_13 : decode cX5_trainOn 13 = .ok (.iload_n 1, 1) := by decide +kernel
theorem dX5_trainOn_14 : decode cX5_trainOn 14 = .ok (.dup2, 1) := by decide +kernel
theorem dX5_trainOn_15 : decode cX5_trainOn 15 = .ok (.iaload, 1) := by decide +kernel
theorem dX5_trainOn_16 : decode cX5_trainOn 16 = .ok (.iconst 1, 1) := by decide +kernel
theorem dX5_trainOn_17 : decode cX5_trainOn 17 = .ok (.isub, 1) := by decide +kernel
theorem dX5_trainOn_18 : decode cX5_trainOn 18 = .ok (.iastore, 1) := by decide +kernel
theorem dX5_trainOn_19 : decode cX5_trainOn 19 = .ok (.return_, 1) := by decide +kernel
theorem dX5_trainOn_20 : decode cX5_trainOn 20 = .ok (.iconst 0, 1) := by decide +kernel
theorem dX5_trainOn_21 : decode cX5_trainOn 21 = .ok (.istore_n 2, 1) := by decide +kernel
theorem dX5_trainOn_22 : decode cX5_trainOn 22 = .ok (.iconst 1, 1) := by decide +kernel
theorem dX5_trainOn_23 : decode cX5_trainOn 23 = .ok (.istore_n 3, 1) := by decide +kernel
theorem dX5_trainOn_24 : decode cX5_trainOn 24 = .ok (.iconst 0, 1) := by decide +kernel
theorem dX5_trainOn_25 : decode cX5_trainOn 25 = .ok (.istore 4, 2) := by decide +kernel
theorem dX5_trainOn_27 : decode cX5_trainOn 27 = .ok (.iload 4, 2) := by decide +kernel
theorem dX5_trainOn_29 : decode cX5_trainOn 29 = .ok (.aload_n 0, 1) := by decide +kernel
theorem dX5_trainOn_30 : decode cX5_trainOn 30 = .ok (.getfield 35, 3) := by decide +kernel
theorem dX5_trainOn_33 : decode cX5_trainOn 33 = .ok (.iload_n 1, 1) := by decide +kernel
theorem dX5_trainOn_34 : decode cX5_trainOn 34 = .ok (.iaload, 1) := by decide +kernel
theorem dX5_trainOn_35 : decode cX5_trainOn 35 = .ok (.if_icmp .ge 112, 3) := by decide +kernel
theorem dX5_trainOn_38 : decode cX5_trainOn 38 = .ok (.iload_n 3, 1) := by decide +kernel
theorem dX5_trainOn_39 : decode cX5_trainOn 39 = .ok (.ifCond .eq 108, 3) := by decide +kernel
theorem dX5_trainOn_42 : decode cX5_trainOn 42 = .ok (.aload_n 0, 1) := by decide +kernel
theorem dX5_trainOn_43 : decode cX5_trainOn 43 = .ok (.getfield 38, 3) := by decide +kernel
theorem dX5_trainOn_46 : decode cX5_trainOn 46 = .ok (.iload_n 1, 1) := by decide +kernel
theorem dX5_trainOn_47 : decode cX5_trainOn 47 = .ok (.iaload, 1) := by decide +kernel
theorem dX5_trainOn_48 : decode cX5_trainOn 48 = .ok (.iconst 1, 1) := by decide +kernel
theorem dX5_trainOn_49 : decode cX5_trainOn 49 = .ok (.iadd, 1) := by decide +kernel
theorem dX5_trainOn_50 : decode cX5_trainOn 50 = .ok (.istore 5, 2) := by decide +kernel
theorem dX5_trainOn_52 : decode cX5_trainOn 52 = .ok (.iload 5, 2) := by decide +kernel
theorem dX5_trainOn_54 : decode cX5_trainOn 54 = .ok (.aload_n 0, 1) := by decide +kernel
theorem dX5_trainOn_55 : decode cX5_trainOn 55 = .ok (.getfield 7, 3) := by decide +kernel
theorem dX5_trainOn_58 : decode cX5_trainOn 58 = .ok (.if_icmp .lt 18, 3) := by decide +kernel
theorem dX5_trainOn_61 : decode cX5_trainOn 61 = .ok (.aload_n 0, 1) := by decide +kernel
theorem dX5_trainOn_62 : decode cX5_trainOn 62 = .ok (.getfield 44, 3) := by decide +kernel
theorem dX5_trainOn_65 : decode cX5_trainOn 65 = .ok (.iload_n 1, 1) := by decide +kernel
theorem dX5_trainOn_66 : decode cX5_trainOn 66 = .ok (.iconst 1, 1) := by decide +kernel
theorem dX5_trainOn_67 : decode cX5_trainOn 67 = .ok (.iastore, 1) := by decide +kernel
theorem dX5_trainOn_68 : decode cX5_trainOn 68 = .ok (.iconst 0, 1) := by decide +kernel
theorem dX5_trainOn_69 : decode cX5_trainOn 69 = .ok (.istore_n 3, 1) := by decide +kernel
theorem dX5_trainOn_70 : decode cX5_trainOn 70 = .ok (.iinc 2 1, 3) := by decide +kernel
theorem dX5_trainOn_73 : decode cX5_trainOn 73 = .ok (.goto 68, 3) := by decide +kernel
theorem dX5_trainOn_76 : decode cX5_trainOn 76 = .ok (.aload_n 0, 1) := by decide +kernel
theorem dX5_trainOn_77 : decode cX5_trainOn 77 = .ok (.iload 5, 2) := by decide +kernel
theorem dX5_trainOn_79 : decode cX5_trainOn 79 = .ok (.aload_n 0, 1) := by decide +kernel
theorem dX5_trainOn_80 : decode cX5_trainOn 80 = .ok (.getfield 29, 3) := by decide +kernel
theorem dX5_trainOn_83 : decode cX5_trainOn 83 = .ok (.iload_n 1, 1) := by decide +kernel
theorem dX5_trainOn_84 : decode cX5_trainOn 84 = .ok (.iaload, 1) := by decide +kernel
theorem dX5_trainOn_85 : decode cX5_trainOn 85 = .ok (.invokevirtual 110, 3) := by decide +kernel
theorem dX5_trainOn_88 : decode cX5_trainOn 88 = .ok (.ifCond .eq 51, 3) := by decide +kernel
theorem dX5_trainOn_91 : decode cX5_trainOn 91 = .ok (.aload_n 0, 1) := by decide +kernel
theorem dX5_trainOn_92 : decode cX5_trainOn 92 = .ok (.iload 5, 2) := by decide +kernel
theorem dX5_trainOn_94 : decode cX5_trainOn 94 = .ok (.iload_n 1, 1) := by decide +kernel
theorem dX5_trainOn_95 : decode cX5_trainOn 95 = .ok (.invokevirtual 114, 3) := by decide +kernel
theorem dX5_trainOn_98 : decode cX5_trainOn 98 = .ok (.ifCond .eq 41, 3) := by decide +kernel
theorem dX5_trainOn_101 : decode cX5_trainOn 101 = .ok (.aload_n 0, 1) := by decide +kernel
theorem dX5_trainOn_102 : decode cX5_trainOn 102 = .ok (.getfield 38, 3) := by decide +kernel
theorem dX5_trainOn_105 : decode cX5_trainOn 105 = .ok (.iload_n 1, 1) := by decide +kernel
theorem dX5_trainOn_106 : decode cX5_trainOn 106 = .ok (.iload 5, 2) := by decide +kernel
theorem dX5_trainOn_108 : decode cX5_trainOn 108 = .ok (.iastore, 1) := by decide +kernel
theorem dX5_trainOn_109 : decode cX5_trainOn 109 = .ok (.aload_n 0, 1) := by decide +kernel
theorem dX5_trainOn_110 : decode cX5_trainOn 110 = .ok (.getfield 20, 3) := by decide +kernel
theorem dX5_trainOn_113 : decode cX5_trainOn 113 = .ok (.iload 5, 2) := by decide +kernel
theorem dX5_trainOn_115 : decode cX5_trainOn 115 = .ok (.aload_n 0, 1) := by decide +kernel
theorem dX5_trainOn_116 : decode cX5_trainOn 116 = .ok (.getfield 20, 3) := by decide +kernel
theorem dX5_trainOn_119 : decode cX5_trainOn 119 = .ok (.iload 5, 2) := by decide +kernel
theorem dX5_trainOn_121 : decode cX5_trainOn 121 = .ok (.iaload, 1) := by decide +kernel
theorem dX5_trainOn_122 : decode cX5_trainOn 122 = .ok (.aload_n 0, 1) := by decide +kernel
theorem dX5_trainOn_123 : decode cX5_trainOn 123 = .ok (.getfield 32, 3) := by decide +kernel
theorem dX5_trainOn_126 : decode cX5_trainOn 126 = .ok (.iload_n 1, 1) := by decide +kernel
theorem dX5_trainOn_127 : decode cX5_trainOn 127 = .ok (.iaload, 1) := by decide +kernel
theorem dX5_trainOn_128 : decode cX5_trainOn 128 = .ok (.isub, 1) := by decide +kernel
theorem dX5_trainOn_129 : decode cX5_trainOn 129 = .ok (.invokestatic 117, 3) := by decide +kernel
theorem dX5_trainOn_132 : decode cX5_trainOn 132 = .ok (.iastore, 1) := by decide +kernel
theorem dX5_trainOn_133 : decode cX5_trainOn 133 = .ok (.iinc 2 1, 3) := by decide +kernel
theorem dX5_trainOn_136 : decode cX5_trainOn 136 = .ok (.goto 5, 3) := by decide +kernel
theorem dX5_trainOn_139 : decode cX5_trainOn 139 = .ok (.iconst 0, 1) := by decide +kernel
theorem dX5_trainOn_140 : decode cX5_trainOn 140 = .ok (.istore_n 3, 1) := by decide +kernel
theorem dX5_trainOn_141 : decode cX5_trainOn 141 = .ok (.iinc 4 1, 3) := by decide +kernel
theorem dX5_trainOn_144 : decode cX5_trainOn 144 = .ok (.goto (-117), 3) := by decide +kernel
theorem dX5_trainOn_147 : decode cX5_trainOn 147 = .ok (.aload_n 0, 1) := by decide +kernel
theorem dX5_trainOn_148 : decode cX5_trainOn 148 = .ok (.getfield 50, 3) := by decide +kernel
theorem dX5_trainOn_151 : decode cX5_trainOn 151 = .ok (.iload_n 1, 1) := by decide +kernel
theorem dX5_trainOn_152 : decode cX5_trainOn 152 = .ok (.dup2, 1) := by decide +kernel
theorem dX5_trainOn_153 : decode cX5_trainOn 153 = .ok (.iaload, 1) := by decide +kernel
theorem dX5_trainOn_154 : decode cX5_trainOn 154 = .ok (.iload_n 2, 1) := by decide +kernel
theorem dX5_trainOn_155 : decode cX5_trainOn 155 = .ok (.ifCond .ne 7, 3) := by decide +kernel
theorem dX5_trainOn_158 : decode cX5_trainOn 158 = .ok (.iconst 1, 1) := by decide +kernel
theorem dX5_trainOn_159 : decode cX5_trainOn 159 = .ok (.goto 4, 3) := by decide +kernel
theorem dX5_trainOn_162 : decode cX5_trainOn 162 = .ok (.iconst 0, 1) := by decide +kernel
theorem dX5_trainOn_163 : decode cX5_trainOn 163 = .ok (.iadd, 1) := by decide +kernel
theorem dX5_trainOn_164 : decode cX5_trainOn 164 = .ok (.iastore, 1) := by decide +kernel
theorem dX5_trainOn_165 : decode cX5_trainOn 165 = .ok (.return_, 1) := by decide +kernel
theorem dX5_hourOn_0 : decode cX5_hourOn 0 = .ok (.aload_n 0, 1) := by decide +kernel
theorem dX5_hourOn_1 : decode cX5_hourOn 1 = .ok (.getfield 120, 3) := by decide +kernel
theorem dX5_hourOn_4 : decode cX5_hourOn 4 = .ok (.bipush 24, 2) := by decide +kernel
theorem dX5_hourOn_6 : decode cX5_hourOn 6 = .ok (.irem, 1) := by decide +kernel
theorem dX5_hourOn_7 : decode cX5_hourOn 7 = .ok (.istore_n 1, 1) := by decide +kernel
theorem dX5_hourOn_8 : decode cX5_hourOn 8 = .ok (.iconst 0, 1) := by decide +kernel
theorem dX5_hourOn_9 : decode cX5_hourOn 9 = .ok (.istore_n 2, 1) := by decide +kernel
theorem dX5_hourOn_10 : decode cX5_hourOn 10 = .ok (.iload_n 2, 1) := by decide +kernel
theorem dX5_hourOn_11 : decode cX5_hourOn 11 = .ok (.aload_n 0, 1) := by decide +kernel
theorem dX5_hourOn_12 : decode cX5_hourOn 12 = .ok (.getfield 7, 3) := by decide +kernel
theorem dX5_hourOn_15 : decode cX5_hourOn 15 = .ok (.if_icmp .ge 77, 3) := by decide +kernel
theorem dX5_hourOn_18 : decode cX5_hourOn 18 = .ok (.iload_n 1, 1) := by decide +kernel
theorem dX5_hourOn_19 : decode cX5_hourOn 19 = .ok (.bipush 18, 2) := by decide +kernel
theorem dX5_hourOn_21 : decode cX5_hourOn 21 = .ok (.if_icmp .ge 8, 3) := by decide +kernel
theorem dX5_hourOn_24 : decode cX5_hourOn 24 = .ok (.iload_n 1, 1) := by decide +kernel
theorem dX5_hourOn_25 : decode cX5_hourOn 25 = .ok (.iconst 5, 1) := by decide +kernel
theorem dX5_hourOn_26 : decode cX5_hourOn 26 = .ok (.if_icmp .gt 27, 3) := by decide +kernel
theorem dX5_hourOn_29 : decode cX5_hourOn 29 = .ok (.aload_n 0, 1) := by decide +kernel
theorem dX5_hourOn_30 : decode cX5_hourOn 30 = .ok (.getfield 20, 3) := by decide +kernel
theorem dX5_hourOn_33 : decode cX5_hourOn 33 = .ok (.iload_n 2, 1) := by decide +kernel
theorem dX5_hourOn_34 : decode cX5_hourOn 34 = .ok (.aload_n 0, 1) := by decide +kernel
theorem dX5_hourOn_35 : decode cX5_hourOn 35 = .ok (.getfield 20, 3) := by decide +kernel
theorem dX5_hourOn_38 : decode cX5_hourOn 38 = .ok (.iload_n 2, 1) := by decide +kernel
theorem dX5_hourOn_39 : decode cX5_hourOn 39 = .ok (.iaload, 1) := by decide +kernel
theorem dX5_hourOn_40 : decode cX5_hourOn 40 = .ok (.aload_n 0, 1) := by decide +kernel
theorem dX5_hourOn_41 : decode cX5_hourOn 41 = .ok (.iload_n 2, 1) := by decide +kernel
theorem dX5_hourOn_42 : decode cX5_hourOn 42 = .ok (.invokevirtual 123, 3) := by decide +kernel
theorem dX5_hourOn_45 : decode cX5_hourOn 45 = .ok (.iadd, 1) := by decide +kernel
theorem dX5_hourOn_46 : decode cX5_hourOn 46 = .ok (.invokestatic 117, 3) := by decide +kernel
theorem dX5_hourOn_49 : decode cX5_hourOn 49 = .ok (.iastore, 1) := by decide +kernel
theorem dX5_hourOn_50 : decode cX5_hourOn 50 = .ok (.goto 36, 3) := by decide +kernel
theorem dX5_hourOn_53 : decode cX5_hourOn 53 = .ok (.iload_n 1, 1) := by decide +kernel
theorem dX5_hourOn_54 : decode cX5_hourOn 54 = .ok (.bipush 10, 2) := by decide +kernel
theorem dX5_hourOn_56 : decode cX5_hourOn 56 = .ok (.if_icmp .lt 30, 3) := by decide +kernel
theorem dX5_hourOn_59 : decode cX5_hourOn 59 = .ok (.iload_n 1, 1) := by decide +kernel
theorem dX5_hourOn_60 : decode cX5_hourOn 60 = .ok (.bipush 15, 2) := by decide +kernel
theorem dX5_hourOn_62 : decode cX5_hourOn 62 = .ok (.if_icmp .gt 24, 3) := by decide +kernel
theorem dX5_hourOn_65 : decode cX5_hourOn 65 = .ok (.aload_n 0, 1) := by decide +kernel
theorem dX5_hourOn_66 : decode cX5_hourOn 66 = .ok (.getfield 20, 3) := by decide +kernel
theorem dX5_hourOn_69 : decode cX5_hourOn 69 = .ok (.iload_n 2, 1) := by decide +kernel
theorem dX5_hourOn_70 : decode cX5_hourOn 70 = .ok (.aload_n 0, 1) := by decide +kernel
theorem dX5_hourOn_71 : decode cX5_hourOn 71 = .ok (.getfield 20, 3) := by decide +kernel
theorem dX5_hourOn_74 : decode cX5_hourOn 74 = .ok (.iload_n 2, 1) := by decide +kernel
theorem dX5_hourOn_75 : decode cX5_hourOn 75 = .ok (.iaload, 1) := by decide +kernel
theorem dX5_hourOn_76 : decode cX5_hourOn 76 = .ok (.aload_n 0, 1) := by decide +kernel
theorem dX5_hourOn_77 : decode cX5_hourOn 77 = .ok (.iload_n 2, 1) := by decide +kernel
theorem dX5_hourOn_78 : decode cX5_hourOn 78 = .ok (.invokevirtual 126, 3) := by decide +kernel
theorem dX5_hourOn_81 : decode cX5_hourOn 81 = .ok (.isub, 1) := by decide +kernel
theorem dX5_hourOn_82 : decode cX5_hourOn 82 = .ok (.invokestatic 117, 3) := by decide +kernel
theorem dX5_hourOn_85 : decode cX5_hourOn 85 = .ok (.iastore, 1) := by decide +kernel
theorem dX5_hourOn_86 : decode cX5_hourOn 86 = .ok (.iinc 2 1, 3) := by decide +kernel
theorem dX5_hourOn_89 : decode cX5_hourOn 89 = .ok (.goto (-79), 3) := by decide +kernel
theorem dX5_hourOn_92 : decode cX5_hourOn 92 = .ok (.iconst 0, 1) := by decide +kernel
theorem dX5_hourOn_93 : decode cX5_hourOn 93 = .ok (.istore_n 2, 1) := by decide +kernel
theorem dX5_hourOn_94 : decode cX5_hourOn 94 = .ok (.iload_n 2, 1) := by decide +kernel
theorem dX5_hourOn_95 : decode cX5_hourOn 95 = .ok (.aload_n 0, 1) := by decide +kernel
theorem dX5_hourOn_96 : decode cX5_hourOn 96 = .ok (.getfield 99, 3) := by decide +kernel
theorem dX5_hourOn_99 : decode cX5_hourOn 99 = .ok (.if_icmp .ge 23, 3) := by decide +kernel
theorem dX5_hourOn_102 : decode cX5_hourOn 102 = .ok (.aload_n 0, 1) := by decide +kernel
theorem dX5_hourOn_103 : decode cX5_hourOn 103 = .ok (.getfield 44, 3) := by decide +kernel
theorem dX5_hourOn_106 : decode cX5_hourOn 106 = .ok (.iload_n 2, 1) := by decide +kernel
theorem dX5_hourOn_107 : decode cX5_hourOn 107 = .ok (.iaload, 1) := by decide +kernel
theorem dX5_hourOn_108 : decode cX5_hourOn 108 = .ok (.ifCond .ne 8, 3) := by decide +kernel
theorem dX5_hourOn_111 : decode cX5_hourOn 111 = .ok (.aload_n 0, 1) := by decide +kernel
theorem dX5_hourOn_112 : decode cX5_hourOn 112 = .ok (.iload_n 2, 1) := by decide +kernel
theorem dX5_hourOn_113 : decode cX5_hourOn 113 = .ok (.invokevirtual 129, 3) := by decide +kernel
theorem dX5_hourOn_116 : decode cX5_hourOn 116 = .ok (.iinc 2 1, 3) := by decide +kernel
theorem dX5_hourOn_119 : decode cX5_hourOn 119 = .ok (.goto (-25), 3) := by decide +kernel
theorem dX5_hourOn_122 : decode cX5_hourOn 122 = .ok (.iconst 0, 1) := by decide +kernel
theorem dX5_hourOn_123 : decode cX5_hourOn 123 = .ok (.istore_n 2, 1) := by decide +kernel
theorem dX5_hourOn_124 : decode cX5_hourOn 124 = .ok (.iload_n 2, 1) := by decide +kernel
theorem dX5_hourOn_125 : decode cX5_hourOn 125 = .ok (.aload_n 0, 1) := by decide +kernel
theorem dX5_hourOn_126 : decode cX5_hourOn 126 = .ok (.getfield 99, 3) := by decide +kernel
theorem dX5_hourOn_129 : decode cX5_hourOn 129 = .ok (.if_icmp .ge 66, 3) := by decide +kernel
theorem dX5_hourOn_132 : decode cX5_hourOn 132 = .ok (.aload_n 0, 1) := by decide +kernel
theorem dX5_hourOn_133 : decode cX5_hourOn 133 = .ok (.getfield 44, 3) := by decide +kernel
theorem dX5_hourOn_136 : decode cX5_hourOn 136 = .ok (.iload_n 2, 1) := by decide +kernel
theorem dX5_hourOn_137 : decode cX5_hourOn 137 = .ok (.iaload, 1) := by decide +kernel
theorem dX5_hourOn_138 : decode cX5_hourOn 138 = .ok (.ifCond .ne 51, 3) := by decide +kernel
theorem dX5_hourOn_141 : decode cX5_hourOn 141 = .ok (.aload_n 0, 1) := by decide +kernel
theorem dX5_hourOn_142 : decode cX5_hourOn 142 = .ok (.getfield 38, 3) := by decide +kernel
theorem dX5_hourOn_145 : decode cX5_hourOn 145 = .ok (.iload_n 2, 1) := by decide +kernel
theorem dX5_hourOn_146 : decode cX5_hourOn 146 = .ok (.iaload, 1) := by decide +kernel
theorem dX5_hourOn_147 : decode cX5_hourOn 147 = .ok (.ifCond .lt 42, 3) := by decide +kernel
theorem dX5_hourOn_150 : decode cX5_hourOn 150 = .ok (.aload_n 0, 1) := by decide +kernel
theorem dX5_hourOn_151 : decode cX5_hourOn 151 = .ok (.getfield 20, 3) := by decide +kernel
theorem dX5_hourOn_154 : decode cX5_hourOn 154 = .ok (.aload_n 0, 1) := by decide +kernel
theorem dX5_hourOn_155 : decode cX5_hourOn 155 = .ok (.getfield 38, 3) := by decide +kernel
theorem dX5_hourOn_158 : decode cX5_hourOn 158 = .ok (.iload_n 2, 1) := by decide +kernel
theorem dX5_hourOn_159 : decode cX5_hourOn 159 = .ok (.iaload, 1) := by decide +kernel
theorem dX5_hourOn_160 : decode cX5_hourOn 160 = .ok (.iaload, 1) := by decide +kernel
theorem dX5_hourOn_161 : decode cX5_hourOn 161 = .ok (.aload_n 0, 1) := by decide +kernel
theorem dX5_hourOn_162 : decode cX5_hourOn 162 = .ok (.aload_n 0, 1) := by decide +kernel
theorem dX5_hourOn_163 : decode cX5_hourOn 163 = .ok (.getfield 38, 3) := by decide +kernel
theorem dX5_hourOn_166 : decode cX5_hourOn 166 = .ok (.iload_n 2, 1) := by decide +kernel
theorem dX5_hourOn_167 : decode cX5_hourOn 167 = .ok (.iaload, 1) := by decide +kernel
theorem dX5_hourOn_168 : decode cX5_hourOn 168 = .ok (.aload_n 0, 1) := by decide +kernel
theorem dX5_hourOn_169 : decode cX5_hourOn 169 = .ok (.getfield 29, 3) := by decide +kernel
theorem dX5_hourOn_172 : decode cX5_hourOn 172 = .ok (.iload_n 2, 1) := by decide +kernel
theorem dX5_hourOn_173 : decode cX5_hourOn 173 = .ok (.iaload, 1) := by decide +kernel
theorem dX5_hourOn_174 : decode cX5_hourOn 174 = .ok (.invokevirtual 106, 3) := by decide +kernel
theorem dX5_hourOn_177 : decode cX5_hourOn 177 = .ok (.iconst 2, 1) := by decide +kernel
theorem dX5_hourOn_178 : decode cX5_hourOn 178 = .ok (.idiv, 1) := by decide +kernel
theorem dX5_hourOn_179 : decode cX5_hourOn 179 = .ok (.if_icmp .ge 10, 3) := by decide +kernel
theorem dX5_hourOn_182 : decode cX5_hourOn 182 = .ok (.aload_n 0, 1) := by decide +kernel
theorem dX5_hourOn_183 : decode cX5_hourOn 183 = .ok (.getfield 44, 3) := by decide +kernel
theorem dX5_hourOn_186 : decode cX5_hourOn 186 = .ok (.iload_n 2, 1) := by decide +kernel
theorem dX5_hourOn_187 : decode cX5_hourOn 187 = .ok (.iconst 2, 1) := by decide +kernel
theorem dX5_hourOn_188 : decode cX5_hourOn 188 = .ok (.iastore, 1) := by decide +kernel
theorem dX5_hourOn_189 : decode cX5_hourOn 189 = .ok (.iinc 2 1, 3) := by decide +kernel
theorem dX5_hourOn_192 : decode cX5_hourOn 192 = .ok (.goto (-68), 3) := by decide +kernel
theorem dX5_hourOn_195 : decode cX5_hourOn 195 = .ok (.aload_n 0, 1) := by decide +kernel
theorem dX5_hourOn_196 : decode cX5_hourOn 196 = .ok (.dup, 1) := by decide +kernel
theorem dX5_hourOn_197 : decode cX5_hourOn 197 = .ok (.getfield 120, 3) := by decide +kernel
theorem dX5_hourOn_200 : decode cX5_hourOn 200 = .ok (.iconst 1, 1) := by decide +kernel
theorem dX5_hourOn_201 : decode cX5_hourOn 201 = .ok (.iadd, 1) := by decide +kernel
theorem dX5_hourOn_202 : decode cX5_hourOn 202 = .ok (.putfield 120, 3) := by decide +kernel
theorem dX5_hourOn_205 : decode cX5_hourOn 205 = .ok (.return_, 1) := by decide +kernel
theorem dX5_goHours_0 : decode cX5_goHours 0 = .ok (.iconst 0, 1) := by decide +kernel
theorem dX5_goHours_1 : decode cX5_goHours 1 = .ok (.istore_n 2, 1) := by decide +kernel
theorem dX5_goHours_2 : decode cX5_goHours 2 = .ok (.iload_n 2, 1) := by decide +kernel
theorem dX5_goHours_3 : decode cX5_goHours 3 = .ok (.iconst 5, 1) := by decide +kernel
theorem dX5_goHours_4 : decode cX5_goHours 4 = .ok (.if_icmp .ge 24, 3) := by decide +kernel
theorem dX5_goHours_7 : decode cX5_goHours 7 = .ok (.aload_n 0, 1) := by decide +kernel
theorem dX5_goHours_8 : decode cX5_goHours 8 = .ok (.getfield 50, 3) := by decide +kernel
theorem dX5_goHours_11 : decode cX5_goHours 11 = .ok (.iload_n 2, 1) := by decide +kernel
theorem dX5_goHours_12 : decode cX5_goHours 12 = .ok (.iconst 0, 1) := by decide +kernel
theorem dX5_goHours_13 : decode cX5_goHours 13 = .ok (.iastore, 1) := by decide +kernel
theorem dX5_goHours_14 : decode cX5_goHours 14 = .ok (.aload_n 0, 1) := by decide +kernel
theorem dX5_goHours_15 : decode cX5_goHours 15 = .ok (.getfield 53, 3) := by decide +kernel
theorem dX5_goHours_18 : decode cX5_goHours 18 = .ok (.iload_n 2, 1) := by decide +kernel
theorem dX5_goHours_19 : decode cX5_goHours 19 = .ok (.bipush (-9), 2) := by decide +kernel
theorem dX5_goHours_21 : decode cX5_goHours 21 = .ok (.iastore, 1) := by decide +kernel
theorem dX5_goHours_22 : decode cX5_goHours 22 = .ok (.iinc 2 1, 3) := by decide +kernel
theorem dX5_goHours_25 : decode cX5_goHours 25 = .ok (.goto (-23), 3) := by decide +kernel
theorem dX5_goHours_28 : decode cX5_goHours 28 = .ok (.iconst 1, 1) := by decide +kernel
theorem dX5_goHours_29 : decode cX5_goHours 29 = .ok (.istore_n 2, 1) := by decide +kernel
theorem dX5_goHours_30 : decode cX5_goHours 30 = .ok (.iload_n 2, 1) := by decide +kernel
theorem dX5_goHours_31 : decode cX5_goHours 31 = .ok (.iload_n 1, 1) := by decide +kernel
theorem dX5_goHours_32 : decode cX5_goHours 32 = .ok (.if_icmp .gt 109, 3) := by decide +kernel
theorem dX5_goHours_35 : decode cX5_goHours 35 = .ok (.iconst 0, 1) := by decide +kernel
theorem dX5_goHours_36 : decode cX5_goHours 36 = .ok (.istore_n 3, 1) := by decide +kernel
theorem dX5_goHours_37 : decode cX5_goHours 37 = .ok (.iconst 0, 1) := by decide +kernel
theorem dX5_goHours_38 : decode cX5_goHours 38 = .ok (.istore 4, 2) := by decide +kernel
theorem dX5_goHours_40 : decode cX5_goHours 40 = .ok (.iload 4, 2) := by decide +kernel
theorem dX5_goHours_42 : decode cX5_goHours 42 = .ok (.aload_n 0, 1) := by decide +kernel
theorem dX5_goHours_43 : decode cX5_goHours 43 = .ok (.getfield 99, 3) := by decide +kernel
theorem dX5_goHours_46 : decode cX5_goHours 46 = .ok (.if_icmp .ge 30, 3) := by decide +kernel
theorem dX5_goHours_49 : decode cX5_goHours 49 = .ok (.iload_n 3, 1) := by decide +kernel
theorem dX5_goHours_50 : decode cX5_goHours 50 = .ok (.aload_n 0, 1) := by decide +kernel
theorem dX5_goHours_51 : decode cX5_goHours 51 = .ok (.getfield 44, 3) := by decide +kernel
theorem dX5_goHours_54 : decode cX5_goHours 54 = .ok (.iload 4, 2) := by decide +kernel
theorem dX5_goHours_56 : decode cX5_goHours 56 = .ok (.iaload, 1) := by decide +kernel
theorem dX5_goHours_57 : decode cX5_goHours 57 = .ok (.ifCond .eq 10, 3) := by decide +kernel
theorem dX5_goHours_60 : decode cX5_goHours 60 = .ok (.iconst 1, 1) := by decide +kernel
theorem dX5_goHours_61 : decode cX5_goHours 61 = .ok (.iload 4, 2) := by decide +kernel
theorem dX5_goHours_63 : decode cX5_goHours 63 = .ok (.ishl, 1) := by decide +kernel
theorem dX5_goHours_64 : decode cX5_goHours 64 = .ok (.goto 4, 3) := by decide +kernel
theorem dX5_goHours_67 : decode cX5_goHours 67 = .ok (.iconst 0, 1) := by decide +kernel
theorem dX5_goHours_68 : decode cX5_goHours 68 = .ok (.ior, 1) := by decide +kernel
theorem dX5_goHours_69 : decode cX5_goHours 69 = .ok (.istore_n 3, 1) := by decide +kernel
theorem dX5_goHours_70 : decode cX5_goHours 70 = .ok (.iinc 4 1, 3) := by decide +kernel
theorem dX5_goHours_73 : decode cX5_goHours 73 = .ok (.goto (-33), 3) := by decide +kernel
theorem dX5_goHours_76 : decode cX5_goHours 76 = .ok (.aload_n 0, 1) := by decide +kernel
theorem dX5_goHours_77 : decode cX5_goHours 77 = .ok (.invokevirtual 133, 3) := by decide +kernel
theorem dX5_goHours_80 : decode cX5_goHours 80 = .ok (.iconst 0, 1) := by decide +kernel
theorem dX5_goHours_81 : decode cX5_goHours 81 = .ok (.istore 4, 2) := by decide +kernel
theorem dX5_goHours_83 : decode cX5_goHours 83 = .ok (.iload 4, 2) := by decide +kernel
theorem dX5_goHours_85 : decode cX5_goHours 85 = .ok (.aload_n 0, 1) := by decide +kernel
theorem dX5_goHours_86 : decode cX5_goHours 86 = .ok (.getfield 99, 3) := by decide +kernel
theorem dX5_goHours_89 : decode cX5_goHours 89 = .ok (.if_icmp .ge 46, 3) := by decide +kernel
theorem dX5_goHours_92 : decode cX5_goHours 92 = .ok (.aload_n 0, 1) := by decide +kernel
theorem dX5_goHours_93 : decode cX5_goHours 93 = .ok (.getfield 53, 3) := by decide +kernel
theorem dX5_goHours_96 : decode cX5_goHours 96 = .ok (.iload 4, 2) := by decide +kernel
theorem dX5_goHours_98 : decode cX5_goHours 98 = .ok (.aload_n 0, 1) := by decide +kernel
theorem dX5_goHours_99 : decode cX5_goHours 99 = .ok (.getfield 44, 3) := by decide +kernel
theorem dX5_goHours_102 : decode cX5_goHours 102 = .ok (.iload 4, 2) := by decide +kernel
theorem dX5_goHours_104 : decode cX5_goHours 104 = .ok (.iaload, 1) := by decide +kernel
theorem dX5_goHours_105 : decode cX5_goHours 105 = .ok (.ifCond .eq 16, 3) := by decide +kernel
theorem dX5_goHours_108 : decode cX5_goHours 108 = .ok (.iload_n 3, 1) := by decide +kernel
theorem dX5_goHours_109 : decode cX5_goHours 109 = .ok (.iload 4, 2) := by decide +kernel
theorem dX5_goHours_111 : decode cX5_goHours 111 = .ok (.invokestatic 136, 3) := by decide +kernel
theorem dX5_goHours_114 : decode cX5_goHours 114 = .ok (.ifCond .ne 7, 3) := by decide +kernel
theorem dX5_goHours_117 : decode cX5_goHours 117 = .ok (.iload_n 2, 1) := by decide +kernel
theorem dX5_goHours_118 : decode cX5_goHours 118 = .ok (.goto 10, 3) := by decide +kernel
theorem dX5_goHours_121 : decode cX5_goHours 121 = .ok (.aload_n 0, 1) := by decide +kernel
theorem dX5_goHours_122 : decode cX5_goHours 122 = .ok (.getfield 53, 3) := by decide +kernel
theorem dX5_goHours_125 : decode cX5_goHours 125 = .ok (.iload 4, 2) := by decide +kernel
theorem dX5_goHours_127 : decode cX5_goHours 127 = .ok (.iaload, 1) := by decide +kernel
theorem dX5_goHours_128 : decode cX5_goHours 128 = .ok (.iastore, 1) := by decide +kernel
theorem dX5_goHours_129 : decode cX5_goHours 129 = .ok (.iinc 4 1, 3) := by decide +kernel
theorem dX5_goHours_132 : decode cX5_goHours 132 = .ok (.goto (-49), 3) := by decide +kernel
theorem dX5_goHours_135 : decode cX5_goHours 135 = .ok (.iinc 2 1, 3) := by decide +kernel
theorem dX5_goHours_138 : decode cX5_goHours 138 = .ok (.goto (-108), 3) := by decide +kernel
theorem dX5_goHours_141 : decode cX5_goHours 141 = .ok (.return_, 1) := by decide +kernel
theorem dX5_howMany_0 : decode cX5_howMany 0 = .ok (.iconst 0, 1) := by decide +kernel
theorem dX5_howMany_1 : decode cX5_howMany 1 = .ok (.istore_n 2, 1) := by decide +kernel
theorem dX5_howMany_2 : decode cX5_howMany 2 = .ok (.iconst 0, 1) := by decide +kernel
theorem dX5_howMany_3 : decode cX5_howMany 3 = .ok (.istore_n 3, 1) := by decide +kernel
theorem dX5_howMany_4 : decode cX5_howMany 4 = .ok (.iload_n 3, 1) := by decide +kernel
theorem dX5_howMany_5 : decode cX5_howMany 5 = .ok (.aload_n 0, 1) := by decide +kernel
theorem dX5_howMany_6 : decode cX5_howMany 6 = .ok (.getfield 99, 3) := by decide +kernel
theorem dX5_howMany_9 : decode cX5_howMany 9 = .ok (.if_icmp .ge 27, 3) := by decide +kernel
theorem dX5_howMany_12 : decode cX5_howMany 12 = .ok (.iload_n 2, 1) := by decide +kernel
theorem dX5_howMany_13 : decode cX5_howMany 13 = .ok (.aload_n 0, 1) := by decide +kernel
theorem dX5_howMany_14 : decode cX5_howMany 14 = .ok (.getfield 44, 3) := by decide +kernel
theorem dX5_howMany_17 : decode cX5_howMany 17 = .ok (.iload_n 3, 1) := by decide +kernel
theorem dX5_howMany_18 : decode cX5_howMany 18 = .ok (.iaload, 1) := by decide +kernel
theorem dX5_howMany_19 : decode cX5_howMany 19 = .ok (.iload_n 1, 1) := by decide +kernel
theorem dX5_howMany_20 : decode cX5_howMany 20 = .ok (.if_icmp .ne 7, 3) := by decide +kernel
theorem dX5_howMany_23 : decode cX5_howMany 23 = .ok (.iconst 1, 1) := by decide +kernel
theorem dX5_howMany_24 : decode cX5_howMany 24 = .ok (.goto 4, 3) := by decide +kernel
theorem dX5_howMany_27 : decode cX5_howMany 27 = .ok (.iconst 0, 1) := by decide +kernel
theorem dX5_howMany_28 : decode cX5_howMany 28 = .ok (.iadd, 1) := by decide +kernel
theorem dX5_howMany_29 : decode cX5_howMany 29 = .ok (.istore_n 2, 1) := by decide +kernel
theorem dX5_howMany_30 : decode cX5_howMany 30 = .ok (.iinc 3 1, 3) := by decide +kernel
theorem dX5_howMany_33 : decode cX5_howMany 33 = .ok (.goto (-29), 3) := by decide +kernel
theorem dX5_howMany_36 : decode cX5_howMany 36 = .ok (.iload_n 2, 1) := by decide +kernel
theorem dX5_howMany_37 : decode cX5_howMany 37 = .ok (.ireturn, 1) := by decide +kernel
theorem dX5_feed_0 : decode cX5_feed 0 = .ok (.aload_n 0, 1) := by decide +kernel
theorem dX5_feed_1 : decode cX5_feed 1 = .ok (.iconst 0, 1) := by decide +kernel
theorem dX5_feed_2 : decode cX5_feed 2 = .ok (.putfield 92, 3) := by decide +kernel
theorem dX5_feed_5 : decode cX5_feed 5 = .ok (.iload_n 1, 1) := by decide +kernel
theorem dX5_feed_6 : decode cX5_feed 6 = .ok (.ifCond .ge 10, 3) := by decide +kernel
theorem dX5_feed_9 : decode cX5_feed 9 = .ok (.aload_n 0, 1) := by decide +kernel
theorem dX5_feed_10 : decode cX5_feed 10 = .ok (.bipush (-4), 2) := by decide +kernel
theorem dX5_feed_12 : decode cX5_feed 12 = .ok (.invokevirtual 139, 3) := by decide +kernel
theorem dX5_feed_15 : decode cX5_feed 15 = .ok (.ireturn, 1) := by decide +kernel
theorem dX5_feed_16 : decode cX5_feed 16 = .ok (.iload_n 1, 1) := by decide +kernel
theorem dX5_feed_17 : decode cX5_feed 17 = .ok (.sipush 255, 3) := by decide +kernel
theorem dX5_feed_20 : decode cX5_feed 20 = .ok (.if_icmp .gt 12, 3) := by decide +kernel
theorem dX5_feed_23 : decode cX5_feed 23 = .ok (.aload_n 0, 1) := by decide +kernel
theorem dX5_feed_24 : decode cX5_feed 24 = .ok (.getfield 142, 3) := by decide +kernel
theorem dX5_feed_27 : decode cX5_feed 27 = .ok (.bipush 96, 2) := by decide +kernel
theorem dX5_feed_29 : decode cX5_feed 29 = .ok (.if_icmp .ne 10, 3) := by decide +kernel
theorem dX5_feed_32 : decode cX5_feed 32 = .ok (.aload_n 0, 1) := by decide +kernel
theorem dX5_feed_33 : decode cX5_feed 33 = .ok (.bipush (-6), 2) := by decide +kernel
theorem dX5_feed_35 : decode cX5_feed 35 = .ok (.invokevirtual 139, 3) := by decide +kernel
theorem dX5_feed_38 : decode cX5_feed 38 = .ok (.ireturn, 1) := by decide +kernel
theorem dX5_feed_39 : decode cX5_feed 39 = .ok (.aload_n 0, 1) := by decide +kernel
theorem dX5_feed_40 : decode cX5_feed 40 = .ok (.getfield 56, 3) := by decide +kernel
theorem dX5_feed_43 : decode cX5_feed 43 = .ok (.aload_n 0, 1) := by decide +kernel
theorem dX5_feed_44 : decode cX5_feed 44 = .ok (.getfield 142, 3) := by decide +kernel
theorem dX5_feed_47 : decode cX5_feed 47 = .ok (.iload_n 1, 1) := by decide +kernel
theorem dX5_feed_48 : decode cX5_feed 48 = .ok (.iastore, 1) := by decide +kernel
theorem dX5_feed_49 : decode cX5_feed 49 = .ok (.aload_n 0, 1) := by decide +kernel
theorem dX5_feed_50 : decode cX5_feed 50 = .ok (.dup, 1) := by decide +kernel
theorem dX5_feed_51 : decode cX5_feed 51 = .ok (.getfield 142, 3) := by decide +kernel
theorem dX5_feed_54 : decode cX5_feed 54 = .ok (.iconst 1, 1) := by decide +kernel
theorem dX5_feed_55 : decode cX5_feed 55 = .ok (.iadd, 1) := by decide +kernel
theorem dX5_feed_56 : decode cX5_feed 56 = .ok (.putfield 142, 3) := by decide +kernel
theorem dX5_feed_59 : decode cX5_feed 59 = .ok (.aload_n 0, 1) := by decide +kernel
theorem dX5_feed_60 : decode cX5_feed 60 = .ok (.getfield 142, 3) := by decide +kernel
theorem dX5_feed_63 : decode cX5_feed 63 = .ok (.ireturn, 1) := by decide +kernel
theorem dX5_here_0 : decode cX5_here 0 = .ok (.aload_n 0, 1) := by decide +kernel
theorem dX5_here_1 : decode cX5_here 1 = .ok (.getfield 145, 3) := by decide +kernel
theorem dX5_here_4 : decode cX5_here 4 = .ok (.aload_n 0, 1) := by decide +kernel
theorem dX5_here_5 : decode cX5_here 5 = .ok (.getfield 142, 3) := by decide +kernel
theorem dX5_here_8 : decode cX5_here 8 = .ok (.if_icmp .ge 15, 3) := by decide +kernel
theorem dX5_here_11 : decode cX5_here 11 = .ok (.aload_n 0, 1) := by decide +kernel
theorem dX5_here_12 : decode cX5_here 12 = .ok (.getfield 56, 3) := by decide +kernel
theorem dX5_here_15 : decode cX5_here 15 = .ok (.aload_n 0, 1) := by decide +kernel
theorem dX5_here_16 : decode cX5_here 16 = .ok (.getfield 145, 3) := by decide +kernel
theorem dX5_here_19 : decode cX5_here 19 = .ok (.iaload, 1) := by decide +kernel
theorem dX5_here_20 : decode cX5_here 20 = .ok (.goto 4, 3) := by decide +kernel
theorem dX5_here_23 : decode cX5_here 23 = .ok (.iconst (-1), 1) := by decide +kernel
theorem dX5_here_24 : decode cX5_here 24 = .ok (.ireturn, 1) := by decide +kernel
theorem dX5_readDigits_0 : decode cX5_readDigits 0 = .ok (.iconst 0, 1) := by decide +kernel
theorem dX5_readDigits_1 : decode cX5_readDigits 1 = .ok (.istore_n 2, 1) := by decide +kernel
theorem dX5_readDigits_2 : decode cX5_readDigits 2 = .ok (.iconst 0, 1) := by decide +kernel
theorem dX5_readDigits_3 : decode cX5_readDigits 3 = .ok (.istore_n 3, 1) := by decide +kernel
theorem dX5_readDigits_4 : decode cX5_readDigits 4 = .ok (.iload_n 3, 1) := by decide +kernel
theorem dX5_readDigits_5 : decode cX5_readDigits 5 = .ok (.iload_n 1, 1) := by decide +kernel
theorem dX5_readDigits_6 : decode cX5_readDigits 6 = .ok (.if_icmp .ge 92, 3) := by decide +kernel
theorem dX5_readDigits_9 : decode cX5_readDigits 9 = .ok (.aload_n 0, 1) := by decide +kernel
theorem dX5_readDigits_10 : decode cX5_readDigits 10 = .ok (.aload_n 0, 1) := by decide +kernel
theorem dX5_readDigits_11 : decode cX5_readDigits 11 = .ok (.getfield 148, 3) := by decide +kernel
theorem dX5_readDigits_14 : decode cX5_readDigits 14 = .ok (.ifCond .ne 20, 3) := by decide +kernel
theorem dX5_readDigits_17 : decode cX5_readDigits 17 = .ok (.aload_n 0, 1) := by decide +kernel
theorem dX5_readDigits_18 : decode cX5_readDigits 18 = .ok (.invokevirtual 152, 3) := by decide +kernel
theorem dX5_readDigits_21 : decode cX5_readDigits 21 = .ok (.i2l, 1) := by decide +kernel
theorem dX5_readDigits_22 : decode cX5_readDigits 22 = .ok (.ldc2_w 156, 3) := by decide +kernel
theorem dX5_readDigits_25 : decode cX5_readDigits 25 = .ok (.ldc2_w 158, 3) := by decide +kernel
theorem dX5_readDigits_28 : decode cX5_readDigits 28 = .ok (.invokestatic 95, 3) := by decide +kernel
theorem dX5_readDigits_31 : decode cX5_readDigits 31 = .ok (.ifCond .ne 7, 3) := by decide +kernel
theorem dX5_readDigits_34 : decode cX5_readDigits 34 = .ok (.iconst 1, 1) := by decide +kernel
theorem dX5_readDigits_35 : decode cX5_readDigits 35 = .ok (.goto 4, 3) := by decide +kernel
theorem dX5_readDigits_38 : decode cX5_readDigits 38 = .ok (.iconst 0, 1) := by decide +kernel
theorem dX5_readDigits_39 : decode cX5_readDigits 39 = .ok (.putfield 148, 3) := by decide +kernel
theorem dX5_readDigits_42 : decode cX5_readDigits 42 = .ok (.aload_n 0, 1) := by decide +kernel
theorem dX5_readDigits_43 : decode cX5_readDigits 43 = .ok (.getfield 148, 3) := by decide +kernel
theorem dX5_readDigits_46 : decode cX5_readDigits 46 = .ok (.ifCond .eq 7, 3) := by decide +kernel
theorem dX5_readDigits_49 : decode cX5_readDigits 49 = .ok (.iconst 0, 1) := by decide +kernel
theorem dX5_readDigits_50 : decode cX5_readDigits 50 = .ok (.goto 20, 3) := by decide +kernel
theorem dX5_readDigits_53 : decode cX5_readDigits 53 = .ok (.bipush 10, 2) := by decide +kernel
theorem dX5_readDigits_55 : decode cX5_readDigits 55 = .ok (.iload_n 2, 1) := by decide +kernel
theorem dX5_readDigits_56 : decode cX5_readDigits 56 = .ok (.imul, 1) := by decide +kernel
theorem dX5_readDigits_57 : decode cX5_readDigits 57 = .ok (.aload_n 0, 1) := by decide +kernel
theorem dX5_readDigits_58 : decode cX5_readDigits 58 = .ok (.getfield 56, 3) := by decide +kernel
theorem dX5_readDigits_61 : decode cX5_readDigits 61 = .ok (.aload_n 0, 1) := by decide +kernel
theorem dX5_readDigits_62 : decode cX5_readDigits 62 = .ok (.getfield 145, 3) := by decide +kernel
theorem dX5_readDigits_65 : decode cX5_readDigits 65 = .ok (.iaload, 1) := by decide +kernel
theorem dX5_readDigits_66 : decode cX5_readDigits 66 = .ok (.iadd, 1) := by decide +kernel
theorem dX5_readDigits_67 : decode cX5_readDigits 67 = .ok (.bipush 48, 2) := by decide +kernel
theorem dX5_readDigits_69 : decode cX5_readDigits 69 = .ok (.isub, 1) := by decide +kernel
theorem dX5_readDigits_70 : decode cX5_readDigits 70 = .ok (.istore_n 2, 1) := by decide +kernel
theorem dX5_readDigits_71 : decode cX5_readDigits 71 = .ok (.aload_n 0, 1) := by decide +kernel
theorem dX5_readDigits_72 : decode cX5_readDigits 72 = .ok (.dup, 1) := by decide +kernel
theorem dX5_readDigits_73 : decode cX5_readDigits 73 = .ok (.getfield 145, 3) := by decide +kernel
theorem dX5_readDigits_76 : decode cX5_readDigits 76 = .ok (.aload_n 0, 1) := by decide +kernel
theorem dX5_readDigits_77 : decode cX5_readDigits 77 = .ok (.getfield 148, 3) := by decide +kernel
theorem dX5_readDigits_80 : decode cX5_readDigits 80 = .ok (.ifCond .eq 7, 3) := by decide +kernel
theorem dX5_readDigits_83 : decode cX5_readDigits 83 = .ok (.iconst 0, 1) := by decide +kernel
theorem dX5_readDigits_84 : decode cX5_readDigits 84 = .ok (.goto 4, 3) := by decide +kernel
theorem dX5_readDigits_87 : decode cX5_readDigits 87 = .ok (.iconst 1, 1) := by decide +kernel
theorem dX5_readDigits_88 : decode cX5_readDigits 88 = .ok (.iadd, 1) := by decide +kernel
theorem dX5_readDigits_89 : decode cX5_readDigits 89 = .ok (.putfield 145, 3) := by decide +kernel
theorem dX5_readDigits_92 : decode cX5_readDigits 92 = .ok (.iinc 3 1, 3) := by decide +kernel
theorem dX5_readDigits_95 : decode cX5_readDigits 95 = .ok (.goto (-91), 3) := by decide +kernel
theorem dX5_readDigits_98 : decode cX5_readDigits 98 = .ok (.iload_n 2, 1) := by decide +kernel
theorem dX5_readDigits_99 : decode cX5_readDigits 99 = .ok (.ireturn, 1) := by decide +kernel
theorem dX5_isLetter_0 : decode cX5_isLetter 0 = .ok (.iload_n 0, 1) := by decide +kernel
theorem dX5_isLetter_1 : decode cX5_isLetter 1 = .ok (.bipush 110, 2) := by decide +kernel
theorem dX5_isLetter_3 : decode cX5_isLetter 3 = .ok (.if_icmp .eq 33, 3) := by decide +kernel
theorem dX5_isLetter_6 : decode cX5_isLetter 6 = .ok (.iload_n 0, 1) := by decide +kernel
theorem dX5_isLetter_7 : decode cX5_isLetter 7 = .ok (.bipush 121, 2) := by decide +kernel
theorem dX5_isLetter_9 : decode cX5_isLetter 9 = .ok (.if_icmp .eq 27, 3) := by decide +kernel
theorem dX5_isLetter_12 : decode cX5_isLetter 12 = .ok (.iload_n 0, 1) := by decide +kernel
theorem dX5_isLetter_13 : decode cX5_isLetter 13 = .ok (.bipush 116, 2) := by decide +kernel
theorem dX5_isLetter_15 : decode cX5_isLetter 15 = .ok (.if_icmp .eq 21, 3) := by decide +kernel
theorem dX5_isLetter_18 : decode cX5_isLetter 18 = .ok (.iload_n 0, 1) := by decide +kernel
theorem dX5_isLetter_19 : decode cX5_isLetter 19 = .ok (.bipush 119, 2) := by decide +kernel
theorem dX5_isLetter_21 : decode cX5_isLetter 21 = .ok (.if_icmp .eq 15, 3) := by decide +kernel
