theorem dX0_freezes_0 : decode cX0_freezes 0 = .ok (.iload_n 0, 1) := by decide +kernel
theorem dX0_freezes_1 : decode cX0_freezes 1 = .ok (.tableswitch 49 1 4 #[31, 49, 35, 39], 31) := by decide +kernel
theorem dX0_freezes_32 : decode cX0_freezes 32 = .ok (.iload_n 2, 1) := by decide +kernel
theorem dX0_freezes_33 : decode cX0_freezes 33 = .ok (.iconst 2, 1) := by decide +kernel
theorem dX0_freezes_34 : decode cX0_freezes 34 = .ok (.idiv, 1) := by decide +kernel
theorem dX0_freezes_35 : decode cX0_freezes 35 = .ok (.ireturn, 1) := by decide +kernel
theorem dX0_freezes_36 : decode cX0_freezes 36 = .ok (.iload_n 2, 1) := by decide +kernel
theorem dX0_freezes_37 : decode cX0_freezes 37 = .ok (.iload_n 1, 1) := by decide +kernel
theorem dX0_freezes_38 : decode cX0_freezes 38 = .ok (.iadd, 1) := by decide +kernel
theorem dX0_freezes_39 : decode cX0_freezes 39 = .ok (.ireturn, 1) := by decide +kernel
theorem dX0_freezes_40 : decode cX0_freezes 40 = .ok (.iconst 0, 1) := by decide +kernel
theorem dX0_freezes_41 : decode cX0_freezes 41 = .ok (.iload_n 2, 1) := by decide +kernel
theorem dX0_freezes_42 : decode cX0_freezes 42 = .ok (.iload_n 1, 1) := by decide +kernel
theorem dX0_freezes_43 : decode cX0_freezes 43 = .ok (.iadd, 1) := by decide +kernel
theorem dX0_freezes_44 : decode cX0_freezes 44 = .ok (.iconst 2, 1) := by decide +kernel
theorem dX0_freezes_45 : decode cX0_freezes 45 = .ok (.isub, 1) := by decide +kernel
theorem dX0_freezes_46 : decode cX0_freezes 46 = .ok (.invokestatic 9, 3) := by decide +kernel
theorem dX0_freezes_49 : decode cX0_freezes 49 = .ok (.ireturn, 1) := by decide +kernel
theorem dX0_freezes_50 : decode cX0_freezes 50 = .ok (.iload_n 2, 1) := by decide +kernel
theorem dX0_freezes_51 : decode cX0_freezes 51 = .ok (.ireturn, 1) := by decide +kernel
theorem dX0_melts_0 : decode cX0_melts 0 = .ok (.iload_n 0, 1) := by decide +kernel
theorem dX0_melts_1 : decode cX0_melts 1 = .ok (.tableswitch 65 1 5 #[35, 39, 65, 61, 49], 35) := by decide +kernel
theorem dX0_melts_36 : decode cX0_melts 36 = .ok (.iconst 2, 1) := by decide +kernel
theorem dX0_melts_37 : decode cX0_melts 37 = .ok (.iload_n 2, 1) := by decide +kernel
theorem dX0_melts_38 : decode cX0_melts 38 = .ok (.imul, 1) := by decide +kernel
theorem dX0_melts_39 : decode cX0_melts 39 = .ok (.ireturn, 1) := by decide +kernel
theorem dX0_melts_40 : decode cX0_melts 40 = .ok (.iconst 0, 1) := by decide +kernel
theorem dX0_melts_41 : decode cX0_melts 41 = .ok (.iload_n 2, 1) := by decide +kernel
theorem dX0_melts_42 : decode cX0_melts 42 = .ok (.iload_n 1, 1) := by decide +kernel
theorem dX0_melts_43 : decode cX0_melts 43 = .ok (.iconst 2, 1) := by decide +kernel
theorem dX0_melts_44 : decode cX0_melts 44 = .ok (.idiv, 1) := by decide +kernel
theorem dX0_melts_45 : decode cX0_melts 45 = .ok (.isub, 1) := by decide +kernel
theorem dX0_melts_46 : decode cX0_melts 46 = .ok (.invokestatic 9, 3) := by decide +kernel
theorem dX0_melts_49 : decode cX0_melts 49 = .ok (.ireturn, 1) := by decide +kernel
theorem dX0_melts_50 : decode cX0_melts 50 = .ok (.iconst 0, 1) := by decide +kernel
theorem dX0_melts_51 : decode cX0_melts 51 = .ok (.iload_n 2, 1) := by decide +kernel
theorem dX0_melts_52 : decode cX0_melts 52 = .ok (.iload_n 1, 1) := by decide +kernel
theorem dX0_melts_53 : decode cX0_melts 53 = .ok (.iconst 2, 1) := by decide +kernel
theorem dX0_melts_54 : decode cX0_melts 54 = .ok (.idiv, 1) := by decide +kernel
theorem dX0_melts_55 : decode cX0_melts 55 = .ok (.isub, 1) := by decide +kernel
theorem dX0_melts_56 : decode cX0_melts 56 = .ok (.invokestatic 9, 3) := by decide +kernel
theorem dX0_melts_59 : decode cX0_melts 59 = .ok (.iconst 2, 1) := by decide +kernel
theorem dX0_melts_60 : decode cX0_melts 60 = .ok (.idiv, 1) := by decide +kernel
theorem dX0_melts_61 : decode cX0_melts 61 = .ok (.ireturn, 1) := by decide +kernel
theorem dX0_melts_62 : decode cX0_melts 62 = .ok (.iload_n 2, 1) := by decide +kernel
theorem dX0_melts_63 : decode cX0_melts 63 = .ok (.iconst 1, 1) := by decide +kernel
theorem dX0_melts_64 : decode cX0_melts 64 = .ok (.iadd, 1) := by decide +kernel
theorem dX0_melts_65 : decode cX0_melts 65 = .ok (.ireturn, 1) := by decide +kernel
theorem dX0_melts_66 : decode cX0_melts 66 = .ok (.iload_n 2, 1) := by decide +kernel
theorem dX0_melts_67 : decode cX0_melts 67 = .ok (.ireturn, 1) := by decide +kernel
theorem dX0_wants_0 : decode cX0_wants 0 = .ok (.iload_n 0, 1) := by decide +kernel
theorem dX0_wants_1 : decode cX0_wants 1 = .ok (.tableswitch 49 1 5 #[35, 41, 45, 45, 41], 35) := by decide +kernel
theorem dX0_wants_36 : decode cX0_wants 36 = .ok (.iload_n 2, 1) := by decide +kernel
theorem dX0_wants_37 : decode cX0_wants 37 = .ok (.iload_n 2, 1) := by decide +kernel
theorem dX0_wants_38 : decode cX0_wants 38 = .ok (.iconst 2, 1) := by decide +kernel
theorem dX0_wants_39 : decode cX0_wants 39 = .ok (.idiv, 1) := by decide +kernel
theorem dX0_wants_40 : decode cX0_wants 40 = .ok (.iadd, 1) := by decide +kernel
theorem dX0_wants_41 : decode cX0_wants 41 = .ok (.ireturn, 1) := by decide +kernel
theorem dX0_wants_42 : decode cX0_wants 42 = .ok (.iload_n 2, 1) := by decide +kernel
theorem dX0_wants_43 : decode cX0_wants 43 = .ok (.iload_n 1, 1) := by decide +kernel
theorem dX0_wants_44 : decode cX0_wants 44 = .ok (.iadd, 1) := by decide +kernel
theorem dX0_wants_45 : decode cX0_wants 45 = .ok (.ireturn, 1) := by decide +kernel
theorem dX0_wants_46 : decode cX0_wants 46 = .ok (.iload_n 2, 1) := by decide +kernel
theorem dX0_wants_47 : decode cX0_wants 47 = .ok (.iconst 2, 1) := by decide +kernel
theorem dX0_wants_48 : decode cX0_wants 48 = .ok (.idiv, 1) := by decide +kernel
theorem dX0_wants_49 : decode cX0_wants 49 = .ok (.ireturn, 1) := by decide +kernel
theorem dX0_wants_50 : decode cX0_wants 50 = .ok (.iload_n 2, 1) := by decide +kernel
theorem dX0_wants_51 : decode cX0_wants 51 = .ok (.ireturn, 1) := by decide +kernel
theorem dX1_init_0 : decode cX1_init 0 = .ok (.aload_n 0, 1) := by decide +kernel
theorem dX1_init_1 : decode cX1_init 1 = .ok (.invokespecial 3, 3) := by decide +kernel
theorem dX1_init_4 : decode cX1_init 4 = .ok (.aload_n 0, 1) := by decide +kernel
theorem dX1_init_5 : decode cX1_init 5 = .ok (.bipush 96, 2) := by decide +kernel
theorem dX1_init_7 : decode cX1_init 7 = .ok (.newarray .int, 2) := by decide +kernel
theorem dX1_init_9 : decode cX1_init 9 = .ok (.putfield 9, 3) := by decide +kernel
theorem dX1_init_12 : decode cX1_init 12 = .ok (.aload_n 0, 1) := by decide +kernel
theorem dX1_init_13 : decode cX1_init 13 = .ok (.iconst 0, 1) := by decide +kernel
theorem dX1_init_14 : decode cX1_init 14 = .ok (.putfield 15, 3) := by decide +kernel
theorem dX1_init_17 : decode cX1_init 17 = .ok (.return_, 1) := by decide +kernel
theorem dX1_add_0 : decode cX1_add 0 = .ok (.aload_n 0, 1) := by decide +kernel
theorem dX1_add_1 : decode cX1_add 1 = .ok (.getfield 15, 3) := by decide +kernel
theorem dX1_add_4 : decode cX1_add 4 = .ok (.bipush 96, 2) := by decide +kernel
theorem dX1_add_6 : decode cX1_add 6 = .ok (.if_icmp .ge 23, 3) := by decide +kernel
theorem dX1_add_9 : decode cX1_add 9 = .ok (.aload_n 0, 1) := by decide +kernel
theorem dX1_add_10 : decode cX1_add 10 = .ok (.getfield 9, 3) := by decide +kernel
theorem dX1_add_13 : decode cX1_add 13 = .ok (.aload_n 0, 1) := by decide +kernel
theorem dX1_add_14 : decode cX1_add 14 = .ok (.getfield 15, 3) := by decide +kernel
theorem dX1_add_17 : decode cX1_add 17 = .ok (.iload_n 1, 1) := by decide +kernel
theorem dX1_add_18 : decode cX1_add 18 = .ok (.iastore, 1) := by decide +kernel
theorem dX1_add_19 : decode cX1_add 19 = .ok (.aload_n 0, 1) := by decide +kernel
theorem dX1_add_20 : decode cX1_add 20 = .ok (.dup, 1) := by decide +kernel
theorem dX1_add_21 : decode cX1_add 21 = .ok (.getfield 15, 3) := by decide +kernel
theorem dX1_add_24 : decode cX1_add 24 = .ok (.iconst 1, 1) := by decide +kernel
theorem dX1_add_25 : decode cX1_add 25 = .ok (.iadd, 1) := by decide +kernel
theorem dX1_add_26 : decode cX1_add 26 = .ok (.putfield 15, 3) := by decide +kernel
theorem dX1_add_29 : decode cX1_add 29 = .ok (.return_, 1) := by decide +kernel
theorem dX1_letterAt_0 : decode cX1_letterAt 0 = .ok (.iload_n 1, 1) := by decide +kernel
theorem dX1_letterAt_1 : decode cX1_letterAt 1 = .ok (.ifCond .lt 20, 3) := by decide +kernel
theorem dX1_letterAt_4 : decode cX1_letterAt 4 = .ok (.iload_n 1, 1) := by decide +kernel
theorem dX1_letterAt_5 : decode cX1_letterAt 5 = .ok (.aload_n 0, 1) := by decide +kernel
theorem dX1_letterAt_6 : decode cX1_letterAt 6 = .ok (.getfield 15, 3) := by decide +kernel
theorem dX1_letterAt_9 : decode cX1_letterAt 9 = .ok (.if_icmp .ge 12, 3) := by decide +kernel
theorem dX1_letterAt_12 : decode cX1_letterAt 12 = .ok (.aload_n 0, 1) := by decide +kernel
theorem dX1_letterAt_13 : decode cX1_letterAt 13 = .ok (.getfield 9, 3) := by decide +kernel
theorem dX1_letterAt_16 : decode cX1_letterAt 16 = .ok (.iload_n 1, 1) := by decide +kernel
theorem dX1_letterAt_17 : decode cX1_letterAt 17 = .ok (.iaload, 1) := by decide +kernel
theorem dX1_letterAt_18 : decode cX1_letterAt 18 = .ok (.goto 4, 3) := by decide +kernel
theorem dX1_letterAt_21 : decode cX1_letterAt 21 = .ok (.iconst (-1), 1) := by decide +kernel
theorem dX1_letterAt_22 : decode cX1_letterAt 22 = .ok (.ireturn, 1) := by decide +kernel
theorem dX1_brokenAt_0 : decode cX1_brokenAt 0 = .ok (.iconst 0, 1) := by decide +kernel
theorem dX1_brokenAt_1 : decode cX1_brokenAt 1 = .ok (.istore_n 1, 1) := by decide +kernel
theorem dX1_brokenAt_2 : decode cX1_brokenAt 2 = .ok (.iconst 0, 1) := by decide +kernel
theorem dX1_brokenAt_3 : decode cX1_brokenAt 3 = .ok (.istore_n 2, 1) := by decide +kernel
theorem dX1_brokenAt_4 : decode cX1_brokenAt 4 = .ok (.iload_n 2, 1) := by decide +kernel
theorem dX1_brokenAt_5 : decode cX1_brokenAt 5 = .ok (.bipush 24, 2) := by decide +kernel
theorem dX1_brokenAt_7 : decode cX1_brokenAt 7 = .ok (.if_icmp .ge 39, 3) := by decide +kernel
theorem dX1_brokenAt_10 : decode cX1_brokenAt 10 = .ok (.aload_n 0, 1) := by decide +kernel
theorem dX1_brokenAt_11 : decode cX1_brokenAt 11 = .ok (.iload_n 1, 1) := by decide +kernel
theorem dX1_brokenAt_12 : decode cX1_brokenAt 12 = .ok (.invokevirtual 19, 3) := by decide +kernel
theorem dX1_brokenAt_15 : decode cX1_brokenAt 15 = .ok (.istore_n 3, 1) := by decide +kernel
theorem dX1_brokenAt_16 : decode cX1_brokenAt 16 = .ok (.iload_n 3, 1) := by decide +kernel
theorem dX1_brokenAt_17 : decode cX1_brokenAt 17 = .ok (.ifCond .lt 5, 3) := by decide +kernel
theorem dX1_brokenAt_20 : decode cX1_brokenAt 20 = .ok (.iload_n 3, 1) := by decide +kernel
theorem dX1_brokenAt_21 : decode cX1_brokenAt 21 = .ok (.ireturn, 1) := by decide +kernel
theorem dX1_brokenAt_22 : decode cX1_brokenAt 22 = .ok (.iload_n 1, 1) := by decide +kernel
theorem dX1_brokenAt_23 : decode cX1_brokenAt 23 = .ok (.aload_n 0, 1) := by decide +kernel
theorem dX1_brokenAt_24 : decode cX1_brokenAt 24 = .ok (.iload_n 1, 1) := by decide +kernel
theorem dX1_brokenAt_25 : decode cX1_brokenAt 25 = .ok (.invokevirtual 23, 3) := by decide +kernel
theorem dX1_brokenAt_28 : decode cX1_brokenAt 28 = .ok (.iadd, 1) := by decide +kernel
theorem dX1_brokenAt_29 : decode cX1_brokenAt 29 = .ok (.istore_n 1, 1) := by decide +kernel
theorem dX1_brokenAt_30 : decode cX1_brokenAt 30 = .ok (.iload_n 1, 1) := by decide +kernel
theorem dX1_brokenAt_31 : decode cX1_brokenAt 31 = .ok (.aload_n 0, 1) := by decide +kernel
theorem dX1_brokenAt_32 : decode cX1_brokenAt 32 = .ok (.getfield 15, 3) := by decide +kernel
theorem dX1_brokenAt_35 : decode cX1_brokenAt 35 = .ok (.if_icmp .lt 5, 3) := by decide +kernel
theorem dX1_brokenAt_38 : decode cX1_brokenAt 38 = .ok (.iconst (-1), 1) := by decide +kernel
theorem dX1_brokenAt_39 : decode cX1_brokenAt 39 = .ok (.ireturn, 1) := by decide +kernel
theorem dX1_brokenAt_40 : decode cX1_brokenAt 40 = .ok (.iinc 2 1, 3) := by decide +kernel
theorem dX1_brokenAt_43 : decode cX1_brokenAt 43 = .ok (.goto (-39), 3) := by decide +kernel
theorem dX1_brokenAt_46 : decode cX1_brokenAt 46 = .ok (.iload_n 1, 1) := by decide +kernel
theorem dX1_brokenAt_47 : decode cX1_brokenAt 47 = .ok (.ireturn, 1) := by decide +kernel
theorem dX1_brokenStatementAt_0 : decode cX1_brokenStatementAt 0 = .ok (.aload_n 0, 1) := by decide +kernel
theorem dX1_brokenStatementAt_1 : decode cX1_brokenStatementAt 1 = .ok (.iload_n 1, 1) := by decide +kernel
theorem dX1_brokenStatementAt_2 : decode cX1_brokenStatementAt 2 = .ok (.invokevirtual 26, 3) := by decide +kernel
theorem dX1_brokenStatementAt_5 : decode cX1_brokenStatementAt 5 = .ok (.invokestatic 29, 3) := by decide +kernel
theorem dX1_brokenStatementAt_8 : decode cX1_brokenStatementAt 8 = .ok (.istore_n 2, 1) := by decide +kernel
theorem dX1_brokenStatementAt_9 : decode cX1_brokenStatementAt 9 = .ok (.iload_n 2, 1) := by decide +kernel
theorem dX1_brokenStatementAt_10 : decode cX1_brokenStatementAt 10 = .ok (.ifCond .ne 5, 3) := by decide +kernel
theorem dX1_brokenStatementAt_13 : decode cX1_brokenStatementAt 13 = .ok (.iload_n 1, 1) := by decide +kernel
theorem dX1_brokenStatementAt_14 : decode cX1_brokenStatementAt 14 = .ok (.ireturn, 1) := by decide +kernel
theorem dX1_brokenStatementAt_15 : decode cX1_brokenStatementAt 15 = .ok (.iload_n 1, 1) := by decide +kernel
theorem dX1_brokenStatementAt_16 : decode cX1_brokenStatementAt 16 = .ok (.iconst 1, 1) := by decide +kernel
theorem dX1_brokenStatementAt_17 : decode cX1_brokenStatementAt 17 = .ok (.iadd, 1) := by decide +kernel
theorem dX1_brokenStatementAt_18 : decode cX1_brokenStatementAt 18 = .ok (.iload_n 2, 1) := by decide +kernel
theorem dX1_brokenStatementAt_19 : decode cX1_brokenStatementAt 19 = .ok (.iadd, 1) := by decide +kernel
theorem dX1_brokenStatementAt_20 : decode cX1_brokenStatementAt 20 = .ok (.istore_n 3, 1) := by decide +kernel
theorem dX1_brokenStatementAt_21 : decode cX1_brokenStatementAt 21 = .ok (.iload_n 1, 1) := by decide +kernel
theorem dX1_brokenStatementAt_22 : decode cX1_brokenStatementAt 22 = .ok (.iconst 1, 1) := by decide +kernel
theorem dX1_brokenStatementAt_23 : decode cX1_brokenStatementAt 23 = .ok (.iadd, 1) := by decide +kernel
theorem dX1_brokenStatementAt_24 : decode cX1_brokenStatementAt 24 = .ok (.istore 4, 2) := by decide +kernel
theorem dX1_brokenStatementAt_26 : decode cX1_brokenStatementAt 26 = .ok (.iload 4, 2) := by decide +kernel
theorem dX1_brokenStatementAt_28 : decode cX1_brokenStatementAt 28 = .ok (.iload_n 3, 1) := by decide +kernel
theorem dX1_brokenStatementAt_29 : decode cX1_brokenStatementAt 29 = .ok (.if_icmp .ge 24, 3) := by decide +kernel
theorem dX1_brokenStatementAt_32 : decode cX1_brokenStatementAt 32 = .ok (.aload_n 0, 1) := by decide +kernel
theorem dX1_brokenStatementAt_33 : decode cX1_brokenStatementAt 33 = .ok (.iload 4, 2) := by decide +kernel
theorem dX1_brokenStatementAt_35 : decode cX1_brokenStatementAt 35 = .ok (.invokevirtual 26, 3) := by decide +kernel
theorem dX1_brokenStatementAt_38 : decode cX1_brokenStatementAt 38 = .ok (.invokestatic 32, 3) := by decide +kernel
theorem dX1_brokenStatementAt_41 : decode cX1_brokenStatementAt 41 = .ok (.ifCond .ne 6, 3) := by decide +kernel
theorem dX1_brokenStatementAt_44 : decode cX1_brokenStatementAt 44 = .ok (.iload 4, 2) := by decide +kernel
theorem dX1_brokenStatementAt_46 : decode cX1_brokenStatementAt 46 = .ok (.ireturn, 1) := by decide +kernel
theorem dX1_brokenStatementAt_47 : decode cX1_brokenStatementAt 47 = .ok (.iinc 4 1, 3) := by decide +kernel
theorem dX1_brokenStatementAt_50 : decode cX1_brokenStatementAt 50 = .ok (.goto (-24), 3) := by decide +kernel
theorem dX1_brokenStatementAt_53 : decode cX1_brokenStatementAt 53 = .ok (.aload_n 0, 1) := by decide +kernel
theorem dX1_brokenStatementAt_54 : decode cX1_brokenStatementAt 54 = .ok (.iload_n 3, 1) := by decide +kernel
theorem dX1_brokenStatementAt_55 : decode cX1_brokenStatementAt 55 = .ok (.invokevirtual 26, 3) := by decide +kernel
theorem dX1_brokenStatementAt_58 : decode cX1_brokenStatementAt 58 = .ok (.bipush 59, 2) := by decide +kernel
theorem dX1_brokenStatementAt_60 : decode cX1_brokenStatementAt 60 = .ok (.if_icmp .ne 7, 3) := by decide +kernel
theorem dX1_brokenStatementAt_63 : decode cX1_brokenStatementAt 63 = .ok (.iconst (-1), 1) := by decide +kernel
theorem dX1_brokenStatementAt_64 : decode cX1_brokenStatementAt 64 = .ok (.goto 4, 3) := by decide +kernel
theorem dX1_brokenStatementAt_67 : decode cX1_brokenStatementAt 67 = .ok (.iload_n 3, 1) := by decide +kernel
theorem dX1_brokenStatementAt_68 : decode cX1_brokenStatementAt 68 = .ok (.ireturn, 1) := by decide +kernel
theorem dX1_lengthAt_0 : decode cX1_lengthAt 0 = .ok (.aload_n 0, 1) := by decide +kernel
theorem dX1_lengthAt_1 : decode cX1_lengthAt 1 = .ok (.iload_n 1, 1) := by decide +kernel
theorem dX1_lengthAt_2 : decode cX1_lengthAt 2 = .ok (.invokevirtual 26, 3) := by decide +kernel
theorem dX1_lengthAt_5 : decode cX1_lengthAt 5 = .ok (.invokestatic 29, 3) := by decide +kernel
theorem dX1_lengthAt_8 : decode cX1_lengthAt 8 = .ok (.iconst 2, 1) := by decide +kernel
theorem dX1_lengthAt_9 : decode cX1_lengthAt 9 = .ok (.iadd, 1) := by decide +kernel
theorem dX1_lengthAt_10 : decode cX1_lengthAt 10 = .ok (.ireturn, 1) := by decide +kernel
theorem dX1_digitsBehind_0 : decode cX1_digitsBehind 0 = .ok (.iload_n 0, 1) := by decide +kernel
theorem dX1_digitsBehind_1 : decode cX1_digitsBehind 1 = .ok (.lookupswitch 68 #[(99, 59), (104, 59), (110, 59), (116, 63), (119, 61), (121, 65)], 59) := by decide +kernel
theorem dX1_digitsBehind_60 : decode cX1_digitsBehind 60 = .ok (.iconst 2, 1) := by decide +kernel
theorem dX1_digitsBehind_61 : decode cX1_digitsBehind 61 = .ok (.ireturn, 1) := by decide +kernel
theorem dX1_digitsBehind_62 : decode cX1_digitsBehind 62 = .ok (.iconst 3, 1) := by decide +kernel
theorem dX1_digitsBehind_63 : decode cX1_digitsBehind 63 = .ok (.ireturn, 1) := by decide +kernel
theorem dX1_digitsBehind_64 : decode cX1_digitsBehind 64 = .ok (.iconst 4, 1) := by decide +kernel
theorem dX1_digitsBehind_65 : decode cX1_digitsBehind 65 = .ok (.ireturn, 1) := by decide +kernel
theorem dX1_digitsBehind_66 : decode cX1_digitsBehind 66 = .ok (.bipush 6, 2) := by decide +kernel
theorem dX1_digitsBehind_68 : decode cX1_digitsBehind 68 = .ok (.ireturn, 1) := by decide +kernel
theorem dX1_digitsBehind_69 : decode cX1_digitsBehind 69 = .ok (.iconst 0, 1) := by decide +kernel
theorem dX1_digitsBehind_70 : decode cX1_digitsBehind 70 = .ok (.ireturn, 1) := by decide +kernel
theorem dX1_isDigit_0 : decode cX1_isDigit 0 = .ok (.iload_n 0, 1) := by decide +kernel
theorem dX1_isDigit_1 : decode cX1_isDigit 1 = .ok (.bipush 48, 2) := by decide +kernel
theorem dX1_isDigit_3 : decode cX1_isDigit 3 = .ok (.if_icmp .lt 13, 3) := by decide +kernel
theorem dX1_isDigit_6 : decode cX1_isDigit 6 = .ok (.iload_n 0, 1) := by decide +kernel
theorem dX1_isDigit_7 : decode cX1_isDigit 7 = .ok (.bipush 57, 2) := by decide +kernel
theorem dX1_isDigit_9 : decode cX1_isDigit 9 = .ok (.if_icmp .gt 7, 3) := by decide +kernel
theorem dX1_isDigit_12 : decode cX1_isDigit 12 = .ok (.iconst 1, 1) := by decide +kernel
theorem dX1_isDigit_13 : decode cX1_isDigit 13 = .ok (.goto 4, 3) := by decide +kernel
theorem dX1_isDigit_16 : decode cX1_isDigit 16 = .ok (.iconst 0, 1) := by decide +kernel
theorem dX1_isDigit_17 : decode cX1_isDigit 17 = .ok (.ireturn, 1) := by decide +kernel
theorem dX1_number_0 : decode cX1_number 0 = .ok (.iconst 0, 1) := by decide +kernel
theorem dX1_number_1 : decode cX1_number 1 = .ok (.istore_n 3, 1) := by decide +kernel
theorem dX1_number_2 : decode cX1_number 2 = .ok (.iload_n 1, 1) := by decide +kernel
theorem dX1_number_3 : decode cX1_number 3 = .ok (.istore 4, 2) := by decide +kernel
theorem dX1_number_5 : decode cX1_number 5 = .ok (.iload 4, 2) := by decide +kernel
theorem dX1_number_7 : decode cX1_number 7 = .ok (.iload_n 1, 1) := by decide +kernel
theorem dX1_number_8 : decode cX1_number 8 = .ok (.iload_n 2, 1) := by decide +kernel
theorem dX1_number_9 : decode cX1_number 9 = .ok (.iadd, 1) := by decide +kernel
theorem dX1_number_10 : decode cX1_number 10 = .ok (.if_icmp .ge 24, 3) := by decide +kernel
theorem dX1_number_13 : decode cX1_number 13 = .ok (.bipush 10, 2) := by decide +kernel
theorem dX1_number_15 : decode cX1_number 15 = .ok (.iload_n 3, 1) := by decide +kernel
theorem dX1_number_16 : decode cX1_number 16 = .ok (.imul, 1) := by decide +kernel
theorem dX1_number_17 : decode cX1_number 17 = .ok (.aload_n 0, 1) := by decide +kernel
theorem dX1_number_18 : decode cX1_number 18 = .ok (.iload 4, 2) := by decide +kernel
theorem dX1_number_20 : decode cX1_number 20 = .ok (.invokevirtual 26, 3) := by decide +kernel
theorem dX1_number_23 : decode cX1_number 23 = .ok (.iadd, 1) := by decide +kernel
theorem dX1_number_24 : decode cX1_number 24 = .ok (.bipush 48, 2) := by decide +kernel
theorem dX1_number_26 : decode cX1_number 26 = .ok (.isub, 1) := by decide +kernel
theorem dX1_number_27 : decode cX1_number 27 = .ok (.istore_n 3, 1) := by decide +kernel
theorem dX1_number_28 : decode cX1_number 28 = .ok (.iinc 4 1, 3) := by decide +kernel
theorem dX1_number_31 : decode cX1_number 31 = .ok (.goto (-26), 3) := by decide +kernel
theorem dX1_number_34 : decode cX1_number 34 = .ok (.iload_n 3, 1) := by decide +kernel
theorem dX1_number_35 : decode cX1_number 35 = .ok (.ireturn, 1) := by decide +kernel
theorem dX2_init_0 : decode cX2_init 0 = .ok (.aload_n 0, 1) := by decide +kernel
theorem dX2_init_1 : decode cX2_init 1 = .ok (.invokespecial 3, 3) := by decide +kernel
theorem dX2_init_4 : decode cX2_init 4 = .ok (.aload_n 0, 1) := by decide +kernel
theorem dX2_init_5 : decode cX2_init 5 = .ok (.bipush 8, 2) := by decide +kernel
theorem dX2_init_7 : decode cX2_init 7 = .ok (.putfield 9, 3) := by decide +kernel
theorem dX2_init_10 : decode cX2_init 10 = .ok (.aload_n 0, 1) := by decide +kernel
theorem dX2_init_11 : decode cX2_init 11 = .ok (.iconst 0, 1) := by decide +kernel
theorem dX2_init_12 : decode cX2_init 12 = .ok (.putfield 15, 3) := by decide +kernel
theorem dX2_init_15 : decode cX2_init 15 = .ok (.aload_n 0, 1) := by decide +kernel
theorem dX2_init_16 : decode cX2_init 16 = .ok (.iconst 3, 1) := by decide +kernel
theorem dX2_init_17 : decode cX2_init 17 = .ok (.putfield 18, 3) := by decide +kernel
theorem dX2_init_20 : decode cX2_init 20 = .ok (.aload_n 0, 1) := by decide +kernel
theorem dX2_init_21 : decode cX2_init 21 = .ok (.iconst 4, 1) := by decide +kernel
theorem dX2_init_22 : decode cX2_init 22 = .ok (.putfield 21, 3) := by decide +kernel
theorem dX2_init_25 : decode cX2_init 25 = .ok (.aload_n 0, 1) := by decide +kernel
theorem dX2_init_26 : decode cX2_init 26 = .ok (.iconst 0, 1) := by decide +kernel
theorem dX2_init_27 : decode cX2_init 27 = .ok (.putfield 24, 3) := by decide +kernel
theorem dX2_init_30 : decode cX2_init 30 = .ok (.aload_n 0, 1) := by decide +kernel
theorem dX2_init_31 : decode cX2_init 31 = .ok (.bipush 16, 2) := by decide +kernel
theorem dX2_init_33 : decode cX2_init 33 = .ok (.newarray .int, 2) := by decide +kernel
theorem dX2_init_35 : decode cX2_init 35 = .ok (.putfield 27, 3) := by decide +kernel
theorem dX2_init_38 : decode cX2_init 38 = .ok (.aload_n 0, 1) := by decide +kernel
theorem dX2_init_39 : decode cX2_init 39 = .ok (.bipush 16, 2) := by decide +kernel
theorem dX2_init_41 : decode cX2_init 41 = .ok (.newarray .int, 2) := by decide +kernel
theorem dX2_init_43 : decode cX2_init 43 = .ok (.putfield 31, 3) := by decide +kernel
theorem dX2_init_46 : decode cX2_init 46 = .ok (.aload_n 0, 1) := by decide +kernel
theorem dX2_init_47 : decode cX2_init 47 = .ok (.bipush 16, 2) := by decide +kernel
theorem dX2_init_49 : decode cX2_init 49 = .ok (.newarray .int, 2) := by decide +kernel
theorem dX2_init_51 : decode cX2_init 51 = .ok (.putfield 34, 3) := by decide +kernel
theorem dX2_init_54 : decode cX2_init 54 = .ok (.aload_n 0, 1) := by decide +kernel
theorem dX2_init_55 : decode cX2_init 55 = .ok (.iconst 5, 1) := by decide +kernel
theorem dX2_init_56 : decode cX2_init 56 = .ok (.newarray .int, 2) := by decide +kernel
theorem dX2_init_58 : decode cX2_init 58 = .ok (.putfield 37, 3) := by decide +kernel
theorem dX2_init_61 : decode cX2_init 61 = .ok (.aload_n 0, 1) := by decide +kernel
theorem dX2_init_62 : decode cX2_init 62 = .ok (.iconst 5, 1) := by decide +kernel
theorem dX2_init_63 : decode cX2_init 63 = .ok (.newarray .int, 2) := by decide +kernel
theorem dX2_init_65 : decode cX2_init 65 = .ok (.putfield 40, 3) := by decide +kernel
theorem dX2_init_68 : decode cX2_init 68 = .ok (.aload_n 0, 1) := by decide +kernel
theorem dX2_init_69 : decode cX2_init 69 = .ok (.iconst 5, 1) := by decide +kernel
theorem dX2_init_70 : decode cX2_init 70 = .ok (.newarray .int, 2) := by decide +kernel
theorem dX2_init_72 : decode cX2_init 72 = .ok (.putfield 43, 3) := by decide +kernel
theorem dX2_init_75 : decode cX2_init 75 = .ok (.aload_n 0, 1) := by decide +kernel
theorem dX2_init_76 : decode cX2_init 76 = .ok (.iconst 5, 1) := by decide +kernel
theorem dX2_init_77 : decode cX2_init 77 = .ok (.newarray .int, 2) := by decide +kernel
theorem dX2_init_79 : decode cX2_init 79 = .ok (.putfield 46, 3) := by decide +kernel
theorem dX2_init_82 : decode cX2_init 82 = .ok (.aload_n 0, 1) := by decide +kernel
theorem dX2_init_83 : decode cX2_init 83 = .ok (.iconst 5, 1) := by decide +kernel
theorem dX2_init_84 : decode cX2_init 84 = .ok (.newarray .int, 2) := by decide +kernel
theorem dX2_init_86 : decode cX2_init 86 = .ok (.putfield 49, 3) := by decide +kernel
theorem dX2_init_89 : decode cX2_init 89 = .ok (.aload_n 0, 1) := by decide +kernel
theorem dX2_init_90 : decode cX2_init 90 = .ok (.iconst 5, 1) := by decide +kernel
theorem dX2_init_91 : decode cX2_init 91 = .ok (.newarray .int, 2) := by decide +kernel
theorem dX2_init_93 : decode cX2_init 93 = .ok (.putfield 52, 3) := by decide +kernel
theorem dX2_init_96 : decode cX2_init 96 = .ok (.aload_n 0, 1) := by decide +kernel
theorem dX2_init_97 : decode cX2_init 97 = .ok (.iconst 0, 1) := by decide +kernel
theorem dX2_init_98 : decode cX2_init 98 = .ok (.putfield 55, 3) := by decide +kernel
theorem dX2_init_101 : decode cX2_init 101 = .ok (.aload_n 0, 1) := by decide +kernel
theorem dX2_init_102 : decode cX2_init 102 = .ok (.iconst 5, 1) := by decide +kernel
theorem dX2_init_103 : decode cX2_init 103 = .ok (.newarray .int, 2) := by decide +kernel
theorem dX2_init_105 : decode cX2_init 105 = .ok (.putfield 58, 3) := by decide +kernel
theorem dX2_init_108 : decode cX2_init 108 = .ok (.aload_n 0, 1) := by decide +kernel
theorem dX2_init_109 : decode cX2_init 109 = .ok (.bipush 16, 2) := by decide +kernel
theorem dX2_init_111 : decode cX2_init 111 = .ok (.newarray .int, 2) := by decide +kernel
theorem dX2_init_113 : decode cX2_init 113 = .ok (.putfield 61, 3) := by decide +kernel
theorem dX2_init_116 : decode cX2_init 116 = .ok (.aload_n 0, 1) := by decide +kernel
theorem dX2_init_117 : decode cX2_init 117 = .ok (.bipush 16, 2) := by decide +kernel
theorem dX2_init_119 : decode cX2_init 119 = .ok (.newarray .int, 2) := by decide +kernel
theorem dX2_init_121 : decode cX2_init 121 = .ok (.putfield 64, 3) := by decide +kernel
theorem dX2_init_124 : decode cX2_init 124 = .ok (.iconst 0, 1) := by decide +kernel
theorem dX2_init_125 : decode cX2_init 125 = .ok (.istore_n 1, 1) := by decide +kernel
theorem dX2_init_126 : decode cX2_init 126 = .ok (.iload_n 1, 1) := by decide +kernel
theorem dX2_init_127 : decode cX2_init 127 = .ok (.bipush 16, 2) := by decide +kernel
theorem dX2_init_129 : decode cX2_init 129 = .ok (.if_icmp .ge 17, 3) := by decide +kernel
theorem dX2_init_132 : decode cX2_init 132 = .ok (.aload_n 0, 1) := by decide +kernel
theorem dX2_init_133 : decode cX2_init 133 = .ok (.getfield 34, 3) := by decide +kernel
theorem dX2_init_136 : decode cX2_init 136 = .ok (.iload_n 1, 1) := by decide +kernel
theorem dX2_init_137 : decode cX2_init 137 = .ok (.bipush 40, 2) := by decide +kernel
theorem dX2_init_139 : decode cX2_init 139 = .ok (.iastore, 1) := by decide +kernel
theorem dX2_init_140 : decode cX2_init 140 = .ok (.iinc 1 1, 3) := by decide +kernel
theorem dX2_init_143 : decode cX2_init 143 = .ok (.goto (-17), 3) := by decide +kernel
theorem dX2_init_146 : decode cX2_init 146 = .ok (.return_, 1) := by decide +kernel
theorem dX2_become_0 : decode cX2_become 0 = .ok (.aload_n 0, 1) := by decide +kernel
theorem dX2_become_1 : decode cX2_become 1 = .ok (.aload_n 1, 1) := by decide +kernel
theorem dX2_become_2 : decode cX2_become 2 = .ok (.getfield 9, 3) := by decide +kernel
theorem dX2_become_5 : decode cX2_become 5 = .ok (.putfield 9, 3) := by decide +kernel
theorem dX2_become_8 : decode cX2_become 8 = .ok (.aload_n 0, 1) := by decide +kernel
theorem dX2_become_9 : decode cX2_become 9 = .ok (.aload_n 1, 1) := by decide +kernel
theorem dX2_become_10 : decode cX2_become 10 = .ok (.getfield 15, 3) := by decide +kernel
theorem dX2_become_13 : decode cX2_become 13 = .ok (.putfield 15, 3) := by decide +kernel
theorem dX2_become_16 : decode cX2_become 16 = .ok (.aload_n 0, 1) := by decide +kernel
theorem dX2_become_17 : decode cX2_become 17 = .ok (.aload_n 1, 1) := by decide +kernel
theorem dX2_become_18 : decode cX2_become 18 = .ok (.getfield 18, 3) := by decide +kernel
theorem dX2_become_21 : decode cX2_become 21 = .ok (.putfield 18, 3) := by decide +kernel
theorem dX2_become_24 : decode cX2_become 24 = .ok (.aload_n 0, 1) := by decide +kernel
theorem dX2_become_25 : decode cX2_become 25 = .ok (.aload_n 1, 1) := by decide +kernel
theorem dX2_become_26 : decode cX2_become 26 = .ok (.getfield 21, 3) := by decide +kernel
theorem dX2_become_29 : decode cX2_become 29 = .ok (.putfield 21, 3) := by decide +kernel
theorem dX2_become_32 : decode cX2_become 32 = .ok (.aload_n 0, 1) := by decide +kernel
theorem dX2_become_33 : decode cX2_become 33 = .ok (.aload_n 1, 1) := by decide +kernel
theorem dX2_become_34 : decode cX2_become 34 = .ok (.getfield 24, 3) := by decide +kernel
theorem dX2_become_37 : decode cX2_become 37 = .ok (.putfield 24, 3) := by decide +kernel
theorem dX2_become_40 : decode cX2_become 40 = .ok (.aload_n 1, 1) := by decide +kernel
theorem dX2_become_41 : decode cX2_become 41 = .ok (.getfield 27, 3) := by decide +kernel
theorem dX2_become_44 : decode cX2_become 44 = .ok (.iconst 0, 1) := by decide +kernel
theorem dX2_become_45 : decode cX2_become 45 = .ok (.aload_n 0, 1) := by decide +kernel
theorem dX2_become_46 : decode cX2_become 46 = .ok (.getfield 27, 3) := by decide +kernel
theorem dX2_become_49 : decode cX2_become 49 = .ok (.iconst 0, 1) := by decide +kernel
theorem dX2_become_50 : decode cX2_become 50 = .ok (.bipush 16, 2) := by decide +kernel
theorem dX2_become_52 : decode cX2_become 52 = .ok (.invokestatic 67, 3) := by decide +kernel
theorem dX2_become_55 : decode cX2_become 55 = .ok (.aload_n 1, 1) := by decide +kernel
theorem dX2_become_56 : decode cX2_become 56 = .ok (.getfield 31, 3) := by decide +kernel
theorem dX2_become_59 : decode cX2_become 59 = .ok (.iconst 0, 1) := by decide +kernel
theorem dX2_become_60 : decode cX2_become 60 = .ok (.aload_n 0, 1) := by decide +kernel
theorem dX2_become_61 : decode cX2_become 61 = .ok (.getfield 31, 3) := by decide +kernel
theorem dX2_become_64 : decode cX2_become 64 = .ok (.iconst 0, 1) := by decide +kernel
theorem dX2_become_65 : decode cX2_become 65 = .ok (.bipush 16, 2) := by decide +kernel
theorem dX2_become_67 : decode cX2_become 67 = .ok (.invokestatic 67, 3) := by decide +kernel
theorem dX2_become_70 : decode cX2_become 70 = .ok (.aload_n 1, 1) := by decide +kernel
theorem dX2_become_71 : decode cX2_become 71 = .ok (.getfield 34, 3) := by decide +kernel
theorem dX2_become_74 : decode cX2_become 74 = .ok (.iconst 0, 1) := by decide +kernel
theorem dX2_become_75 : decode cX2_become 75 = .ok (.aload_n 0, 1) := by decide +kernel
theorem dX2_become_76 : decode cX2_become 76 = .ok (.getfield 34, 3) := by decide +kernel
theorem dX2_become_79 : decode cX2_become 79 = .ok (.iconst 0, 1) := by decide +kernel
theorem dX2_become_80 : decode cX2_become 80 = .ok (.bipush 16, 2) := by decide +kernel
theorem dX2_become_82 : decode cX2_become 82 = .ok (.invokestatic 67, 3) := by decide +kernel
theorem dX2_become_85 : decode cX2_become 85 = .ok (.aload_n 0, 1) := by decide +kernel
theorem dX2_become_86 : decode cX2_become 86 = .ok (.iconst 0, 1) := by decide +kernel
theorem dX2_become_87 : decode cX2_become 87 = .ok (.putfield 55, 3) := by decide +kernel
theorem dX2_become_90 : decode cX2_become 90 = .ok (.iconst 0, 1) := by decide +kernel
theorem dX2_become_91 : decode cX2_become 91 = .ok (.istore_n 2, 1) := by decide +kernel
theorem dX2_become_92 : decode cX2_become 92 = .ok (.iload_n 2, 1) := by decide +kernel
theorem dX2_become_93 : decode cX2_become 93 = .ok (.aload_n 0, 1) := by decide +kernel
theorem dX2_become_94 : decode cX2_become 94 = .ok (.getfield 24, 3) := by decide +kernel
theorem dX2_become_97 : decode cX2_become 97 = .ok (.if_icmp .ge 24, 3) := by decide +kernel
theorem dX2_become_100 : decode cX2_become 100 = .ok (.aload_n 0, 1) := by decide +kernel
theorem dX2_become_101 : decode cX2_become 101 = .ok (.iload_n 2, 1) := by decide +kernel
theorem dX2_become_102 : decode cX2_become 102 = .ok (.aload_n 1, 1) := by decide +kernel
theorem dX2_become_103 : decode cX2_become 103 = .ok (.iload_n 2, 1) := by decide +kernel
theorem dX2_become_104 : decode cX2_become 104 = .ok (.invokevirtual 73, 3) := by decide +kernel
theorem dX2_become_107 : decode cX2_become 107 = .ok (.aload_n 0, 1) := by decide +kernel
theorem dX2_become_108 : decode cX2_become 108 = .ok (.getfield 58, 3) := by decide +kernel
theorem dX2_become_111 : decode cX2_become 111 = .ok (.iload_n 2, 1) := by decide +kernel
theorem dX2_become_112 : decode cX2_become 112 = .ok (.bipush (-9), 2) := by decide +kernel
theorem dX2_become_114 : decode cX2_become 114 = .ok (.iastore, 1) := by decide +kernel
theorem dX2_become_115 : decode cX2_become 115 = .ok (.iinc 2 1, 3) := by decide +kernel
theorem dX2_become_118 : decode cX2_become 118 = .ok (.goto (-26), 3) := by decide +kernel
theorem dX2_become_121 : decode cX2_become 121 = .ok (.return_, 1) := by decide +kernel
theorem dX2_takeTrain_0 : decode cX2_takeTrain 0 = .ok (.aload_n 0, 1) := by decide +kernel
theorem dX2_takeTrain_1 : decode cX2_takeTrain 1 = .ok (.getfield 37, 3) := by decide +kernel
theorem dX2_takeTrain_4 : decode cX2_takeTrain 4 = .ok (.iload_n 1, 1) := by decide +kernel
theorem dX2_takeTrain_5 : decode cX2_takeTrain 5 = .ok (.aload_n 2, 1) := by decide +kernel
theorem dX2_takeTrain_6 : decode cX2_takeTrain 6 = .ok (.getfield 37, 3) := by decide +kernel
theorem dX2_takeTrain_9 : decode cX2_takeTrain 9 = .ok (.iload_n 3, 1) := by decide +kernel
theorem dX2_takeTrain_10 : decode cX2_takeTrain 10 = .ok (.iaload, 1) := by decide +kernel
theorem dX2_takeTrain_11 : decode cX2_takeTrain 11 = .ok (.iastore, 1) := by decide +kernel
theorem dX2_takeTrain_12 : decode cX2_takeTrain 12 = .ok (.aload_n 0, 1) := by decide +kernel
theorem dX2_takeTrain_13 : decode cX2_takeTrain 13 = .ok (.getfield 40, 3) := by decide +kernel
theorem dX2_takeTrain_16 : decode cX2_takeTrain 16 = .ok (.iload_n 1, 1) := by decide +kernel
theorem dX2_takeTrain_17 : decode cX2_takeTrain 17 = .ok (.aload_n 2, 1) := by decide +kernel
theorem dX2_takeTrain_18 : decode cX2_takeTrain 18 = .ok (.getfield 40, 3) := by decide +kernel
theorem dX2_takeTrain_21 : decode cX2_takeTrain 21 = .ok (.iload_n 3, 1) := by decide +kernel
theorem dX2_takeTrain_22 : decode cX2_takeTrain 22 = .ok (.iaload, 1) := by decide +kernel
theorem dX2_takeTrain_23 : decode cX2_takeTrain 23 = .ok (.iastore, 1) := by decide +kernel
theorem dX2_takeTrain_24 : decode cX2_takeTrain 24 = .ok (.aload_n 0, 1) := by decide +kernel
theorem dX2_takeTrain_25 : decode cX2_takeTrain 25 = .ok (.getfield 43, 3) := by decide +kernel
theorem dX2_takeTrain_28 : decode cX2_takeTrain 28 = .ok (.iload_n 1, 1) := by decide +kernel
theorem dX2_takeTrain_29 : decode cX2_takeTrain 29 = .ok (.aload_n 2, 1) := by decide +kernel
theorem dX2_takeTrain_30 : decode cX2_takeTrain 30 = .ok (.getfield 43, 3) := by decide +kernel
theorem dX2_takeTrain_33 : decode cX2_takeTrain 33 = .ok (.iload_n 3, 1) := by decide +kernel
theorem dX2_takeTrain_34 : decode cX2_takeTrain 34 = .ok (.iaload, 1) := by decide +kernel
theorem dX2_takeTrain_35 : decode cX2_takeTrain 35 = .ok (.iastore, 1) := by decide +kernel
theorem dX2_takeTrain_36 : decode cX2_takeTrain 36 = .ok (.aload_n 0, 1) := by decide +kernel
theorem dX2_takeTrain_37 : decode cX2_takeTrain 37 = .ok (.getfield 46, 3) := by decide +kernel
theorem dX2_takeTrain_40 : decode cX2_takeTrain 40 = .ok (.iload_n 1, 1) := by decide +kernel
theorem dX2_takeTrain_41 : decode cX2_takeTrain 41 = .ok (.aload_n 2, 1) := by decide +kernel
theorem dX2_takeTrain_42 : decode cX2_takeTrain 42 = .ok (.getfield 46, 3) := by decide +kernel
theorem dX2_takeTrain_45 : decode cX2_takeTrain 45 = .ok (.iload_n 3, 1) := by decide +kernel
theorem dX2_takeTrain_46 : decode cX2_takeTrain 46 = .ok (.iaload, 1) := by decide +kernel
theorem dX2_takeTrain_47 : decode cX2_takeTrain 47 = .ok (.iastore, 1) := by decide +kernel
theorem dX2_takeTrain_48 : decode cX2_takeTrain 48 = .ok (.aload_n 0, 1) := by decide +kernel
theorem dX2_takeTrain_49 : decode cX2_takeTrain 49 = .ok (.getfield 49, 3) := by decide +kernel
theorem dX2_takeTrain_52 : decode cX2_takeTrain 52 = .ok (.iload_n 1, 1) := by decide +kernel
theorem dX2_takeTrain_53 : decode cX2_takeTrain 53 = .ok (.aload_n 2, 1) := by decide +kernel
theorem dX2_takeTrain_54 : decode cX2_takeTrain 54 = .ok (.getfield 49, 3) := by decide +kernel
theorem dX2_takeTrain_57 : decode cX2_takeTrain 57 = .ok (.iload_n 3, 1) := by decide +kernel
theorem dX2_takeTrain_58 : decode cX2_takeTrain 58 = .ok (.iaload, 1) := by decide +kernel
theorem dX2_takeTrain_59 : decode cX2_takeTrain 59 = .ok (.iastore, 1) := by decide +kernel
theorem dX2_takeTrain_60 : decode cX2_takeTrain 60 = .ok (.aload_n 0, 1) := by decide +kernel
theorem dX2_takeTrain_61 : decode cX2_takeTrain 61 = .ok (.getfield 52, 3) := by decide +kernel
theorem dX2_takeTrain_64 : decode cX2_takeTrain 64 = .ok (.iload_n 1, 1) := by decide +kernel
theorem dX2_takeTrain_65 : decode cX2_takeTrain 65 = .ok (.aload_n 2, 1) := by decide +kernel
theorem dX2_takeTrain_66 : decode cX2_takeTrain 66 = .ok (.getfield 52, 3) := by decide +kernel
theorem dX2_takeTrain_69 : decode cX2_takeTrain 69 = .ok (.iload_n 3, 1) := by decide +kernel
theorem dX2_takeTrain_70 : decode cX2_takeTrain 70 = .ok (.iaload, 1) := by decide +kernel
theorem dX2_takeTrain_71 : decode cX2_takeTrain 71 = .ok (.iastore, 1) := by decide +kernel
theorem dX2_takeTrain_72 : decode cX2_takeTrain 72 = .ok (.return_, 1) := by decide +kernel
theorem dX2_becomeMany_0 : decode cX2_becomeMany 0 = .ok (.iload_n 1, 1) := by decide +kernel
theorem dX2_becomeMany_1 : decode cX2_becomeMany 1 = .ok (.iconst 2, 1) := by decide +kernel
theorem dX2_becomeMany_2 : decode cX2_becomeMany 2 = .ok (.if_icmp .lt 9, 3) := by decide +kernel
theorem dX2_becomeMany_5 : decode cX2_becomeMany 5 = .ok (.iload_n 1, 1) := by decide +kernel
theorem dX2_becomeMany_6 : decode cX2_becomeMany 6 = .ok (.bipush 16, 2) := by decide +kernel
theorem dX2_becomeMany_8 : decode cX2_becomeMany 8 = .ok (.if_icmp .le 5, 3) := by decide +kernel
theorem dX2_becomeMany_11 : decode cX2_becomeMany 11 = .ok (.iconst 0, 1) := by decide +kernel
theorem dX2_becomeMany_12 : decode cX2_becomeMany 12 = .ok (.ireturn, 1) := by decide +kernel
theorem dX2_becomeMany_13 : decode cX2_becomeMany 13 = .ok (.iconst 0, 1) := by decide +kernel
theorem dX2_becomeMany_14 : decode cX2_becomeMany 14 = .ok (.istore_n 2, 1) := by decide +kernel
theorem dX2_becomeMany_15 : decode cX2_becomeMany 15 = .ok (.iload_n 2, 1) := by decide +kernel
theorem dX2_becomeMany_16 : decode cX2_becomeMany 16 = .ok (.aload_n 0, 1) := by decide +kernel
theorem dX2_becomeMany_17 : decode cX2_becomeMany 17 = .ok (.getfield 24, 3) := by decide +kernel
theorem dX2_becomeMany_20 : decode cX2_becomeMany 20 = .ok (.if_icmp .ge 30, 3) := by decide +kernel
theorem dX2_becomeMany_23 : decode cX2_becomeMany 23 = .ok (.aload_n 0, 1) := by decide +kernel
theorem dX2_becomeMany_24 : decode cX2_becomeMany 24 = .ok (.getfield 52, 3) := by decide +kernel
theorem dX2_becomeMany_27 : decode cX2_becomeMany 27 = .ok (.iload_n 2, 1) := by decide +kernel
theorem dX2_becomeMany_28 : decode cX2_becomeMany 28 = .ok (.iaload, 1) := by decide +kernel
theorem dX2_becomeMany_29 : decode cX2_becomeMany 29 = .ok (.ifCond .ne 15, 3) := by decide +kernel
theorem dX2_becomeMany_32 : decode cX2_becomeMany 32 = .ok (.aload_n 0, 1) := by decide +kernel
theorem dX2_becomeMany_33 : decode cX2_becomeMany 33 = .ok (.getfield 46, 3) := by decide +kernel
theorem dX2_becomeMany_36 : decode cX2_becomeMany 36 = .ok (.iload_n 2, 1) := by decide +kernel
theorem dX2_becomeMany_37 : decode cX2_becomeMany 37 = .ok (.iaload, 1) := by decide +kernel
theorem dX2_becomeMany_38 : decode cX2_becomeMany 38 = .ok (.iload_n 1, 1) := by decide +kernel
theorem dX2_becomeMany_39 : decode cX2_becomeMany 39 = .ok (.if_icmp .lt 5, 3) := by decide +kernel
theorem dX2_becomeMany_42 : decode cX2_becomeMany 42 = .ok (.iconst 0, 1) := by decide +kernel
theorem dX2_becomeMany_43 : decode cX2_becomeMany 43 = .ok (.ireturn, 1) := by decide +kernel
theorem dX2_becomeMany_44 : decode cX2_becomeMany 44 = .ok (.iinc 2 1, 3) := by decide +kernel
theorem dX2_becomeMany_47 : decode cX2_becomeMany 47 = .ok (.goto (-32), 3) := by decide +kernel
theorem dX2_becomeMany_50 : decode cX2_becomeMany 50 = .ok (.aload_n 0, 1) := by decide +kernel
theorem dX2_becomeMany_51 : decode cX2_becomeMany 51 = .ok (.iload_n 1, 1) := by decide +kernel
theorem dX2_becomeMany_52 : decode cX2_becomeMany 52 = .ok (.putfield 9, 3) := by decide +kernel
theorem dX2_becomeMany_55 : decode cX2_becomeMany 55 = .ok (.iconst 1, 1) := by decide +kernel
theorem dX2_becomeMany_56 : decode cX2_becomeMany 56 = .ok (.ireturn, 1) := by decide +kernel
theorem dX2_becomeYard_0 : decode cX2_becomeYard 0 = .ok (.iload_n 1, 1) := by decide +kernel
theorem dX2_becomeYard_1 : decode cX2_becomeYard 1 = .ok (.ifCond .lt 20, 3) := by decide +kernel
theorem dX2_becomeYard_4 : decode cX2_becomeYard 4 = .ok (.iload_n 1, 1) := by decide +kernel
theorem dX2_becomeYard_5 : decode cX2_becomeYard 5 = .ok (.aload_n 0, 1) := by decide +kernel
theorem dX2_becomeYard_6 : decode cX2_becomeYard 6 = .ok (.getfield 9, 3) := by decide +kernel
theorem dX2_becomeYard_9 : decode cX2_becomeYard 9 = .ok (.if_icmp .ge 12, 3) := by decide +kernel
theorem dX2_becomeYard_12 : decode cX2_becomeYard 12 = .ok (.iload_n 2, 1) := by decide +kernel
theorem dX2_becomeYard_13 : decode cX2_becomeYard 13 = .ok (.ifCond .lt 8, 3) := by decide +kernel
theorem dX2_becomeYard_16 : decode cX2_becomeYard 16 = .ok (.iload_n 2, 1) := by decide +kernel
theorem dX2_becomeYard_17 : decode cX2_becomeYard 17 = .ok (.iconst 5, 1) := by decide +kernel
theorem dX2_becomeYard_18 : decode cX2_becomeYard 18 = .ok (.if_icmp .le 5, 3) := by decide +kernel
theorem dX2_becomeYard_21 : decode cX2_becomeYard 21 = .ok (.iconst 0, 1) := by decide +kernel
theorem dX2_becomeYard_22 : decode cX2_becomeYard 22 = .ok (.ireturn, 1) := by decide +kernel
theorem dX2_becomeYard_23 : decode cX2_becomeYard 23 = .ok (.aload_n 0, 1) := by decide +kernel
theorem dX2_becomeYard_24 : decode cX2_becomeYard 24 = .ok (.getfield 27, 3) := by decide +kernel
theorem dX2_becomeYard_27 : decode cX2_becomeYard 27 = .ok (.iload_n 1, 1) := by decide +kernel
theorem dX2_becomeYard_28 : decode cX2_becomeYard 28 = .ok (.iload_n 2, 1) := by decide +kernel
theorem dX2_becomeYard_29 : decode cX2_becomeYard 29 = .ok (.iastore, 1) := by decide +kernel
theorem dX2_becomeYard_30 : decode cX2_becomeYard 30 = .ok (.aload_n 0, 1) := by decide +kernel
theorem dX2_becomeYard_31 : decode cX2_becomeYard 31 = .ok (.getfield 31, 3) := by decide +kernel
theorem dX2_becomeYard_34 : decode cX2_becomeYard 34 = .ok (.iload_n 1, 1) := by decide +kernel
theorem dX2_becomeYard_35 : decode cX2_becomeYard 35 = .ok (.iload_n 3, 1) := by decide +kernel
theorem dX2_becomeYard_36 : decode cX2_becomeYard 36 = .ok (.iastore, 1) := by decide +kernel
theorem dX2_becomeYard_37 : decode cX2_becomeYard 37 = .ok (.aload_n 0, 1) := by decide +kernel
theorem dX2_becomeYard_38 : decode cX2_becomeYard 38 = .ok (.getfield 34, 3) := by decide +kernel
theorem dX2_becomeYard_41 : decode cX2_becomeYard 41 = .ok (.iload_n 1, 1) := by decide +kernel
theorem dX2_becomeYard_42 : decode cX2_becomeYard 42 = .ok (.iload 4, 2) := by decide +kernel
theorem dX2_becomeYard_44 : decode cX2_becomeYard 44 = .ok (.iastore, 1) := by decide +kernel
theorem dX2_becomeYard_45 : decode cX2_becomeYard 45 = .ok (.iconst 1, 1) := by decide +kernel
theorem dX2_becomeYard_46 : decode cX2_becomeYard 46 = .ok (.ireturn, 1) := by decide +kernel
theorem dX2_addTrain_0 : decode cX2_addTrain 0 = .ok (.iload_n 1, 1) := by decide +kernel
theorem dX2_addTrain_1 : decode cX2_addTrain 1 = .ok (.iconst 1, 1) := by decide +kernel
theorem dX2_addTrain_2 : decode cX2_addTrain 2 = .ok (.if_icmp .lt 33, 3) := by decide +kernel
theorem dX2_addTrain_5 : decode cX2_addTrain 5 = .ok (.iload_n 1, 1) := by decide +kernel
theorem dX2_addTrain_6 : decode cX2_addTrain 6 = .ok (.bipush 60, 2) := by decide +kernel
theorem dX2_addTrain_8 : decode cX2_addTrain 8 = .ok (.if_icmp .gt 27, 3) := by decide +kernel
theorem dX2_addTrain_11 : decode cX2_addTrain 11 = .ok (.iload_n 2, 1) := by decide +kernel
theorem dX2_addTrain_12 : decode cX2_addTrain 12 = .ok (.bipush 9, 2) := by decide +kernel
theorem dX2_addTrain_14 : decode cX2_addTrain 14 = .ok (.if_icmp .gt 21, 3) := by decide +kernel
theorem dX2_addTrain_17 : decode cX2_addTrain 17 = .ok (.iload_n 3, 1) := by decide +kernel
theorem dX2_addTrain_18 : decode cX2_addTrain 18 = .ok (.iconst 1, 1) := by decide +kernel
theorem dX2_addTrain_19 : decode cX2_addTrain 19 = .ok (.if_icmp .lt 16, 3) := by decide +kernel
theorem dX2_addTrain_22 : decode cX2_addTrain 22 = .ok (.iload_n 3, 1) := by decide +kernel
theorem dX2_addTrain_23 : decode cX2_addTrain 23 = .ok (.iconst 3, 1) := by decide +kernel
theorem dX2_addTrain_24 : decode cX2_addTrain 24 = .ok (.if_icmp .gt 11, 3) := by decide +kernel
theorem dX2_addTrain_27 : decode cX2_addTrain 27 = .ok (.aload_n 0, 1) := by decide +kernel
theorem dX2_addTrain_28 : decode cX2_addTrain 28 = .ok (.getfield 24, 3) := by decide +kernel
theorem dX2_addTrain_31 : decode cX2_addTrain 31 = .ok (.iconst 5, 1) := by decide +kernel
theorem dX2_addTrain_32 : decode cX2_addTrain 32 = .ok (.if_icmp .lt 5, 3) := by decide +kernel
theorem dX2_addTrain_35 : decode cX2_addTrain 35 = .ok (.iconst 0, 1) := by decide +kernel
theorem dX2_addTrain_36 : decode cX2_addTrain 36 = .ok (.ireturn, 1) := by decide +kernel
theorem dX2_addTrain_37 : decode cX2_addTrain 37 = .ok (.aload_n 0, 1) := by decide +kernel
theorem dX2_addTrain_38 : decode cX2_addTrain 38 = .ok (.getfield 37, 3) := by decide +kernel
theorem dX2_addTrain_41 : decode cX2_addTrain 41 = .ok (.aload_n 0, 1) := by decide +kernel
theorem dX2_addTrain_42 : decode cX2_addTrain 42 = .ok (.getfield 24, 3) := by decide +kernel
theorem dX2_addTrain_45 : decode cX2_addTrain 45 = .ok (.iload_n 1, 1) := by decide +kernel
theorem dX2_addTrain_46 : decode cX2_addTrain 46 = .ok (.iastore, 1) := by decide +kernel
theorem dX2_addTrain_47 : decode cX2_addTrain 47 = .ok (.aload_n 0, 1) := by decide +kernel
theorem dX2_addTrain_48 : decode cX2_addTrain 48 = .ok (.getfield 40, 3) := by decide +kernel
theorem dX2_addTrain_51 : decode cX2_addTrain 51 = .ok (.aload_n 0, 1) := by decide +kernel
theorem dX2_addTrain_52 : decode cX2_addTrain 52 = .ok (.getfield 24, 3) := by decide +kernel
theorem dX2_addTrain_55 : decode cX2_addTrain 55 = .ok (.iload_n 2, 1) := by decide +kernel
theorem dX2_addTrain_56 : decode cX2_addTrain 56 = .ok (.iastore, 1) := by decide +kernel
theorem dX2_addTrain_57 : decode cX2_addTrain 57 = .ok (.aload_n 0, 1) := by decide +kernel
theorem dX2_addTrain_58 : decode cX2_addTrain 58 = .ok (.getfield 43, 3) := by decide +kernel
theorem dX2_addTrain_61 : decode cX2_addTrain 61 = .ok (.aload_n 0, 1) := by decide +kernel
theorem dX2_addTrain_62 : decode cX2_addTrain 62 = .ok (.getfield 24, 3) := by decide +kernel
theorem dX2_addTrain_65 : decode cX2_addTrain 65 = .ok (.iload_n 3, 1) := by decide +kernel
theorem dX2_addTrain_66 : decode cX2_addTrain 66 = .ok (.iastore, 1) := by decide +kernel
theorem dX2_addTrain_67 : decode cX2_addTrain 67 = .ok (.aload_n 0, 1) := by decide +kernel
theorem dX2_addTrain_68 : decode cX2_addTrain 68 = .ok (.getfield 46, 3) := by decide +kernel
theorem dX2_addTrain_71 : decode cX2_addTrain 71 = .ok (.aload_n 0, 1) := by decide +kernel
theorem dX2_addTrain_72 : decode cX2_addTrain 72 = .ok (.getfield 24, 3) := by decide +kernel
theorem dX2_addTrain_75 : decode cX2_addTrain 75 = .ok (.iconst (-1), 1) := by decide +kernel
theorem dX2_addTrain_76 : decode cX2_addTrain 76 = .ok (.iastore, 1) := by decide +kernel
theorem dX2_addTrain_77 : decode cX2_addTrain 77 = .ok (.aload_n 0, 1) := by decide +kernel
theorem dX2_addTrain_78 : decode cX2_addTrain 78 = .ok (.getfield 49, 3) := by decide +kernel
theorem dX2_addTrain_81 : decode cX2_addTrain 81 = .ok (.aload_n 0, 1) := by decide +kernel
theorem dX2_addTrain_82 : decode cX2_addTrain 82 = .ok (.getfield 24, 3) := by decide +kernel
theorem dX2_addTrain_85 : decode cX2_addTrain 85 = .ok (.iconst 0, 1) := by decide +kernel
theorem dX2_addTrain_86 : decode cX2_addTrain 86 = .ok (.iastore, 1) := by decide +kernel
theorem dX2_addTrain_87 : decode cX2_addTrain 87 = .ok (.aload_n 0, 1) := by decide +kernel
theorem dX2_addTrain_88 : decode cX2_addTrain 88 = .ok (.getfield 52, 3) := by decide +kernel
theorem dX2_addTrain_91 : decode cX2_addTrain 91 = .ok (.aload_n 0, 1) := by decide +kernel
theorem dX2_addTrain_92 : decode cX2_addTrain 92 = .ok (.getfield 24, 3) := by decide +kernel
theorem dX2_addTrain_95 : decode cX2_addTrain 95 = .ok (.iconst 0, 1) := by decide +kernel
theorem dX2_addTrain_96 : decode cX2_addTrain 96 = .ok (.iastore, 1) := by decide +kernel
theorem dX2_addTrain_97 : decode cX2_addTrain 97 = .ok (.aload_n 0, 1) := by decide +kernel
theorem dX2_addTrain_98 : decode cX2_addTrain 98 = .ok (.getfield 58, 3) := by decide +kernel
theorem dX2_addTrain_101 : decode cX2_addTrain 101 = .ok (.aload_n 0, 1) := by decide +kernel
theorem dX2_addTrain_102 : decode cX2_addTrain 102 = .ok (.getfield 24, 3) := by decide +kernel
theorem dX2_addTrain_105 : decode cX2_addTrain 105 = .ok (.bipush (-9), 2) := by decide +kernel
theorem dX2_addTrain_107 : decode cX2_addTrain 107 = .ok (.iastore, 1) := by decide +kernel
theorem dX2_addTrain_108 : decode cX2_addTrain 108 = .ok (.aload_n 0, 1) := by decide +kernel
theorem dX2_addTrain_109 : decode cX2_addTrain 109 = .ok (.dup, 1) := by decide +kernel
theorem dX2_addTrain_110 : decode cX2_addTrain 110 = .ok (.getfield 24, 3) := by decide +kernel
theorem dX2_addTrain_113 : decode cX2_addTrain 113 = .ok (.iconst 1, 1) := by decide +kernel
theorem dX2_addTrain_114 : decode cX2_addTrain 114 = .ok (.iadd, 1) := by decide +kernel
theorem dX2_addTrain_115 : decode cX2_addTrain 115 = .ok (.putfield 24, 3) := by decide +kernel
theorem dX2_addTrain_118 : decode cX2_addTrain 118 = .ok (.iconst 1, 1) := by decide +kernel
theorem dX2_addTrain_119 : decode cX2_addTrain 119 = .ok (.ireturn, 1) := by decide +kernel
theorem dX2_letWait_0 : decode cX2_letWait 0 = .ok (.iload_n 1, 1) := by decide +kernel
theorem dX2_letWait_1 : decode cX2_letWait 1 = .ok (.ifCond .lt 21, 3) := by decide +kernel
theorem dX2_letWait_4 : decode cX2_letWait 4 = .ok (.iload_n 1, 1) := by decide +kernel
theorem dX2_letWait_5 : decode cX2_letWait 5 = .ok (.aload_n 0, 1) := by decide +kernel
theorem dX2_letWait_6 : decode cX2_letWait 6 = .ok (.getfield 24, 3) := by decide +kernel
theorem dX2_letWait_9 : decode cX2_letWait 9 = .ok (.if_icmp .ge 13, 3) := by decide +kernel
theorem dX2_letWait_12 : decode cX2_letWait 12 = .ok (.iload_n 2, 1) := by decide +kernel
theorem dX2_letWait_13 : decode cX2_letWait 13 = .ok (.ifCond .lt 9, 3) := by decide +kernel
theorem dX2_letWait_16 : decode cX2_letWait 16 = .ok (.iload_n 2, 1) := by decide +kernel
theorem dX2_letWait_17 : decode cX2_letWait 17 = .ok (.bipush 48, 2) := by decide +kernel
theorem dX2_letWait_19 : decode cX2_letWait 19 = .ok (.if_icmp .le 5, 3) := by decide +kernel
theorem dX2_letWait_22 : decode cX2_letWait 22 = .ok (.iconst 0, 1) := by decide +kernel
theorem dX2_letWait_23 : decode cX2_letWait 23 = .ok (.ireturn, 1) := by decide +kernel
theorem dX2_letWait_24 : decode cX2_letWait 24 = .ok (.aload_n 0, 1) := by decide +kernel
theorem dX2_letWait_25 : decode cX2_letWait 25 = .ok (.getfield 52, 3) := by decide +kernel
theorem dX2_letWait_28 : decode cX2_letWait 28 = .ok (.iload_n 1, 1) := by decide +kernel
theorem dX2_letWait_29 : decode cX2_letWait 29 = .ok (.iaload, 1) := by decide +kernel
theorem dX2_letWait_30 : decode cX2_letWait 30 = .ok (.ifCond .eq 5, 3) := by decide +kernel
theorem dX2_letWait_33 : decode cX2_letWait 33 = .ok (.iconst 0, 1) := by decide +kernel
theorem dX2_letWait_34 : decode cX2_letWait 34 = .ok (.ireturn, 1) := by decide +kernel
theorem dX2_letWait_35 : decode cX2_letWait 35 = .ok (.aload_n 0, 1) := by decide +kernel
theorem dX2_letWait_36 : decode cX2_letWait 36 = .ok (.getfield 49, 3) := by decide +kernel
theorem dX2_letWait_39 : decode cX2_letWait 39 = .ok (.iload_n 1, 1) := by decide +kernel
theorem dX2_letWait_40 : decode cX2_letWait 40 = .ok (.iload_n 2, 1) := by decide +kernel
theorem dX2_letWait_41 : decode cX2_letWait 41 = .ok (.iastore, 1) := by decide +kernel
theorem dX2_letWait_42 : decode cX2_letWait 42 = .ok (.iconst 1, 1) := by decide +kernel
theorem dX2_letWait_43 : decode cX2_letWait 43 = .ok (.ireturn, 1) := by decide +kernel
theorem dX2_go_0 : decode cX2_go 0 = .ok (.aload_n 0, 1) := by decide +kernel
theorem dX2_go_1 : decode cX2_go 1 = .ok (.invokevirtual 77, 3) := by decide +kernel
theorem dX2_go_4 : decode cX2_go 4 = .ok (.iconst 0, 1) := by decide +kernel
theorem dX2_go_5 : decode cX2_go 5 = .ok (.istore_n 2, 1) := by decide +kernel
theorem dX2_go_6 : decode cX2_go 6 = .ok (.iload_n 2, 1) := by decide +kernel
theorem dX2_go_7 : decode cX2_go 7 = .ok (.iload_n 1, 1) := by decide +kernel
theorem dX2_go_8 : decode cX2_go 8 = .ok (.if_icmp .ge 13, 3) := by decide +kernel
theorem dX2_go_11 : decode cX2_go 11 = .ok (.aload_n 0, 1) := by decide +kernel
theorem dX2_go_12 : decode cX2_go 12 = .ok (.invokevirtual 80, 3) := by decide +kernel
theorem dX2_go_15 : decode cX2_go 15 = .ok (.iinc 2 1, 3) := by decide +kernel
theorem dX2_go_18 : decode cX2_go 18 = .ok (.goto (-12), 3) := by decide +kernel
theorem dX2_go_21 : decode cX2_go 21 = .ok (.return_, 1) := by decide +kernel
theorem dX2_goWhileOnItsWay_0 : decode cX2_goWhileOnItsWay 0 = .ok (.aload_n 0, 1) := by decide +kernel
theorem dX2_goWhileOnItsWay_1 : decode cX2_goWhileOnItsWay 1 = .ok (.invokevirtual 77, 3) := by decide +kernel
theorem dX2_goWhileOnItsWay_4 : decode cX2_goWhileOnItsWay 4 = .ok (.iconst 0, 1) := by decide +kernel
theorem dX2_goWhileOnItsWay_5 : decode cX2_goWhileOnItsWay 5 = .ok (.istore_n 3, 1) := by decide +kernel
theorem dX2_goWhileOnItsWay_6 : decode cX2_goWhileOnItsWay 6 = .ok (.iload_n 3, 1) := by decide +kernel
theorem dX2_goWhileOnItsWay_7 : decode cX2_goWhileOnItsWay 7 = .ok (.iload_n 2, 1) := by decide +kernel
theorem dX2_goWhileOnItsWay_8 : decode cX2_goWhileOnItsWay 8 = .ok (.if_icmp .ge 22, 3) := by decide +kernel
theorem dX2_goWhileOnItsWay_11 : decode cX2_goWhileOnItsWay 11 = .ok (.aload_n 0, 1) := by decide +kernel
theorem dX2_goWhileOnItsWay_12 : decode cX2_goWhileOnItsWay 12 = .ok (.getfield 52, 3) := by decide +kernel
theorem dX2_goWhileOnItsWay_15 : decode cX2_goWhileOnItsWay 15 = .ok (.iload_n 1, 1) := by decide +kernel
theorem dX2_goWhileOnItsWay_16 : decode cX2_goWhileOnItsWay 16 = .ok (.iaload, 1) := by decide +kernel
theorem dX2_goWhileOnItsWay_17 : decode cX2_goWhileOnItsWay 17 = .ok (.ifCond .ne 13, 3) := by decide +kernel
theorem dX2_goWhileOnItsWay_20 : decode cX2_goWhileOnItsWay 20 = .ok (.aload_n 0, 1) := by decide +kernel
theorem dX2_goWhileOnItsWay_21 : decode cX2_goWhileOnItsWay 21 = .ok (.invokevirtual 80, 3) := by decide +kernel
theorem dX2_goWhileOnItsWay_24 : decode cX2_goWhileOnItsWay 24 = .ok (.iinc 3 1, 3) := by decide +kernel
theorem dX2_goWhileOnItsWay_27 : decode cX2_goWhileOnItsWay 27 = .ok (.goto (-21), 3) := by decide +kernel
theorem dX2_goWhileOnItsWay_30 : decode cX2_goWhileOnItsWay 30 = .ok (.return_, 1) := by decide +kernel
theorem dX2_goWhileAnyGoes_0 : decode cX2_goWhileAnyGoes 0 = .ok (.aload_n 0, 1) := by decide +kernel
theorem dX2_goWhileAnyGoes_1 : decode cX2_goWhileAnyGoes 1 = .ok (.invokevirtual 77, 3) := by decide +kernel
theorem dX2_goWhileAnyGoes_4 : decode cX2_goWhileAnyGoes 4 = .ok (.iconst 0, 1) := by decide +kernel
theorem dX2_goWhileAnyGoes_5 : decode cX2_goWhileAnyGoes 5 = .ok (.istore_n 2, 1) := by decide +kernel
theorem dX2_goWhileAnyGoes_6 : decode cX2_goWhileAnyGoes 6 = .ok (.iload_n 2, 1) := by decide +kernel
theorem dX2_goWhileAnyGoes_7 : decode cX2_goWhileAnyGoes 7 = .ok (.iload_n 1, 1) := by decide +kernel
theorem dX2_goWhileAnyGoes_8 : decode cX2_goWhileAnyGoes 8 = .ok (.if_icmp .ge 21, 3) := by decide +kernel
theorem dX2_goWhileAnyGoes_11 : decode cX2_goWhileAnyGoes 11 = .ok (.aload_n 0, 1) := by decide +kernel
theorem dX2_goWhileAnyGoes_12 : decode cX2_goWhileAnyGoes 12 = .ok (.iconst 0, 1) := by decide +kernel
theorem dX2_goWhileAnyGoes_13 : decode cX2_goWhileAnyGoes 13 = .ok (.invokevirtual 83, 3) := by decide +kernel
theorem dX2_goWhileAnyGoes_16 : decode cX2_goWhileAnyGoes 16 = .ok (.ifCond .le 13, 3) := by decide +kernel
theorem dX2_goWhileAnyGoes_19 : decode cX2_goWhileAnyGoes 19 = .ok (.aload_n 0, 1) := by decide +kernel
theorem dX2_goWhileAnyGoes_20 : decode cX2_goWhileAnyGoes 20 = .ok (.invokevirtual 80, 3) := by decide +kernel
theorem dX2_goWhileAnyGoes_23 : decode cX2_goWhileAnyGoes 23 = .ok (.iinc 2 1, 3) := by decide +kernel
theorem dX2_goWhileAnyGoes_26 : decode cX2_goWhileAnyGoes 26 = .ok (.goto (-20), 3) := by decide +kernel
theorem dX2_goWhileAnyGoes_29 : decode cX2_goWhileAnyGoes 29 = .ok (.return_, 1) := by decide +kernel
theorem dX2_feelWeather_0 : decode cX2_feelWeather 0 = .ok (.iconst 0, 1) := by decide +kernel
theorem dX2_feelWeather_1 : decode cX2_feelWeather 1 = .ok (.istore_n 1, 1) := by decide +kernel
theorem dX2_feelWeather_2 : decode cX2_feelWeather 2 = .ok (.iload_n 1, 1) := by decide +kernel
theorem dX2_feelWeather_3 : decode cX2_feelWeather 3 = .ok (.aload_n 0, 1) := by decide +kernel
theorem dX2_feelWeather_4 : decode cX2_feelWeather 4 = .ok (.getfield 9, 3) := by decide +kernel
theorem dX2_feelWeather_7 : decode cX2_feelWeather 7 = .ok (.if_icmp .ge 59, 3) := by decide +kernel
theorem dX2_feelWeather_10 : decode cX2_feelWeather 10 = .ok (.aload_n 0, 1) := by decide +kernel
theorem dX2_feelWeather_11 : decode cX2_feelWeather 11 = .ok (.getfield 61, 3) := by decide +kernel
theorem dX2_feelWeather_14 : decode cX2_feelWeather 14 = .ok (.iload_n 1, 1) := by decide +kernel
theorem dX2_feelWeather_15 : decode cX2_feelWeather 15 = .ok (.aload_n 0, 1) := by decide +kernel
theorem dX2_feelWeather_16 : decode cX2_feelWeather 16 = .ok (.getfield 27, 3) := by decide +kernel
theorem dX2_feelWeather_19 : decode cX2_feelWeather 19 = .ok (.iload_n 1, 1) := by decide +kernel
theorem dX2_feelWeather_20 : decode cX2_feelWeather 20 = .ok (.iaload, 1) := by decide +kernel
theorem dX2_feelWeather_21 : decode cX2_feelWeather 21 = .ok (.aload_n 0, 1) := by decide +kernel
theorem dX2_feelWeather_22 : decode cX2_feelWeather 22 = .ok (.getfield 31, 3) := by decide +kernel
theorem dX2_feelWeather_25 : decode cX2_feelWeather 25 = .ok (.iload_n 1, 1) := by decide +kernel
theorem dX2_feelWeather_26 : decode cX2_feelWeather 26 = .ok (.iaload, 1) := by decide +kernel
theorem dX2_feelWeather_27 : decode cX2_feelWeather 27 = .ok (.aload_n 0, 1) := by decide +kernel
theorem dX2_feelWeather_28 : decode cX2_feelWeather 28 = .ok (.getfield 18, 3) := by decide +kernel
theorem dX2_feelWeather_31 : decode cX2_feelWeather 31 = .ok (.invokestatic 87, 3) := by decide +kernel
theorem dX2_feelWeather_34 : decode cX2_feelWeather 34 = .ok (.iastore, 1) := by decide +kernel
theorem dX2_feelWeather_35 : decode cX2_feelWeather 35 = .ok (.aload_n 0, 1) := by decide +kernel
theorem dX2_feelWeather_36 : decode cX2_feelWeather 36 = .ok (.getfield 64, 3) := by decide +kernel
theorem dX2_feelWeather_39 : decode cX2_feelWeather 39 = .ok (.iload_n 1, 1) := by decide +kernel
theorem dX2_feelWeather_40 : decode cX2_feelWeather 40 = .ok (.aload_n 0, 1) := by decide +kernel
theorem dX2_feelWeather_41 : decode cX2_feelWeather 41 = .ok (.getfield 27, 3) := by decide +kernel
theorem dX2_feelWeather_44 : decode cX2_feelWeather 44 = .ok (.iload_n 1, 1) := by decide +kernel
theorem dX2_feelWeather_45 : decode cX2_feelWeather 45 = .ok (.iaload, 1) := by decide +kernel
theorem dX2_feelWeather_46 : decode cX2_feelWeather 46 = .ok (.aload_n 0, 1) := by decide +kernel
theorem dX2_feelWeather_47 : decode cX2_feelWeather 47 = .ok (.getfield 31, 3) := by decide +kernel
theorem dX2_feelWeather_50 : decode cX2_feelWeather 50 = .ok (.iload_n 1, 1) := by decide +kernel
theorem dX2_feelWeather_51 : decode cX2_feelWeather 51 = .ok (.iaload, 1) := by decide +kernel
theorem dX2_feelWeather_52 : decode cX2_feelWeather 52 = .ok (.aload_n 0, 1) := by decide +kernel
theorem dX2_feelWeather_53 : decode cX2_feelWeather 53 = .ok (.getfield 21, 3) := by decide +kernel
theorem dX2_feelWeather_56 : decode cX2_feelWeather 56 = .ok (.invokestatic 93, 3) := by decide +kernel
theorem dX2_feelWeather_59 : decode cX2_feelWeather 59 = .ok (.iastore, 1) := by decide +kernel
theorem dX2_feelWeather_60 : decode cX2_feelWeather 60 = .ok (.iinc 1 1, 3) := by decide +kernel
theorem dX2_feelWeather_63 : decode cX2_feelWeather 63 = .ok (.goto (-61), 3) := by decide +kernel
theorem dX2_feelWeather_66 : decode cX2_feelWeather 66 = .ok (.return_, 1) := by decide +kernel
theorem dX2_passHour_0 : decode cX2_passHour 0 = .ok (.aload_n 0, 1) := by decide +kernel
theorem dX2_passHour_1 : decode cX2_passHour 1 = .ok (.dup, 1) := by decide +kernel
theorem dX2_passHour_2 : decode cX2_passHour 2 = .ok (.getfield 55, 3) := by decide +kernel
theorem dX2_passHour_5 : decode cX2_passHour 5 = .ok (.iconst 1, 1) := by decide +kernel
theorem dX2_passHour_6 : decode cX2_passHour 6 = .ok (.iadd, 1) := by decide +kernel
theorem dX2_passHour_7 : decode cX2_passHour 7 = .ok (.putfield 55, 3) := by decide +kernel
theorem dX2_passHour_10 : decode cX2_passHour 10 = .ok (.aload_n 0, 1) := by decide +kernel
theorem dX2_passHour_11 : decode cX2_passHour 11 = .ok (.getfield 15, 3) := by decide +kernel
theorem dX2_passHour_14 : decode cX2_passHour 14 = .ok (.bipush 24, 2) := by decide +kernel
theorem dX2_passHour_16 : decode cX2_passHour 16 = .ok (.irem, 1) := by decide +kernel
theorem dX2_passHour_17 : decode cX2_passHour 17 = .ok (.istore_n 1, 1) := by decide +kernel
theorem dX2_passHour_18 : decode cX2_passHour 18 = .ok (.iload_n 1, 1) := by decide +kernel
theorem dX2_passHour_19 : decode cX2_passHour 19 = .ok (.bipush 18, 2) := by decide +kernel
theorem dX2_passHour_21 : decode cX2_passHour 21 = .ok (.if_icmp .ge 8, 3) := by decide +kernel
theorem dX2_passHour_24 : decode cX2_passHour 24 = .ok (.iload_n 1, 1) := by decide +kernel
theorem dX2_passHour_25 : decode cX2_passHour 25 = .ok (.iconst 5, 1) := by decide +kernel
theorem dX2_passHour_26 : decode cX2_passHour 26 = .ok (.if_icmp .gt 10, 3) := by decide +kernel
theorem dX2_passHour_29 : decode cX2_passHour 29 = .ok (.aload_n 0, 1) := by decide +kernel
theorem dX2_passHour_30 : decode cX2_passHour 30 = .ok (.invokevirtual 96, 3) := by decide +kernel
theorem dX2_passHour_33 : decode cX2_passHour 33 = .ok (.goto 19, 3) := by decide +kernel
theorem dX2_passHour_36 : decode cX2_passHour 36 = .ok (.iload_n 1, 1) := by decide +kernel
theorem dX2_passHour_37 : decode cX2_passHour 37 = .ok (.bipush 10, 2) := by decide +kernel
theorem dX2_passHour_39 : decode cX2_passHour 39 = .ok (.if_icmp .lt 13, 3) := by decide +kernel
theorem dX2_passHour_42 : decode cX2_passHour 42 = .ok (.iload_n 1, 1) := by decide +kernel
theorem dX2_passHour_43 : decode cX2_passHour 43 = .ok (.bipush 15, 2) := by decide +kernel
theorem dX2_passHour_45 : decode cX2_passHour 45 = .ok (.if_icmp .gt 7, 3) := by decide +kernel
theorem dX2_passHour_48 : decode cX2_passHour 48 = .ok (.aload_n 0, 1) := by decide +kernel
theorem dX2_passHour_49 : decode cX2_passHour 49 = .ok (.invokevirtual 99, 3) := by decide +kernel
theorem dX2_passHour_52 : decode cX2_passHour 52 = .ok (.iconst 0, 1) := by decide +kernel
theorem dX2_passHour_53 : decode cX2_passHour 53 = .ok (.istore_n 2, 1) := by decide +kernel
theorem dX2_passHour_54 : decode cX2_passHour 54 = .ok (.iload_n 2, 1) := by decide +kernel
theorem dX2_passHour_55 : decode cX2_passHour 55 = .ok (.aload_n 0, 1) := by decide +kernel
theorem dX2_passHour_56 : decode cX2_passHour 56 = .ok (.getfield 24, 3) := by decide +kernel
theorem dX2_passHour_59 : decode cX2_passHour 59 = .ok (.if_icmp .ge 23, 3) := by decide +kernel
theorem dX2_passHour_62 : decode cX2_passHour 62 = .ok (.aload_n 0, 1) := by decide +kernel
theorem dX2_passHour_63 : decode cX2_passHour 63 = .ok (.getfield 52, 3) := by decide +kernel
theorem dX2_passHour_66 : decode cX2_passHour 66 = .ok (.iload_n 2, 1) := by decide +kernel
theorem dX2_passHour_67 : decode cX2_passHour 67 = .ok (.iaload, 1) := by decide +kernel
theorem dX2_passHour_68 : decode cX2_passHour 68 = .ok (.ifCond .ne 8, 3) := by decide +kernel
theorem dX2_passHour_71 : decode cX2_passHour 71 = .ok (.aload_n 0, 1) := by decide +kernel
theorem dX2_passHour_72 : decode cX2_passHour 72 = .ok (.iload_n 2, 1) := by decide +kernel
theorem dX2_passHour_73 : decode cX2_passHour 73 = .ok (.invokevirtual 102, 3) := by decide +kernel
theorem dX2_passHour_76 : decode cX2_passHour 76 = .ok (.iinc 2 1, 3) := by decide +kernel
theorem dX2_passHour_79 : decode cX2_passHour 79 = .ok (.goto (-25), 3) := by decide +kernel
theorem dX2_passHour_82 : decode cX2_passHour 82 = .ok (.aload_n 0, 1) := by decide +kernel
theorem dX2_passHour_83 : decode cX2_passHour 83 = .ok (.invokevirtual 106, 3) := by decide +kernel
theorem dX2_passHour_86 : decode cX2_passHour 86 = .ok (.aload_n 0, 1) := by decide +kernel
theorem dX2_passHour_87 : decode cX2_passHour 87 = .ok (.dup, 1) := by decide +kernel
theorem dX2_passHour_88 : decode cX2_passHour 88 = .ok (.getfield 15, 3) := by decide +kernel
theorem dX2_passHour_91 : decode cX2_passHour 91 = .ok (.iconst 1, 1) := by decide +kernel
theorem dX2_passHour_92 : decode cX2_passHour 92 = .ok (.iadd, 1) := by decide +kernel
theorem dX2_passHour_93 : decode cX2_passHour 93 = .ok (.putfield 15, 3) := by decide +kernel
theorem dX2_passHour_96 : decode cX2_passHour 96 = .ok (.return_, 1) := by decide +kernel
theorem dX2_freezeAll_0 : decode cX2_freezeAll 0 = .ok (.iconst 0, 1) := by decide +kernel
theorem dX2_freezeAll_1 : decode cX2_freezeAll 1 = .ok (.istore_n 1, 1) := by decide +kernel
theorem dX2_freezeAll_2 : decode cX2_freezeAll 2 = .ok (.iload_n 1, 1) := by decide +kernel
theorem dX2_freezeAll_3 : decode cX2_freezeAll 3 = .ok (.aload_n 0, 1) := by decide +kernel
theorem dX2_freezeAll_4 : decode cX2_freezeAll 4 = .ok (.getfield 9, 3) := by decide +kernel
theorem dX2_freezeAll_7 : decode cX2_freezeAll 7 = .ok (.if_icmp .ge 33, 3) := by decide +kernel
theorem dX2_freezeAll_10 : decode cX2_freezeAll 10 = .ok (.aload_n 0, 1) := by decide +kernel
theorem dX2_freezeAll_11 : decode cX2_freezeAll 11 = .ok (.getfield 34, 3) := by decide +kernel
theorem dX2_freezeAll_14 : decode cX2_freezeAll 14 = .ok (.iload_n 1, 1) := by decide +kernel
theorem dX2_freezeAll_15 : decode cX2_freezeAll 15 = .ok (.bipush 99, 2) := by decide +kernel
theorem dX2_freezeAll_17 : decode cX2_freezeAll 17 = .ok (.aload_n 0, 1) := by decide +kernel
theorem dX2_freezeAll_18 : decode cX2_freezeAll 18 = .ok (.getfield 34, 3) := by decide +kernel
theorem dX2_freezeAll_21 : decode cX2_freezeAll 21 = .ok (.iload_n 1, 1) := by decide +kernel
theorem dX2_freezeAll_22 : decode cX2_freezeAll 22 = .ok (.iaload, 1) := by decide +kernel
theorem dX2_freezeAll_23 : decode cX2_freezeAll 23 = .ok (.aload_n 0, 1) := by decide +kernel
theorem dX2_freezeAll_24 : decode cX2_freezeAll 24 = .ok (.getfield 61, 3) := by decide +kernel
theorem dX2_freezeAll_27 : decode cX2_freezeAll 27 = .ok (.iload_n 1, 1) := by decide +kernel
theorem dX2_freezeAll_28 : decode cX2_freezeAll 28 = .ok (.iaload, 1) := by decide +kernel
theorem dX2_freezeAll_29 : decode cX2_freezeAll 29 = .ok (.iadd, 1) := by decide +kernel
theorem dX2_freezeAll_30 : decode cX2_freezeAll 30 = .ok (.invokestatic 109, 3) := by decide +kernel
theorem dX2_freezeAll_33 : decode cX2_freezeAll 33 = .ok (.iastore, 1) := by decide +kernel
theorem dX2_freezeAll_34 : decode cX2_freezeAll 34 = .ok (.iinc 1 1, 3) := by decide +kernel
theorem dX2_freezeAll_37 : decode cX2_freezeAll 37 = .ok (.goto (-35), 3) := by decide +kernel
theorem dX2_freezeAll_40 : decode cX2_freezeAll 40 = .ok (.return_, 1) := by decide +kernel
theorem dX2_meltAll_0 : decode cX2_meltAll 0 = .ok (.iconst 0, 1) := by decide +kernel
theorem dX2_meltAll_1 : decode cX2_meltAll 1 = .ok (.istore_n 1, 1) := by decide +kernel
theorem dX2_meltAll_2 : decode cX2_meltAll 2 = .ok (.iload_n 1, 1) := by decide +kernel
theorem dX2_meltAll_3 : decode cX2_meltAll 3 = .ok (.aload_n 0, 1) := by decide +kernel
theorem dX2_meltAll_4 : decode cX2_meltAll 4 = .ok (.getfield 9, 3) := by decide +kernel
theorem dX2_meltAll_7 : decode cX2_meltAll 7 = .ok (.if_icmp .ge 32, 3) := by decide +kernel
theorem dX2_meltAll_10 : decode cX2_meltAll 10 = .ok (.aload_n 0, 1) := by decide +kernel
theorem dX2_meltAll_11 : decode cX2_meltAll 11 = .ok (.getfield 34, 3) := by decide +kernel
theorem dX2_meltAll_14 : decode cX2_meltAll 14 = .ok (.iload_n 1, 1) := by decide +kernel
theorem dX2_meltAll_15 : decode cX2_meltAll 15 = .ok (.iconst 0, 1) := by decide +kernel
theorem dX2_meltAll_16 : decode cX2_meltAll 16 = .ok (.aload_n 0, 1) := by decide +kernel
theorem dX2_meltAll_17 : decode cX2_meltAll 17 = .ok (.getfield 34, 3) := by decide +kernel
theorem dX2_meltAll_20 : decode cX2_meltAll 20 = .ok (.iload_n 1, 1) := by decide +kernel
theorem dX2_meltAll_21 : decode cX2_meltAll 21 = .ok (.iaload, 1) := by decide +kernel
theorem dX2_meltAll_22 : decode cX2_meltAll 22 = .ok (.aload_n 0, 1) := by decide +kernel
theorem dX2_meltAll_23 : decode cX2_meltAll 23 = .ok (.getfield 64, 3) := by decide +kernel
theorem dX2_meltAll_26 : decode cX2_meltAll 26 = .ok (.iload_n 1, 1) := by decide +kernel
theorem dX2_meltAll_27 : decode cX2_meltAll 27 = .ok (.iaload, 1) := by decide +kernel
theorem dX2_meltAll_28 : decode cX2_meltAll 28 = .ok (.isub, 1) := by decide +kernel
theorem dX2_meltAll_29 : decode cX2_meltAll 29 = .ok (.invokestatic 115, 3) := by decide +kernel
theorem dX2_meltAll_32 : decode cX2_meltAll 32 = .ok (.iastore, 1) := by decide +kernel
theorem dX2_meltAll_33 : decode cX2_meltAll 33 = .ok (.iinc 1 1, 3) := by decide +kernel
theorem dX2_meltAll_36 : decode cX2_meltAll 36 = .ok (.goto (-34), 3) := by decide +kernel
theorem dX2_meltAll_39 : decode cX2_meltAll 39 = .ok (.return_, 1) := by decide +kernel
theorem dX2_moveTrain_0 : decode cX2_moveTrain 0 = .ok (.aload_n 0, 1) := by decide +kernel
theorem dX2_moveTrain_1 : decode cX2_moveTrain 1 = .ok (.getfield 49, 3) := by decide +kernel
theorem dX2_moveTrain_4 : decode cX2_moveTrain 4 = .ok (.iload_n 1, 1) := by decide +kernel
theorem dX2_moveTrain_5 : decode cX2_moveTrain 5 = .ok (.iaload, 1) := by decide +kernel
theorem dX2_moveTrain_6 : decode cX2_moveTrain 6 = .ok (.ifCond .le 14, 3) := by decide +kernel
theorem dX2_moveTrain_9 : decode cX2_moveTrain 9 = .ok (.aload_n 0, 1) := by decide +kernel
theorem dX2_moveTrain_10 : decode cX2_moveTrain 10 = .ok (.getfield 49, 3) := by decide +kernel
theorem dX2_moveTrain_13 : decode cX2_moveTrain 13 = .ok (.iload_n 1, 1) := by decide +kernel
theorem dX2_moveTrain_14 : decode cX2_moveTrain 14 = .ok (.dup2, 1) := by decide +kernel
theorem dX2_moveTrain_15 : decode cX2_moveTrain 15 = .ok (.iaload, 1) := by decide +kernel
theorem dX2_moveTrain_16 : decode cX2_moveTrain 16 = .ok (.iconst 1, 1) := by decide +kernel
theorem dX2_moveTrain_17 : decode cX2_moveTrain 17 = .ok (.isub, 1) := by decide +kernel
theorem dX2_moveTrain_18 : decode cX2_moveTrain 18 = .ok (.iastore, 1) := by decide +kernel
theorem dX2_moveTrain_19 : decode cX2_moveTrain 19 = .ok (.return_, 1) := by decide +kernel
theorem dX2_moveTrain_20 : decode cX2_moveTrain 20 = .ok (.iconst 0, 1) := by decide +kernel
theorem dX2_moveTrain_21 : decode cX2_moveTrain 21 = .ok (.istore_n 2, 1) := by decide +kernel
theorem dX2_moveTrain_22 : decode cX2_moveTrain 22 = .ok (.iload_n 2, 1) := by decide +kernel
theorem dX2_moveTrain_23 : decode cX2_moveTrain 23 = .ok (.aload_n 0, 1) := by decide +kernel
theorem dX2_moveTrain_24 : decode cX2_moveTrain 24 = .ok (.getfield 43, 3) := by decide +kernel
theorem dX2_moveTrain_27 : decode cX2_moveTrain 27 = .ok (.iload_n 1, 1) := by decide +kernel
theorem dX2_moveTrain_28 : decode cX2_moveTrain 28 = .ok (.iaload, 1) := by decide +kernel
theorem dX2_moveTrain_29 : decode cX2_moveTrain 29 = .ok (.if_icmp .ge 113, 3) := by decide +kernel
theorem dX2_moveTrain_32 : decode cX2_moveTrain 32 = .ok (.aload_n 0, 1) := by decide +kernel
theorem dX2_moveTrain_33 : decode cX2_moveTrain 33 = .ok (.getfield 46, 3) := by decide +kernel
theorem dX2_moveTrain_36 : decode cX2_moveTrain 36 = .ok (.iload_n 1, 1) := by decide +kernel
theorem dX2_moveTrain_37 : decode cX2_moveTrain 37 = .ok (.iaload, 1) := by decide +kernel
theorem dX2_moveTrain_38 : decode cX2_moveTrain 38 = .ok (.iconst 1, 1) := by decide +kernel
theorem dX2_moveTrain_39 : decode cX2_moveTrain 39 = .ok (.iadd, 1) := by decide +kernel
theorem dX2_moveTrain_40 : decode cX2_moveTrain 40 = .ok (.istore_n 3, 1) := by decide +kernel
theorem dX2_moveTrain_41 : decode cX2_moveTrain 41 = .ok (.iload_n 3, 1) := by decide +kernel
theorem dX2_moveTrain_42 : decode cX2_moveTrain 42 = .ok (.aload_n 0, 1) := by decide +kernel
theorem dX2_moveTrain_43 : decode cX2_moveTrain 43 = .ok (.getfield 9, 3) := by decide +kernel
theorem dX2_moveTrain_46 : decode cX2_moveTrain 46 = .ok (.if_icmp .lt 21, 3) := by decide +kernel
theorem dX2_moveTrain_49 : decode cX2_moveTrain 49 = .ok (.aload_n 0, 1) := by decide +kernel
theorem dX2_moveTrain_50 : decode cX2_moveTrain 50 = .ok (.getfield 52, 3) := by decide +kernel
theorem dX2_moveTrain_53 : decode cX2_moveTrain 53 = .ok (.iload_n 1, 1) := by decide +kernel
theorem dX2_moveTrain_54 : decode cX2_moveTrain 54 = .ok (.iconst 1, 1) := by decide +kernel
theorem dX2_moveTrain_55 : decode cX2_moveTrain 55 = .ok (.iastore, 1) := by decide +kernel
theorem dX2_moveTrain_56 : decode cX2_moveTrain 56 = .ok (.aload_n 0, 1) := by decide +kernel
theorem dX2_moveTrain_57 : decode cX2_moveTrain 57 = .ok (.getfield 58, 3) := by decide +kernel
theorem dX2_moveTrain_60 : decode cX2_moveTrain 60 = .ok (.iload_n 1, 1) := by decide +kernel
theorem dX2_moveTrain_61 : decode cX2_moveTrain 61 = .ok (.aload_n 0, 1) := by decide +kernel
theorem dX2_moveTrain_62 : decode cX2_moveTrain 62 = .ok (.getfield 55, 3) := by decide +kernel
theorem dX2_moveTrain_65 : decode cX2_moveTrain 65 = .ok (.iastore, 1) := by decide +kernel
theorem dX2_moveTrain_66 : decode cX2_moveTrain 66 = .ok (.return_, 1) := by decide +kernel
theorem dX2_moveTrain_67 : decode cX2_moveTrain 67 = .ok (.aload_n 0, 1) := by decide +kernel
theorem dX2_moveTrain_68 : decode cX2_moveTrain 68 = .ok (.getfield 34, 3) := by decide +kernel
theorem dX2_moveTrain_71 : decode cX2_moveTrain 71 = .ok (.iload_n 3, 1) := by decide +kernel
theorem dX2_moveTrain_72 : decode cX2_moveTrain 72 = .ok (.iaload, 1) := by decide +kernel
theorem dX2_moveTrain_73 : decode cX2_moveTrain 73 = .ok (.aload_n 0, 1) := by decide +kernel
theorem dX2_moveTrain_74 : decode cX2_moveTrain 74 = .ok (.getfield 27, 3) := by decide +kernel
theorem dX2_moveTrain_77 : decode cX2_moveTrain 77 = .ok (.iload_n 3, 1) := by decide +kernel
theorem dX2_moveTrain_78 : decode cX2_moveTrain 78 = .ok (.iaload, 1) := by decide +kernel
theorem dX2_moveTrain_79 : decode cX2_moveTrain 79 = .ok (.aload_n 0, 1) := by decide +kernel
theorem dX2_moveTrain_80 : decode cX2_moveTrain 80 = .ok (.getfield 31, 3) := by decide +kernel
theorem dX2_moveTrain_83 : decode cX2_moveTrain 83 = .ok (.iload_n 3, 1) := by decide +kernel
theorem dX2_moveTrain_84 : decode cX2_moveTrain 84 = .ok (.iaload, 1) := by decide +kernel
theorem dX2_moveTrain_85 : decode cX2_moveTrain 85 = .ok (.aload_n 0, 1) := by decide +kernel
theorem dX2_moveTrain_86 : decode cX2_moveTrain 86 = .ok (.getfield 37, 3) := by decide +kernel
theorem dX2_moveTrain_89 : decode cX2_moveTrain 89 = .ok (.iload_n 1, 1) := by decide +kernel
theorem dX2_moveTrain_90 : decode cX2_moveTrain 90 = .ok (.iaload, 1) := by decide +kernel
theorem dX2_moveTrain_91 : decode cX2_moveTrain 91 = .ok (.invokestatic 118, 3) := by decide +kernel
theorem dX2_moveTrain_94 : decode cX2_moveTrain 94 = .ok (.if_icmp .lt 11, 3) := by decide +kernel
theorem dX2_moveTrain_97 : decode cX2_moveTrain 97 = .ok (.aload_n 0, 1) := by decide +kernel
theorem dX2_moveTrain_98 : decode cX2_moveTrain 98 = .ok (.iload_n 3, 1) := by decide +kernel
theorem dX2_moveTrain_99 : decode cX2_moveTrain 99 = .ok (.invokevirtual 121, 3) := by decide +kernel
theorem dX2_moveTrain_102 : decode cX2_moveTrain 102 = .ok (.ifCond .eq 4, 3) := by decide +kernel
theorem dX2_moveTrain_105 : decode cX2_moveTrain 105 = .ok (.return_, 1) := by decide +kernel
theorem dX2_moveTrain_106 : decode cX2_moveTrain 106 = .ok (.aload_n 0, 1) := by decide +kernel
theorem dX2_moveTrain_107 : decode cX2_moveTrain 107 = .ok (.getfield 46, 3) := by decide +kernel
theorem dX2_moveTrain_110 : decode cX2_moveTrain 110 = .ok (.iload_n 1, 1) := by decide +kernel
theorem dX2_moveTrain_111 : decode cX2_moveTrain 111 = .ok (.iload_n 3, 1) := by decide +kernel
theorem dX2_moveTrain_112 : decode cX2_moveTrain 112 = .ok (.iastore, 1) := by decide +kernel
theorem dX2_moveTrain_113 : decode cX2_moveTrain 113 = .ok (.aload_n 0, 1) := by decide +kernel
theorem dX2_moveTrain_114 : decode cX2_moveTrain 114 = .ok (.getfield 34, 3) := by decide +kernel
theorem dX2_moveTrain_117 : decode cX2_moveTrain 117 = .ok (.iload_n 3, 1) := by decide +kernel
theorem dX2_moveTrain_118 : decode cX2_moveTrain 118 = .ok (.iconst 0, 1) := by decide +kernel
theorem dX2_moveTrain_119 : decode cX2_moveTrain 119 = .ok (.aload_n 0, 1) := by decide +kernel
theorem dX2_moveTrain_120 : decode cX2_moveTrain 120 = .ok (.getfield 34, 3) := by decide +kernel
theorem dX2_moveTrain_123 : decode cX2_moveTrain 123 = .ok (.iload_n 3, 1) := by decide +kernel
theorem dX2_moveTrain_124 : decode cX2_moveTrain 124 = .ok (.iaload, 1) := by decide +kernel
theorem dX2_moveTrain_125 : decode cX2_moveTrain 125 = .ok (.aload_n 0, 1) := by decide +kernel
theorem dX2_moveTrain_126 : decode cX2_moveTrain 126 = .ok (.getfield 40, 3) := by decide +kernel
theorem dX2_moveTrain_129 : decode cX2_moveTrain 129 = .ok (.iload_n 1, 1) := by decide +kernel
theorem dX2_moveTrain_130 : decode cX2_moveTrain 130 = .ok (.iaload, 1) := by decide +kernel
theorem dX2_moveTrain_131 : decode cX2_moveTrain 131 = .ok (.isub, 1) := by decide +kernel
theorem dX2_moveTrain_132 : decode cX2_moveTrain 132 = .ok (.invokestatic 115, 3) := by decide +kernel
theorem dX2_moveTrain_135 : decode cX2_moveTrain 135 = .ok (.iastore, 1) := by decide +kernel
theorem dX2_moveTrain_136 : decode cX2_moveTrain 136 = .ok (.iinc 2 1, 3) := by decide +kernel
theorem dX2_moveTrain_139 : decode cX2_moveTrain 139 = .ok (.goto (-117), 3) := by decide +kernel
theorem dX2_moveTrain_142 : decode cX2_moveTrain 142 = .ok (.return_, 1) := by decide +kernel
theorem dX2_isTaken_0 : decode cX2_isTaken 0 = .ok (.aload_n 0, 1) := by decide +kernel
theorem dX2_isTaken_1 : decode cX2_isTaken 1 = .ok (.getfield 27, 3) := by decide +kernel
theorem dX2_isTaken_4 : decode cX2_isTaken 4 = .ok (.iload_n 1, 1) := by decide +kernel
theorem dX2_isTaken_5 : decode cX2_isTaken 5 = .ok (.iaload, 1) := by decide +kernel
theorem dX2_isTaken_6 : decode cX2_isTaken 6 = .ok (.iconst 3, 1) := by decide +kernel
theorem dX2_isTaken_7 : decode cX2_isTaken 7 = .ok (.if_icmp .eq 13, 3) := by decide +kernel
theorem dX2_isTaken_10 : decode cX2_isTaken 10 = .ok (.aload_n 0, 1) := by decide +kernel
theorem dX2_isTaken_11 : decode cX2_isTaken 11 = .ok (.getfield 27, 3) := by decide +kernel
theorem dX2_isTaken_14 : decode cX2_isTaken 14 = .ok (.iload_n 1, 1) := by decide +kernel
theorem dX2_isTaken_15 : decode cX2_isTaken 15 = .ok (.iaload, 1) := by decide +kernel
theorem dX2_isTaken_16 : decode cX2_isTaken 16 = .ok (.iconst 4, 1) := by decide +kernel
theorem dX2_isTaken_17 : decode cX2_isTaken 17 = .ok (.if_icmp .ne 5, 3) := by decide +kernel
theorem dX2_isTaken_20 : decode cX2_isTaken 20 = .ok (.iconst 0, 1) := by decide +kernel
theorem dX2_isTaken_21 : decode cX2_isTaken 21 = .ok (.ireturn, 1) := by decide +kernel
theorem dX2_isTaken_22 : decode cX2_isTaken 22 = .ok (.iconst 0, 1) := by decide +kernel
theorem dX2_isTaken_23 : decode cX2_isTaken 23 = .ok (.istore_n 2, 1) := by decide +kernel
theorem dX2_isTaken_24 : decode cX2_isTaken 24 = .ok (.iload_n 2, 1) := by decide +kernel
theorem dX2_isTaken_25 : decode cX2_isTaken 25 = .ok (.aload_n 0, 1) := by decide +kernel
theorem dX2_isTaken_26 : decode cX2_isTaken 26 = .ok (.getfield 24, 3) := by decide +kernel
theorem dX2_isTaken_29 : decode cX2_isTaken 29 = .ok (.if_icmp .ge 30, 3) := by decide +kernel
theorem dX2_isTaken_32 : decode cX2_isTaken 32 = .ok (.aload_n 0, 1) := by decide +kernel
theorem dX2_isTaken_33 : decode cX2_isTaken 33 = .ok (.getfield 52, 3) := by decide +kernel
theorem dX2_isTaken_36 : decode cX2_isTaken 36 = .ok (.iload_n 2, 1) := by decide +kernel
theorem dX2_isTaken_37 : decode cX2_isTaken 37 = .ok (.iaload, 1) := by decide +kernel
theorem dX2_isTaken_38 : decode cX2_isTaken 38 = .ok (.ifCond .ne 15, 3) := by decide +kernel
theorem dX2_isTaken_41 : decode cX2_isTaken 41 = .ok (.aload_n 0, 1) := by decide +kernel
theorem dX2_isTaken_42 : decode cX2_isTaken 42 = .ok (.getfield 46, 3) := by decide +kernel
theorem dX2_isTaken_45 : decode cX2_isTaken 45 = .ok (.iload_n 2, 1) := by decide +kernel
theorem dX2_isTaken_46 : decode cX2_isTaken 46 = .ok (.iaload, 1) := by decide +kernel
theorem dX2_isTaken_47 : decode cX2_isTaken 47 = .ok (.iload_n 1, 1) := by decide +kernel
theorem dX2_isTaken_48 : decode cX2_isTaken 48 = .ok (.if_icmp .ne 5, 3) := by decide +kernel
theorem dX2_isTaken_51 : decode cX2_isTaken 51 = .ok (.iconst 1, 1) := by decide +kernel
theorem dX2_isTaken_52 : decode cX2_isTaken 52 = .ok (.ireturn, 1) := by decide +kernel
theorem dX2_isTaken_53 : decode cX2_isTaken 53 = .ok (.iinc 2 1, 3) := by decide +kernel
theorem dX2_isTaken_56 : decode cX2_isTaken 56 = .ok (.goto (-32), 3) := by decide +kernel
theorem dX2_isTaken_59 : decode cX2_isTaken 59 = .ok (.iconst 0, 1) := by decide +kernel
theorem dX2_isTaken_60 : decode cX2_isTaken 60 = .ok (.ireturn, 1) := by decide +kernel
theorem dX2_sinkTrains_0 : decode cX2_sinkTrains 0 = .ok (.iconst 0, 1) := by decide +kernel
theorem dX2_sinkTrains_1 : decode cX2_sinkTrains 1 = .ok (.istore_n 1, 1) := by decide +kernel
theorem dX2_sinkTrains_2 : decode cX2_sinkTrains 2 = .ok (.iload_n 1, 1) := by decide +kernel
theorem dX2_sinkTrains_3 : decode cX2_sinkTrains 3 = .ok (.aload_n 0, 1) := by decide +kernel
theorem dX2_sinkTrains_4 : decode cX2_sinkTrains 4 = .ok (.getfield 24, 3) := by decide +kernel
theorem dX2_sinkTrains_7 : decode cX2_sinkTrains 7 = .ok (.if_icmp .ge 79, 3) := by decide +kernel
theorem dX2_sinkTrains_10 : decode cX2_sinkTrains 10 = .ok (.aload_n 0, 1) := by decide +kernel
theorem dX2_sinkTrains_11 : decode cX2_sinkTrains 11 = .ok (.getfield 46, 3) := by decide +kernel
theorem dX2_sinkTrains_14 : decode cX2_sinkTrains 14 = .ok (.iload_n 1, 1) := by decide +kernel
theorem dX2_sinkTrains_15 : decode cX2_sinkTrains 15 = .ok (.iaload, 1) := by decide +kernel
theorem dX2_sinkTrains_16 : decode cX2_sinkTrains 16 = .ok (.istore_n 2, 1) := by decide +kernel
theorem dX2_sinkTrains_17 : decode cX2_sinkTrains 17 = .ok (.aload_n 0, 1) := by decide +kernel
theorem dX2_sinkTrains_18 : decode cX2_sinkTrains 18 = .ok (.getfield 52, 3) := by decide +kernel
theorem dX2_sinkTrains_21 : decode cX2_sinkTrains 21 = .ok (.iload_n 1, 1) := by decide +kernel
theorem dX2_sinkTrains_22 : decode cX2_sinkTrains 22 = .ok (.iaload, 1) := by decide +kernel
theorem dX2_sinkTrains_23 : decode cX2_sinkTrains 23 = .ok (.ifCond .ne 57, 3) := by decide +kernel
theorem dX2_sinkTrains_26 : decode cX2_sinkTrains 26 = .ok (.iload_n 2, 1) := by decide +kernel
theorem dX2_sinkTrains_27 : decode cX2_sinkTrains 27 = .ok (.iconst (-1), 1) := by decide +kernel
theorem dX2_sinkTrains_28 : decode cX2_sinkTrains 28 = .ok (.if_icmp .eq 52, 3) := by decide +kernel
theorem dX2_sinkTrains_31 : decode cX2_sinkTrains 31 = .ok (.aload_n 0, 1) := by decide +kernel
theorem dX2_sinkTrains_32 : decode cX2_sinkTrains 32 = .ok (.getfield 34, 3) := by decide +kernel
theorem dX2_sinkTrains_35 : decode cX2_sinkTrains 35 = .ok (.iload_n 2, 1) := by decide +kernel
theorem dX2_sinkTrains_36 : decode cX2_sinkTrains 36 = .ok (.iaload, 1) := by decide +kernel
theorem dX2_sinkTrains_37 : decode cX2_sinkTrains 37 = .ok (.aload_n 0, 1) := by decide +kernel
theorem dX2_sinkTrains_38 : decode cX2_sinkTrains 38 = .ok (.getfield 27, 3) := by decide +kernel
theorem dX2_sinkTrains_41 : decode cX2_sinkTrains 41 = .ok (.iload_n 2, 1) := by decide +kernel
theorem dX2_sinkTrains_42 : decode cX2_sinkTrains 42 = .ok (.iaload, 1) := by decide +kernel
theorem dX2_sinkTrains_43 : decode cX2_sinkTrains 43 = .ok (.aload_n 0, 1) := by decide +kernel
theorem dX2_sinkTrains_44 : decode cX2_sinkTrains 44 = .ok (.getfield 31, 3) := by decide +kernel
theorem dX2_sinkTrains_47 : decode cX2_sinkTrains 47 = .ok (.iload_n 2, 1) := by decide +kernel
theorem dX2_sinkTrains_48 : decode cX2_sinkTrains 48 = .ok (.iaload, 1) := by decide +kernel
theorem dX2_sinkTrains_49 : decode cX2_sinkTrains 49 = .ok (.aload_n 0, 1) := by decide +kernel
theorem dX2_sinkTrains_50 : decode cX2_sinkTrains 50 = .ok (.getfield 37, 3) := by decide +kernel
theorem dX2_sinkTrains_53 : decode cX2_sinkTrains 53 = .ok (.iload_n 1, 1) := by decide +kernel
theorem dX2_sinkTrains_54 : decode cX2_sinkTrains 54 = .ok (.iaload, 1) := by decide +kernel
theorem dX2_sinkTrains_55 : decode cX2_sinkTrains 55 = .ok (.invokestatic 118, 3) := by decide +kernel
theorem dX2_sinkTrains_58 : decode cX2_sinkTrains 58 = .ok (.iconst 2, 1) := by decide +kernel
theorem dX2_sinkTrains_59 : decode cX2_sinkTrains 59 = .ok (.idiv, 1) := by decide +kernel
theorem dX2_sinkTrains_60 : decode cX2_sinkTrains 60 = .ok (.if_icmp .ge 20, 3) := by decide +kernel
theorem dX2_sinkTrains_63 : decode cX2_sinkTrains 63 = .ok (.aload_n 0, 1) := by decide +kernel
theorem dX2_sinkTrains_64 : decode cX2_sinkTrains 64 = .ok (.getfield 52, 3) := by decide +kernel
theorem dX2_sinkTrains_67 : decode cX2_sinkTrains 67 = .ok (.iload_n 1, 1) := by decide +kernel
theorem dX2_sinkTrains_68 : decode cX2_sinkTrains 68 = .ok (.iconst 2, 1) := by decide +kernel
theorem dX2_sinkTrains_69 : decode cX2_sinkTrains 69 = .ok (.iastore, 1) := by decide +kernel
theorem dX2_sinkTrains_70 : decode cX2_sinkTrains 70 = .ok (.aload_n 0, 1) := by decide +kernel
theorem dX2_sinkTrains_71 : decode cX2_sinkTrains 71 = .ok (.getfield 58, 3) := by decide +kernel
theorem dX2_sinkTrains_74 : decode cX2_sinkTrains 74 = .ok (.iload_n 1, 1) := by decide +kernel
theorem dX2_sinkTrains_75 : decode cX2_sinkTrains 75 = .ok (.aload_n 0, 1) := by decide +kernel
theorem dX2_sinkTrains_76 : decode cX2_sinkTrains 76 = .ok (.getfield 55, 3) := by decide +kernel
theorem dX2_sinkTrains_79 : decode cX2_sinkTrains 79 = .ok (.iastore, 1) := by decide +kernel
theorem dX2_sinkTrains_80 : decode cX2_sinkTrains 80 = .ok (.iinc 1 1, 3) := by decide +kernel
theorem dX2_sinkTrains_83 : decode cX2_sinkTrains 83 = .ok (.goto (-81), 3) := by decide +kernel
theorem dX2_sinkTrains_86 : decode cX2_sinkTrains 86 = .ok (.return_, 1) := by decide +kernel
theorem dX2_pour_0 : decode cX2_pour 0 = .ok (.aload_n 0, 1) := by decide +kernel
theorem dX2_pour_1 : decode cX2_pour 1 = .ok (.getfield 34, 3) := by decide +kernel
theorem dX2_pour_4 : decode cX2_pour 4 = .ok (.iload_n 1, 1) := by decide +kernel
theorem dX2_pour_5 : decode cX2_pour 5 = .ok (.bipush 99, 2) := by decide +kernel
theorem dX2_pour_7 : decode cX2_pour 7 = .ok (.aload_n 0, 1) := by decide +kernel
theorem dX2_pour_8 : decode cX2_pour 8 = .ok (.getfield 34, 3) := by decide +kernel
theorem dX2_pour_11 : decode cX2_pour 11 = .ok (.iload_n 1, 1) := by decide +kernel
theorem dX2_pour_12 : decode cX2_pour 12 = .ok (.iaload, 1) := by decide +kernel
theorem dX2_pour_13 : decode cX2_pour 13 = .ok (.bipush 10, 2) := by decide +kernel
theorem dX2_pour_15 : decode cX2_pour 15 = .ok (.iadd, 1) := by decide +kernel
theorem dX2_pour_16 : decode cX2_pour 16 = .ok (.invokestatic 109, 3) := by decide +kernel
theorem dX2_pour_19 : decode cX2_pour 19 = .ok (.iastore, 1) := by decide +kernel
theorem dX2_pour_20 : decode cX2_pour 20 = .ok (.return_, 1) := by decide +kernel
theorem dX2_bears_0 : decode cX2_bears 0 = .ok (.aload_n 0, 1) := by decide +kernel
theorem dX2_bears_1 : decode cX2_bears 1 = .ok (.getfield 34, 3) := by decide +kernel
theorem dX2_bears_4 : decode cX2_bears 4 = .ok (.iload_n 1, 1) := by decide +kernel
theorem dX2_bears_5 : decode cX2_bears 5 = .ok (.iaload, 1) := by decide +kernel
theorem dX2_bears_6 : decode cX2_bears 6 = .ok (.aload_n 0, 1) := by decide +kernel
theorem dX2_bears_7 : decode cX2_bears 7 = .ok (.getfield 27, 3) := by decide +kernel
theorem dX2_bears_10 : decode cX2_bears 10 = .ok (.iload_n 1, 1) := by decide +kernel
theorem dX2_bears_11 : decode cX2_bears 11 = .ok (.iaload, 1) := by decide +kernel
theorem dX2_bears_12 : decode cX2_bears 12 = .ok (.aload_n 0, 1) := by decide +kernel
theorem dX2_bears_13 : decode cX2_bears 13 = .ok (.getfield 31, 3) := by decide +kernel
theorem dX2_bears_16 : decode cX2_bears 16 = .ok (.iload_n 1, 1) := by decide +kernel
theorem dX2_bears_17 : decode cX2_bears 17 = .ok (.iaload, 1) := by decide +kernel
theorem dX2_bears_18 : decode cX2_bears 18 = .ok (.iload_n 2, 1) := by decide +kernel
theorem dX2_bears_19 : decode cX2_bears 19 = .ok (.invokestatic 118, 3) := by decide +kernel
theorem dX2_bears_22 : decode cX2_bears 22 = .ok (.if_icmp .lt 7, 3) := by decide +kernel
theorem dX2_bears_25 : decode cX2_bears 25 = .ok (.iconst 1, 1) := by decide +kernel
theorem dX2_bears_26 : decode cX2_bears 26 = .ok (.goto 4, 3) := by decide +kernel
theorem dX2_bears_29 : decode cX2_bears 29 = .ok (.iconst 0, 1) := by decide +kernel
theorem dX2_bears_30 : decode cX2_bears 30 = .ok (.ireturn, 1) := by decide +kernel
theorem dX2_allBear_0 : decode cX2_allBear 0 = .ok (.iconst 0, 1) := by decide +kernel
theorem dX2_allBear_1 : decode cX2_allBear 1 = .ok (.istore_n 2, 1) := by decide +kernel
theorem dX2_allBear_2 : decode cX2_allBear 2 = .ok (.iload_n 2, 1) := by decide +kernel
theorem dX2_allBear_3 : decode cX2_allBear 3 = .ok (.aload_n 0, 1) := by decide +kernel
theorem dX2_allBear_4 : decode cX2_allBear 4 = .ok (.getfield 9, 3) := by decide +kernel
theorem dX2_allBear_7 : decode cX2_allBear 7 = .ok (.if_icmp .ge 20, 3) := by decide +kernel
theorem dX2_allBear_10 : decode cX2_allBear 10 = .ok (.aload_n 0, 1) := by decide +kernel
theorem dX2_allBear_11 : decode cX2_allBear 11 = .ok (.iload_n 2, 1) := by decide +kernel
theorem dX2_allBear_12 : decode cX2_allBear 12 = .ok (.iload_n 1, 1) := by decide +kernel
theorem dX2_allBear_13 : decode cX2_allBear 13 = .ok (.invokevirtual 125, 3) := by decide +kernel
theorem dX2_allBear_16 : decode cX2_allBear 16 = .ok (.ifCond .ne 5, 3) := by decide +kernel
theorem dX2_allBear_19 : decode cX2_allBear 19 = .ok (.iconst 0, 1) := by decide +kernel
theorem dX2_allBear_20 : decode cX2_allBear 20 = .ok (.ireturn, 1) := by decide +kernel
theorem dX2_allBear_21 : decode cX2_allBear 21 = .ok (.iinc 2 1, 3) := by decide +kernel
theorem dX2_allBear_24 : decode cX2_allBear 24 = .ok (.goto (-22), 3) := by decide +kernel
theorem dX2_allBear_27 : decode cX2_allBear 27 = .ok (.iconst 1, 1) := by decide +kernel
theorem dX2_allBear_28 : decode cX2_allBear 28 = .ok (.ireturn, 1) := by decide +kernel
theorem dX2_noneBears_0 : decode cX2_noneBears 0 = .ok (.iconst 0, 1) := by decide +kernel
theorem dX2_noneBears_1 : decode cX2_noneBears 1 = .ok (.istore_n 2, 1) := by decide +kernel
theorem dX2_noneBears_2 : decode cX2_noneBears 2 = .ok (.iload_n 2, 1) := by decide +kernel
theorem dX2_noneBears_3 : decode cX2_noneBears 3 = .ok (.aload_n 0, 1) := by decide +kernel
theorem dX2_noneBears_4 : decode cX2_noneBears 4 = .ok (.getfield 9, 3) := by decide +kernel
theorem dX2_noneBears_7 : decode cX2_noneBears 7 = .ok (.if_icmp .ge 20, 3) := by decide +kernel
theorem dX2_noneBears_10 : decode cX2_noneBears 10 = .ok (.aload_n 0, 1) := by decide +kernel
theorem dX2_noneBears_11 : decode cX2_noneBears 11 = .ok (.iload_n 2, 1) := by decide +kernel
theorem dX2_noneBears_12 : decode cX2_noneBears 12 = .ok (.iload_n 1, 1) := by decide +kernel
theorem dX2_noneBears_13 : decode cX2_noneBears 13 = .ok (.invokevirtual 125, 3) := by decide +kernel
theorem dX2_noneBears_16 : decode cX2_noneBears 16 = .ok (.ifCond .eq 5, 3) := by decide +kernel
theorem dX2_noneBears_19 : decode cX2_noneBears 19 = .ok (.iconst 0, 1) := by decide +kernel
theorem dX2_noneBears_20 : decode cX2_noneBears 20 = .ok (.ireturn, 1) := by decide +kernel
theorem dX2_noneBears_21 : decode cX2_noneBears 21 = .ok (.iinc 2 1, 3) := by decide +kernel
theorem dX2_noneBears_24 : decode cX2_noneBears 24 = .ok (.goto (-22), 3) := by decide +kernel
theorem dX2_noneBears_27 : decode cX2_noneBears 27 = .ok (.iconst 1, 1) := by decide +kernel
theorem dX2_noneBears_28 : decode cX2_noneBears 28 = .ok (.ireturn, 1) := by decide +kernel
theorem dX2_isAhead_0 : decode cX2_isAhead 0 = .ok (.aload_n 0, 1) := by decide +kernel
theorem dX2_isAhead_1 : decode cX2_isAhead 1 = .ok (.getfield 52, 3) := by decide +kernel
theorem dX2_isAhead_4 : decode cX2_isAhead 4 = .ok (.iload_n 1, 1) := by decide +kernel
theorem dX2_isAhead_5 : decode cX2_isAhead 5 = .ok (.iaload, 1) := by decide +kernel
theorem dX2_isAhead_6 : decode cX2_isAhead 6 = .ok (.ifCond .ne 17, 3) := by decide +kernel
theorem dX2_isAhead_9 : decode cX2_isAhead 9 = .ok (.aload_n 0, 1) := by decide +kernel
theorem dX2_isAhead_10 : decode cX2_isAhead 10 = .ok (.getfield 46, 3) := by decide +kernel
theorem dX2_isAhead_13 : decode cX2_isAhead 13 = .ok (.iload_n 1, 1) := by decide +kernel
theorem dX2_isAhead_14 : decode cX2_isAhead 14 = .ok (.iaload, 1) := by decide +kernel
theorem dX2_isAhead_15 : decode cX2_isAhead 15 = .ok (.iconst (-1), 1) := by decide +kernel
theorem dX2_isAhead_16 : decode cX2_isAhead 16 = .ok (.if_icmp .ne 7, 3) := by decide +kernel
theorem dX2_isAhead_19 : decode cX2_isAhead 19 = .ok (.iconst 1, 1) := by decide +kernel
theorem dX2_isAhead_20 : decode cX2_isAhead 20 = .ok (.goto 4, 3) := by decide +kernel
theorem dX2_isAhead_23 : decode cX2_isAhead 23 = .ok (.iconst 0, 1) := by decide +kernel
theorem dX2_isAhead_24 : decode cX2_isAhead 24 = .ok (.ireturn, 1) := by decide +kernel
theorem dX2_howMany_0 : decode cX2_howMany 0 = .ok (.iconst 0, 1) := by decide +kernel
theorem dX2_howMany_1 : decode cX2_howMany 1 = .ok (.istore_n 2, 1) := by decide +kernel
theorem dX2_howMany_2 : decode cX2_howMany 2 = .ok (.iconst 0, 1) := by decide +kernel
theorem dX2_howMany_3 : decode cX2_howMany 3 = .ok (.istore_n 3, 1) := by decide +kernel
theorem dX2_howMany_4 : decode cX2_howMany 4 = .ok (.iload_n 3, 1) := by decide +kernel
theorem dX2_howMany_5 : decode cX2_howMany 5 = .ok (.aload_n 0, 1) := by decide +kernel
theorem dX2_howMany_6 : decode cX2_howMany 6 = .ok (.getfield 24, 3) := by decide +kernel
theorem dX2_howMany_9 : decode cX2_howMany 9 = .ok (.if_icmp .ge 22, 3) := by decide +kernel
theorem dX2_howMany_12 : decode cX2_howMany 12 = .ok (.aload_n 0, 1) := by decide +kernel
theorem dX2_howMany_13 : decode cX2_howMany 13 = .ok (.getfield 52, 3) := by decide +kernel
theorem dX2_howMany_16 : decode cX2_howMany 16 = .ok (.iload_n 3, 1) := by decide +kernel
theorem dX2_howMany_17 : decode cX2_howMany 17 = .ok (.iaload, 1) := by decide +kernel
theorem dX2_howMany_18 : decode cX2_howMany 18 = .ok (.iload_n 1, 1) := by decide +kernel
theorem dX2_howMany_19 : decode cX2_howMany 19 = .ok (.if_icmp .ne 6, 3) := by decide +kernel
theorem dX2_howMany_22 : decode cX2_howMany 22 = .ok (.iinc 2 1, 3) := by decide +kernel
theorem dX2_howMany_25 : decode cX2_howMany 25 = .ok (.iinc 3 1, 3) := by decide +kernel
theorem dX2_howMany_28 : decode cX2_howMany 28 = .ok (.goto (-24), 3) := by decide +kernel
theorem dX2_howMany_31 : decode cX2_howMany 31 = .ok (.iload_n 2, 1) := by decide +kernel
theorem dX2_howMany_32 : decode cX2_howMany 32 = .ok (.ireturn, 1) := by decide +kernel
theorem dX2_allFrost_0 : decode cX2_allFrost 0 = .ok (.iconst 0, 1) := by decide +kernel
theorem dX2_allFrost_1 : decode cX2_allFrost 1 = .ok (.istore_n 1, 1) := by decide +kernel
theorem dX2_allFrost_2 : decode cX2_allFrost 2 = .ok (.iconst 0, 1) := by decide +kernel
theorem dX2_allFrost_3 : decode cX2_allFrost 3 = .ok (.istore_n 2, 1) := by decide +kernel
theorem dX2_allFrost_4 : decode cX2_allFrost 4 = .ok (.iload_n 2, 1) := by decide +kernel
theorem dX2_allFrost_5 : decode cX2_allFrost 5 = .ok (.aload_n 0, 1) := by decide +kernel
theorem dX2_allFrost_6 : decode cX2_allFrost 6 = .ok (.getfield 9, 3) := by decide +kernel
theorem dX2_allFrost_9 : decode cX2_allFrost 9 = .ok (.if_icmp .ge 18, 3) := by decide +kernel
theorem dX2_allFrost_12 : decode cX2_allFrost 12 = .ok (.iload_n 1, 1) := by decide +kernel
theorem dX2_allFrost_13 : decode cX2_allFrost 13 = .ok (.aload_n 0, 1) := by decide +kernel
theorem dX2_allFrost_14 : decode cX2_allFrost 14 = .ok (.getfield 34, 3) := by decide +kernel
theorem dX2_allFrost_17 : decode cX2_allFrost 17 = .ok (.iload_n 2, 1) := by decide +kernel
theorem dX2_allFrost_18 : decode cX2_allFrost 18 = .ok (.iaload, 1) := by decide +kernel
theorem dX2_allFrost_19 : decode cX2_allFrost 19 = .ok (.iadd, 1) := by decide +kernel
theorem dX2_allFrost_20 : decode cX2_allFrost 20 = .ok (.istore_n 1, 1) := by decide +kernel
theorem dX2_allFrost_21 : decode cX2_allFrost 21 = .ok (.iinc 2 1, 3) := by decide +kernel
theorem dX2_allFrost_24 : decode cX2_allFrost 24 = .ok (.goto (-20), 3) := by decide +kernel
theorem dX2_allFrost_27 : decode cX2_allFrost 27 = .ok (.iload_n 1, 1) := by decide +kernel
theorem dX2_allFrost_28 : decode cX2_allFrost 28 = .ok (.ireturn, 1) := by decide +kernel
theorem dX2_weakest_0 : decode cX2_weakest 0 = .ok (.iconst 0, 1) := by decide +kernel
theorem dX2_weakest_1 : decode cX2_weakest 1 = .ok (.istore_n 1, 1) := by decide +kernel
theorem dX2_weakest_2 : decode cX2_weakest 2 = .ok (.iconst 1, 1) := by decide +kernel
theorem dX2_weakest_3 : decode cX2_weakest 3 = .ok (.istore_n 2, 1) := by decide +kernel
theorem dX2_weakest_4 : decode cX2_weakest 4 = .ok (.iload_n 2, 1) := by decide +kernel
theorem dX2_weakest_5 : decode cX2_weakest 5 = .ok (.aload_n 0, 1) := by decide +kernel
theorem dX2_weakest_6 : decode cX2_weakest 6 = .ok (.getfield 9, 3) := by decide +kernel
theorem dX2_weakest_9 : decode cX2_weakest 9 = .ok (.if_icmp .ge 26, 3) := by decide +kernel
theorem dX2_weakest_12 : decode cX2_weakest 12 = .ok (.aload_n 0, 1) := by decide +kernel
theorem dX2_weakest_13 : decode cX2_weakest 13 = .ok (.getfield 34, 3) := by decide +kernel
theorem dX2_weakest_16 : decode cX2_weakest 16 = .ok (.iload_n 2, 1) := by decide +kernel
theorem dX2_weakest_17 : decode cX2_weakest 17 = .ok (.iaload, 1) := by decide +kernel
theorem dX2_weakest_18 : decode cX2_weakest 18 = .ok (.aload_n 0, 1) := by decide +kernel
theorem dX2_weakest_19 : decode cX2_weakest 19 = .ok (.getfield 34, 3) := by decide +kernel
theorem dX2_weakest_22 : decode cX2_weakest 22 = .ok (.iload_n 1, 1) := by decide +kernel
theorem dX2_weakest_23 : decode cX2_weakest 23 = .ok (.iaload, 1) := by decide +kernel
theorem dX2_weakest_24 : decode cX2_weakest 24 = .ok (.if_icmp .ge 5, 3) := by decide +kernel
theorem dX2_weakest_27 : decode cX2_weakest 27 = .ok (.iload_n 2, 1) := by decide +kernel
theorem dX2_weakest_28 : decode cX2_weakest 28 = .ok (.istore_n 1, 1) := by decide +kernel
theorem dX2_weakest_29 : decode cX2_weakest 29 = .ok (.iinc 2 1, 3) := by decide +kernel
theorem dX2_weakest_32 : decode cX2_weakest 32 = .ok (.goto (-28), 3) := by decide +kernel
theorem dX2_weakest_35 : decode cX2_weakest 35 = .ok (.iload_n 1, 1) := by decide +kernel
theorem dX2_weakest_36 : decode cX2_weakest 36 = .ok (.ireturn, 1) := by decide +kernel
theorem dX2_greatestFrost_0 : decode cX2_greatestFrost 0 = .ok (.iconst 0, 1) := by decide +kernel
theorem dX2_greatestFrost_1 : decode cX2_greatestFrost 1 = .ok (.istore_n 1, 1) := by decide +kernel
theorem dX2_greatestFrost_2 : decode cX2_greatestFrost 2 = .ok (.iconst 0, 1) := by decide +kernel
theorem dX2_greatestFrost_3 : decode cX2_greatestFrost 3 = .ok (.istore_n 2, 1) := by decide +kernel
theorem dX2_greatestFrost_4 : decode cX2_greatestFrost 4 = .ok (.iload_n 2, 1) := by decide +kernel
theorem dX2_greatestFrost_5 : decode cX2_greatestFrost 5 = .ok (.aload_n 0, 1) := by decide +kernel
theorem dX2_greatestFrost_6 : decode cX2_greatestFrost 6 = .ok (.getfield 9, 3) := by decide +kernel
theorem dX2_greatestFrost_9 : decode cX2_greatestFrost 9 = .ok (.if_icmp .ge 20, 3) := by decide +kernel
theorem dX2_greatestFrost_12 : decode cX2_greatestFrost 12 = .ok (.iload_n 1, 1) := by decide +kernel
theorem dX2_greatestFrost_13 : decode cX2_greatestFrost 13 = .ok (.aload_n 0, 1) := by decide +kernel
theorem dX2_greatestFrost_14 : decode cX2_greatestFrost 14 = .ok (.getfield 34, 3) := by decide +kernel
theorem dX2_greatestFrost_17 : decode cX2_greatestFrost 17 = .ok (.iload_n 2, 1) := by decide +kernel
theorem dX2_greatestFrost_18 : decode cX2_greatestFrost 18 = .ok (.iaload, 1) := by decide +kernel
theorem dX2_greatestFrost_19 : decode cX2_greatestFrost 19 = .ok (.invokestatic 115, 3) := by decide +kernel
theorem dX2_greatestFrost_22 : decode cX2_greatestFrost 22 = .ok (.istore_n 1, 1) := by decide +kernel
theorem dX2_greatestFrost_23 : decode cX2_greatestFrost 23 = .ok (.iinc 2 1, 3) := by decide +kernel
theorem dX2_greatestFrost_26 : decode cX2_greatestFrost 26 = .ok (.goto (-22), 3) := by decide +kernel
theorem dX2_greatestFrost_29 : decode cX2_greatestFrost 29 = .ok (.iload_n 1, 1) := by decide +kernel
theorem dX2_greatestFrost_30 : decode cX2_greatestFrost 30 = .ok (.ireturn, 1) := by decide +kernel
theorem dX2_besideNeighbours_0 : decode cX2_besideNeighbours 0 = .ok (.iload_n 1, 1) := by decide +kernel
theorem dX2_besideNeighbours_1 : decode cX2_besideNeighbours 1 = .ok (.ifCond .le 9, 3) := by decide +kernel
theorem dX2_besideNeighbours_4 : decode cX2_besideNeighbours 4 = .ok (.iload_n 1, 1) := by decide +kernel
theorem dX2_besideNeighbours_5 : decode cX2_besideNeighbours 5 = .ok (.iconst 1, 1) := by decide +kernel
theorem dX2_besideNeighbours_6 : decode cX2_besideNeighbours 6 = .ok (.isub, 1) := by decide +kernel
theorem dX2_besideNeighbours_7 : decode cX2_besideNeighbours 7 = .ok (.goto 6, 3) := by decide +kernel
theorem dX2_besideNeighbours_10 : decode cX2_besideNeighbours 10 = .ok (.iload_n 1, 1) := by decide +kernel
theorem dX2_besideNeighbours_11 : decode cX2_besideNeighbours 11 = .ok (.iconst 1, 1) := by decide +kernel
theorem dX2_besideNeighbours_12 : decode cX2_besideNeighbours 12 = .ok (.iadd, 1) := by decide +kernel
theorem dX2_besideNeighbours_13 : decode cX2_besideNeighbours 13 = .ok (.istore_n 2, 1) := by decide +kernel
theorem dX2_besideNeighbours_14 : decode cX2_besideNeighbours 14 = .ok (.iload_n 1, 1) := by decide +kernel
theorem dX2_besideNeighbours_15 : decode cX2_besideNeighbours 15 = .ok (.aload_n 0, 1) := by decide +kernel
theorem dX2_besideNeighbours_16 : decode cX2_besideNeighbours 16 = .ok (.getfield 9, 3) := by decide +kernel
theorem dX2_besideNeighbours_19 : decode cX2_besideNeighbours 19 = .ok (.iconst 1, 1) := by decide +kernel
theorem dX2_besideNeighbours_20 : decode cX2_besideNeighbours 20 = .ok (.isub, 1) := by decide +kernel
theorem dX2_besideNeighbours_21 : decode cX2_besideNeighbours 21 = .ok (.if_icmp .ge 9, 3) := by decide +kernel
theorem dX2_besideNeighbours_24 : decode cX2_besideNeighbours 24 = .ok (.iload_n 1, 1) := by decide +kernel
theorem dX2_besideNeighbours_25 : decode cX2_besideNeighbours 25 = .ok (.iconst 1, 1) := by decide +kernel
theorem dX2_besideNeighbours_26 : decode cX2_besideNeighbours 26 = .ok (.iadd, 1) := by decide +kernel
theorem dX2_besideNeighbours_27 : decode cX2_besideNeighbours 27 = .ok (.goto 6, 3) := by decide +kernel
theorem dX2_besideNeighbours_30 : decode cX2_besideNeighbours 30 = .ok (.iload_n 1, 1) := by decide +kernel
theorem dX2_besideNeighbours_31 : decode cX2_besideNeighbours 31 = .ok (.iconst 1, 1) := by decide +kernel
theorem dX2_besideNeighbours_32 : decode cX2_besideNeighbours 32 = .ok (.isub, 1) := by decide +kernel
theorem dX2_besideNeighbours_33 : decode cX2_besideNeighbours 33 = .ok (.istore_n 3, 1) := by decide +kernel
theorem dX2_besideNeighbours_34 : decode cX2_besideNeighbours 34 = .ok (.aload_n 0, 1) := by decide +kernel
theorem dX2_besideNeighbours_35 : decode cX2_besideNeighbours 35 = .ok (.getfield 34, 3) := by decide +kernel
theorem dX2_besideNeighbours_38 : decode cX2_besideNeighbours 38 = .ok (.iload_n 1, 1) := by decide +kernel
theorem dX2_besideNeighbours_39 : decode cX2_besideNeighbours 39 = .ok (.iaload, 1) := by decide +kernel
theorem dX2_besideNeighbours_40 : decode cX2_besideNeighbours 40 = .ok (.aload_n 0, 1) := by decide +kernel
theorem dX2_besideNeighbours_41 : decode cX2_besideNeighbours 41 = .ok (.getfield 34, 3) := by decide +kernel
theorem dX2_besideNeighbours_44 : decode cX2_besideNeighbours 44 = .ok (.iload_n 2, 1) := by decide +kernel
theorem dX2_besideNeighbours_45 : decode cX2_besideNeighbours 45 = .ok (.iaload, 1) := by decide +kernel
theorem dX2_besideNeighbours_46 : decode cX2_besideNeighbours 46 = .ok (.aload_n 0, 1) := by decide +kernel
theorem dX2_besideNeighbours_47 : decode cX2_besideNeighbours 47 = .ok (.getfield 34, 3) := by decide +kernel
theorem dX2_besideNeighbours_50 : decode cX2_besideNeighbours 50 = .ok (.iload_n 3, 1) := by decide +kernel
theorem dX2_besideNeighbours_51 : decode cX2_besideNeighbours 51 = .ok (.iaload, 1) := by decide +kernel
theorem dX2_besideNeighbours_52 : decode cX2_besideNeighbours 52 = .ok (.iadd, 1) := by decide +kernel
theorem dX2_besideNeighbours_53 : decode cX2_besideNeighbours 53 = .ok (.iconst 2, 1) := by decide +kernel
theorem dX2_besideNeighbours_54 : decode cX2_besideNeighbours 54 = .ok (.idiv, 1) := by decide +kernel
theorem dX2_besideNeighbours_55 : decode cX2_besideNeighbours 55 = .ok (.isub, 1) := by decide +kernel
theorem dX2_besideNeighbours_56 : decode cX2_besideNeighbours 56 = .ok (.ireturn, 1) := by decide +kernel
theorem dX2_nearestHalt_0 : decode cX2_nearestHalt 0 = .ok (.bipush (-9), 2) := by decide +kernel
theorem dX2_nearestHalt_2 : decode cX2_nearestHalt 2 = .ok (.istore_n 2, 1) := by decide +kernel
theorem dX2_nearestHalt_3 : decode cX2_nearestHalt 3 = .ok (.iconst 0, 1) := by decide +kernel
theorem dX2_nearestHalt_4 : decode cX2_nearestHalt 4 = .ok (.istore_n 3, 1) := by decide +kernel
theorem dX2_nearestHalt_5 : decode cX2_nearestHalt 5 = .ok (.iload_n 3, 1) := by decide +kernel
theorem dX2_nearestHalt_6 : decode cX2_nearestHalt 6 = .ok (.aload_n 0, 1) := by decide +kernel
theorem dX2_nearestHalt_7 : decode cX2_nearestHalt 7 = .ok (.getfield 9, 3) := by decide +kernel
theorem dX2_nearestHalt_10 : decode cX2_nearestHalt 10 = .ok (.if_icmp .ge 42, 3) := by decide +kernel
theorem dX2_nearestHalt_13 : decode cX2_nearestHalt 13 = .ok (.aload_n 0, 1) := by decide +kernel
theorem dX2_nearestHalt_14 : decode cX2_nearestHalt 14 = .ok (.getfield 27, 3) := by decide +kernel
theorem dX2_nearestHalt_17 : decode cX2_nearestHalt 17 = .ok (.iload_n 3, 1) := by decide +kernel
theorem dX2_nearestHalt_18 : decode cX2_nearestHalt 18 = .ok (.iaload, 1) := by decide +kernel
theorem dX2_nearestHalt_19 : decode cX2_nearestHalt 19 = .ok (.iconst 4, 1) := by decide +kernel
theorem dX2_nearestHalt_20 : decode cX2_nearestHalt 20 = .ok (.if_icmp .ne 26, 3) := by decide +kernel
theorem dX2_nearestHalt_23 : decode cX2_nearestHalt 23 = .ok (.iload_n 2, 1) := by decide +kernel
theorem dX2_nearestHalt_24 : decode cX2_nearestHalt 24 = .ok (.bipush (-9), 2) := by decide +kernel
theorem dX2_nearestHalt_26 : decode cX2_nearestHalt 26 = .ok (.if_icmp .eq 18, 3) := by decide +kernel
theorem dX2_nearestHalt_29 : decode cX2_nearestHalt 29 = .ok (.iload_n 3, 1) := by decide +kernel
theorem dX2_nearestHalt_30 : decode cX2_nearestHalt 30 = .ok (.iload_n 1, 1) := by decide +kernel
theorem dX2_nearestHalt_31 : decode cX2_nearestHalt 31 = .ok (.isub, 1) := by decide +kernel
theorem dX2_nearestHalt_32 : decode cX2_nearestHalt 32 = .ok (.invokestatic 129, 3) := by decide +kernel
theorem dX2_nearestHalt_35 : decode cX2_nearestHalt 35 = .ok (.iload_n 2, 1) := by decide +kernel
theorem dX2_nearestHalt_36 : decode cX2_nearestHalt 36 = .ok (.iload_n 1, 1) := by decide +kernel
theorem dX2_nearestHalt_37 : decode cX2_nearestHalt 37 = .ok (.isub, 1) := by decide +kernel
theorem dX2_nearestHalt_38 : decode cX2_nearestHalt 38 = .ok (.invokestatic 129, 3) := by decide +kernel
theorem dX2_nearestHalt_41 : decode cX2_nearestHalt 41 = .ok (.if_icmp .ge 5, 3) := by decide +kernel
theorem dX2_nearestHalt_44 : decode cX2_nearestHalt 44 = .ok (.iload_n 3, 1) := by decide +kernel
theorem dX2_nearestHalt_45 : decode cX2_nearestHalt 45 = .ok (.istore_n 2, 1) := by decide +kernel
theorem dX2_nearestHalt_46 : decode cX2_nearestHalt 46 = .ok (.iinc 3 1, 3) := by decide +kernel
theorem dX2_nearestHalt_49 : decode cX2_nearestHalt 49 = .ok (.goto (-44), 3) := by decide +kernel
theorem dX2_nearestHalt_52 : decode cX2_nearestHalt 52 = .ok (.iload_n 2, 1) := by decide +kernel
theorem dX2_nearestHalt_53 : decode cX2_nearestHalt 53 = .ok (.ireturn, 1) := by decide +kernel
theorem dX3_init_0 : decode cX3_init 0 = .ok (.aload_n 0, 1) := by decide +kernel
theorem dX3_init_1 : decode cX3_init 1 = .ok (.invokespecial 3, 3) := by decide +kernel
theorem dX3_init_4 : decode cX3_init 4 = .ok (.aload_n 0, 1) := by decide +kernel
theorem dX3_init_5 : decode cX3_init 5 = .ok (.bipush 8, 2) := by decide +kernel
theorem dX3_init_7 : decode cX3_init 7 = .ok (.anewarray 9, 3) := by decide +kernel
theorem dX3_init_10 : decode cX3_init 10 = .ok (.putfield 11, 3) := by decide +kernel
theorem dX3_init_13 : decode cX3_init 13 = .ok (.aload_n 0, 1) := by decide +kernel
theorem dX3_init_14 : decode cX3_init 14 = .ok (.iconst 0, 1) := by decide +kernel
theorem dX3_init_15 : decode cX3_init 15 = .ok (.putfield 17, 3) := by decide +kernel
theorem dX3_init_18 : decode cX3_init 18 = .ok (.iconst 0, 1) := by decide +kernel
theorem dX3_init_19 : decode cX3_init 19 = .ok (.istore_n 1, 1) := by decide +kernel
theorem dX3_init_20 : decode cX3_init 20 = .ok (.iload_n 1, 1) := by decide +kernel
theorem dX3_init_21 : decode cX3_init 21 = .ok (.bipush 8, 2) := by decide +kernel
theorem dX3_init_23 : decode cX3_init 23 = .ok (.if_icmp .ge 22, 3) := by decide +kernel
theorem dX3_init_26 : decode cX3_init 26 = .ok (.aload_n 0, 1) := by decide +kernel
theorem dX3_init_27 : decode cX3_init 27 = .ok (.getfield 11, 3) := by decide +kernel
theorem dX3_init_30 : decode cX3_init 30 = .ok (.iload_n 1, 1) := by decide +kernel
theorem dX3_init_31 : decode cX3_init 31 = .ok (.new 9, 3) := by decide +kernel
theorem dX3_init_34 : decode cX3_init 34 = .ok (.dup, 1) := by decide +kernel
theorem dX3_init_35 : decode cX3_init 35 = .ok (.invokespecial 21, 3) := by decide +kernel
theorem dX3_init_38 : decode cX3_init 38 = .ok (.aastore, 1) := by decide +kernel
theorem dX3_init_39 : decode cX3_init 39 = .ok (.iinc 1 1, 3) := by decide +kernel
theorem dX3_init_42 : decode cX3_init 42 = .ok (.goto (-22), 3) := by decide +kernel
theorem dX3_init_45 : decode cX3_init 45 = .ok (.return_, 1) := by decide +kernel
theorem dX3_keep_0 : decode cX3_keep 0 = .ok (.aload_n 0, 1) := by decide +kernel
theorem dX3_keep_1 : decode cX3_keep 1 = .ok (.getfield 17, 3) := by decide +kernel
theorem dX3_keep_4 : decode cX3_keep 4 = .ok (.bipush 8, 2) := by decide +kernel
theorem dX3_keep_6 : decode cX3_keep 6 = .ok (.if_icmp .ne 7, 3) := by decide +kernel
theorem dX3_keep_9 : decode cX3_keep 9 = .ok (.aload_n 0, 1) := by decide +kernel
theorem dX3_keep_10 : decode cX3_keep 10 = .ok (.invokevirtual 22, 3) := by decide +kernel
theorem dX3_keep_13 : decode cX3_keep 13 = .ok (.aload_n 0, 1) := by decide +kernel
theorem dX3_keep_14 : decode cX3_keep 14 = .ok (.getfield 11, 3) := by decide +kernel
theorem dX3_keep_17 : decode cX3_keep 17 = .ok (.aload_n 0, 1) := by decide +kernel
theorem dX3_keep_18 : decode cX3_keep 18 = .ok (.getfield 17, 3) := by decide +kernel
theorem dX3_keep_21 : decode cX3_keep 21 = .ok (.aaload, 1) := by decide +kernel
theorem dX3_keep_22 : decode cX3_keep 22 = .ok (.aload_n 1, 1) := by decide +kernel
theorem dX3_keep_23 : decode cX3_keep 23 = .ok (.invokevirtual 25, 3) := by decide +kernel
theorem dX3_keep_26 : decode cX3_keep 26 = .ok (.aload_n 0, 1) := by decide +kernel
theorem dX3_keep_27 : decode cX3_keep 27 = .ok (.dup, 1) := by decide +kernel
theorem dX3_keep_28 : decode cX3_keep 28 = .ok (.getfield 17, 3) := by decide +kernel
theorem dX3_keep_31 : decode cX3_keep 31 = .ok (.iconst 1, 1) := by decide +kernel
theorem dX3_keep_32 : decode cX3_keep 32 = .ok (.iadd, 1) := by decide +kernel
theorem dX3_keep_33 : decode cX3_keep 33 = .ok (.putfield 17, 3) := by decide +kernel
theorem dX3_keep_36 : decode cX3_keep 36 = .ok (.return_, 1) := by decide +kernel
theorem dX3_dropOldest_0 : decode cX3_dropOldest 0 = .ok (.aload_n 0, 1) := by decide +kernel
theorem dX3_dropOldest_1 : decode cX3_dropOldest 1 = .ok (.getfield 11, 3) := by decide +kernel
theorem dX3_dropOldest_4 : decode cX3_dropOldest 4 = .ok (.iconst 0, 1) := by decide +kernel
theorem dX3_dropOldest_5 : decode cX3_dropOldest 5 = .ok (.aaload, 1) := by decide +kernel
theorem dX3_dropOldest_6 : decode cX3_dropOldest 6 = .ok (.astore_n 1, 1) := by decide +kernel
theorem dX3_dropOldest_7 : decode cX3_dropOldest 7 = .ok (.iconst 1, 1) := by decide +kernel
theorem dX3_dropOldest_8 : decode cX3_dropOldest 8 = .ok (.istore_n 2, 1) := by decide +kernel
theorem dX3_dropOldest_9 : decode cX3_dropOldest 9 = .ok (.iload_n 2, 1) := by decide +kernel
theorem dX3_dropOldest_10 : decode cX3_dropOldest 10 = .ok (.bipush 8, 2) := by decide +kernel
theorem dX3_dropOldest_12 : decode cX3_dropOldest 12 = .ok (.if_icmp .ge 23, 3) := by decide +kernel
theorem dX3_dropOldest_15 : decode cX3_dropOldest 15 = .ok (.aload_n 0, 1) := by decide +kernel
theorem dX3_dropOldest_16 : decode cX3_dropOldest 16 = .ok (.getfield 11, 3) := by decide +kernel
theorem dX3_dropOldest_19 : decode cX3_dropOldest 19 = .ok (.iload_n 2, 1) := by decide +kernel
theorem dX3_dropOldest_20 : decode cX3_dropOldest 20 = .ok (.iconst 1, 1) := by decide +kernel
theorem dX3_dropOldest_21 : decode cX3_dropOldest 21 = .ok (.isub, 1) := by decide +kernel
theorem dX3_dropOldest_22 : decode cX3_dropOldest 22 = .ok (.aload_n 0, 1) := by decide +kernel
theorem dX3_dropOldest_23 : decode cX3_dropOldest 23 = .ok (.getfield 11, 3) := by decide +kernel
theorem dX3_dropOldest_26 : decode cX3_dropOldest 26 = .ok (.iload_n 2, 1) := by decide +kernel
theorem dX3_dropOldest_27 : decode cX3_dropOldest 27 = .ok (.aaload, 1) := by decide +kernel
theorem dX3_dropOldest_28 : decode cX3_dropOldest 28 = .ok (.aastore, 1) := by decide +kernel
theorem dX3_dropOldest_29 : decode cX3_dropOldest 29 = .ok (.iinc 2 1, 3) := by decide +kernel
theorem dX3_dropOldest_32 : decode cX3_dropOldest 32 = .ok (.goto (-23), 3) := by decide +kernel
theorem dX3_dropOldest_35 : decode cX3_dropOldest 35 = .ok (.aload_n 0, 1) := by decide +kernel
theorem dX3_dropOldest_36 : decode cX3_dropOldest 36 = .ok (.getfield 11, 3) := by decide +kernel
theorem dX3_dropOldest_39 : decode cX3_dropOldest 39 = .ok (.bipush 7, 2) := by decide +kernel
theorem dX3_dropOldest_41 : decode cX3_dropOldest 41 = .ok (.aload_n 1, 1) := by decide +kernel
theorem dX3_dropOldest_42 : decode cX3_dropOldest 42 = .ok (.aastore, 1) := by decide +kernel
theorem dX3_dropOldest_43 : decode cX3_dropOldest 43 = .ok (.aload_n 0, 1) := by decide +kernel
theorem dX3_dropOldest_44 : decode cX3_dropOldest 44 = .ok (.dup, 1) := by decide +kernel
theorem dX3_dropOldest_45 : decode cX3_dropOldest 45 = .ok (.getfield 17, 3) := by decide +kernel
theorem dX3_dropOldest_48 : decode cX3_dropOldest 48 = .ok (.iconst 1, 1) := by decide +kernel
theorem dX3_dropOldest_49 : decode cX3_dropOldest 49 = .ok (.isub, 1) := by decide +kernel
theorem dX3_dropOldest_50 : decode cX3_dropOldest 50 = .ok (.putfield 17, 3) := by decide +kernel
theorem dX3_dropOldest_53 : decode cX3_dropOldest 53 = .ok (.return_, 1) := by decide +kernel
theorem dX3_takeBack_0 : decode cX3_takeBack 0 = .ok (.aload_n 0, 1) := by decide +kernel
theorem dX3_takeBack_1 : decode cX3_takeBack 1 = .ok (.getfield 17, 3) := by decide +kernel
theorem dX3_takeBack_4 : decode cX3_takeBack 4 = .ok (.ifCond .le 26, 3) := by decide +kernel
theorem dX3_takeBack_7 : decode cX3_takeBack 7 = .ok (.aload_n 0, 1) := by decide +kernel
theorem dX3_takeBack_8 : decode cX3_takeBack 8 = .ok (.dup, 1) := by decide +kernel
theorem dX3_takeBack_9 : decode cX3_takeBack 9 = .ok (.getfield 17, 3) := by decide +kernel
theorem dX3_takeBack_12 : decode cX3_takeBack 12 = .ok (.iconst 1, 1) := by decide +kernel
theorem dX3_takeBack_13 : decode cX3_takeBack 13 = .ok (.isub, 1) := by decide +kernel
theorem dX3_takeBack_14 : decode cX3_takeBack 14 = .ok (.putfield 17, 3) := by decide +kernel
theorem dX3_takeBack_17 : decode cX3_takeBack 17 = .ok (.aload_n 1, 1) := by decide +kernel
theorem dX3_takeBack_18 : decode cX3_takeBack 18 = .ok (.aload_n 0, 1) := by decide +kernel
theorem dX3_takeBack_19 : decode cX3_takeBack 19 = .ok (.getfield 11, 3) := by decide +kernel
theorem dX3_takeBack_22 : decode cX3_takeBack 22 = .ok (.aload_n 0, 1) := by decide +kernel
theorem dX3_takeBack_23 : decode cX3_takeBack 23 = .ok (.getfield 17, 3) := by decide +kernel
theorem dX3_takeBack_26 : decode cX3_takeBack 26 = .ok (.aaload, 1) := by decide +kernel
theorem dX3_takeBack_27 : decode cX3_takeBack 27 = .ok (.invokevirtual 25, 3) := by decide +kernel
theorem dX3_takeBack_30 : decode cX3_takeBack 30 = .ok (.return_, 1) := by decide +kernel
theorem dX3_forget_0 : decode cX3_forget 0 = .ok (.aload_n 0, 1) := by decide +kernel
theorem dX3_forget_1 : decode cX3_forget 1 = .ok (.iconst 0, 1) := by decide +kernel
theorem dX3_forget_2 : decode cX3_forget 2 = .ok (.putfield 17, 3) := by decide +kernel
theorem dX3_forget_5 : decode cX3_forget 5 = .ok (.return_, 1) := by decide +kernel
theorem dX4_init_0 : decode cX4_init 0 = .ok (.aload_n 0, 1) := by decide +kernel
theorem dX4_init_1 : decode cX4_init 1 = .ok (.invokespecial 3, 3) := by decide +kernel
theorem dX4_init_4 : decode cX4_init 4 = .ok (.aload_n 0, 1) := by decide +kernel
theorem dX4_init_5 : decode cX4_init 5 = .ok (.new 9, 3) := by decide +kernel
theorem dX4_init_8 : decode cX4_init 8 = .ok (.dup, 1) := by decide +kernel
theorem dX4_init_9 : decode cX4_init 9 = .ok (.invokespecial 11, 3) := by decide +kernel
theorem dX4_init_12 : decode cX4_init 12 = .ok (.putfield 12, 3) := by decide +kernel
theorem dX4_init_15 : decode cX4_init 15 = .ok (.aload_n 0, 1) := by decide +kernel
theorem dX4_init_16 : decode cX4_init 16 = .ok (.new 9, 3) := by decide +kernel
theorem dX4_init_19 : decode cX4_init 19 = .ok (.dup, 1) := by decide +kernel
theorem dX4_init_20 : decode cX4_init 20 = .ok (.invokespecial 11, 3) := by decide +kernel
theorem dX4_init_23 : decode cX4_init 23 = .ok (.putfield 16, 3) := by decide +kernel
theorem dX4_init_26 : decode cX4_init 26 = .ok (.aload_n 0, 1) := by decide +kernel
theorem dX4_init_27 : decode cX4_init 27 = .ok (.new 9, 3) := by decide +kernel
theorem dX4_init_30 : decode cX4_init 30 = .ok (.dup, 1) := by decide +kernel
theorem dX4_init_31 : decode cX4_init 31 = .ok (.invokespecial 11, 3) := by decide +kernel
theorem dX4_init_34 : decode cX4_init 34 = .ok (.putfield 19, 3) := by decide +kernel
theorem dX4_init_37 : decode cX4_init 37 = .ok (.aload_n 0, 1) := by decide +kernel
theorem dX4_init_38 : decode cX4_init 38 = .ok (.iconst 0, 1) := by decide +kernel
theorem dX4_init_39 : decode cX4_init 39 = .ok (.putfield 22, 3) := by decide +kernel
theorem dX4_init_42 : decode cX4_init 42 = .ok (.aload_n 0, 1) := by decide +kernel
theorem dX4_init_43 : decode cX4_init 43 = .ok (.new 26, 3) := by decide +kernel
theorem dX4_init_46 : decode cX4_init 46 = .ok (.dup, 1) := by decide +kernel
theorem dX4_init_47 : decode cX4_init 47 = .ok (.invokespecial 28, 3) := by decide +kernel
theorem dX4_init_50 : decode cX4_init 50 = .ok (.putfield 29, 3) := by decide +kernel
theorem dX4_init_53 : decode cX4_init 53 = .ok (.aload_n 0, 1) := by decide +kernel
theorem dX4_init_54 : decode cX4_init 54 = .ok (.new 33, 3) := by decide +kernel
theorem dX4_init_57 : decode cX4_init 57 = .ok (.dup, 1) := by decide +kernel
theorem dX4_init_58 : decode cX4_init 58 = .ok (.invokespecial 35, 3) := by decide +kernel
theorem dX4_init_61 : decode cX4_init 61 = .ok (.putfield 36, 3) := by decide +kernel
theorem dX4_init_64 : decode cX4_init 64 = .ok (.aload_n 0, 1) := by decide +kernel
theorem dX4_init_65 : decode cX4_init 65 = .ok (.bipush 16, 2) := by decide +kernel
theorem dX4_init_67 : decode cX4_init 67 = .ok (.newarray .int, 2) := by decide +kernel
theorem dX4_init_69 : decode cX4_init 69 = .ok (.putfield 40, 3) := by decide +kernel
theorem dX4_init_72 : decode cX4_init 72 = .ok (.aload_n 0, 1) := by decide +kernel
theorem dX4_init_73 : decode cX4_init 73 = .ok (.iconst 0, 1) := by decide +kernel
theorem dX4_init_74 : decode cX4_init 74 = .ok (.putfield 44, 3) := by decide +kernel
theorem dX4_init_77 : decode cX4_init 77 = .ok (.aload_n 0, 1) := by decide +kernel
theorem dX4_init_78 : decode cX4_init 78 = .ok (.bipush 7, 2) := by decide +kernel
theorem dX4_init_80 : decode cX4_init 80 = .ok (.newarray .int, 2) := by decide +kernel
theorem dX4_init_82 : decode cX4_init 82 = .ok (.putfield 48, 3) := by decide +kernel
theorem dX4_init_85 : decode cX4_init 85 = .ok (.aload_n 0, 1) := by decide +kernel
theorem dX4_init_86 : decode cX4_init 86 = .ok (.iconst 5, 1) := by decide +kernel
theorem dX4_init_87 : decode cX4_init 87 = .ok (.newarray .int, 2) := by decide +kernel
theorem dX4_init_89 : decode cX4_init 89 = .ok (.putfield 51, 3) := by decide +kernel
theorem dX4_init_92 : decode cX4_init 92 = .ok (.aload_n 0, 1) := by decide +kernel
theorem dX4_init_93 : decode cX4_init 93 = .ok (.iconst 5, 1) := by decide +kernel
theorem dX4_init_94 : decode cX4_init 94 = .ok (.newarray .int, 2) := by decide +kernel
theorem dX4_init_96 : decode cX4_init 96 = .ok (.putfield 54, 3) := by decide +kernel
theorem dX4_init_99 : decode cX4_init 99 = .ok (.return_, 1) := by decide +kernel
theorem dX4_feed_0 : decode cX4_feed 0 = .ok (.iload_n 1, 1) := by decide +kernel
theorem dX4_feed_1 : decode cX4_feed 1 = .ok (.iconst 0, 1) := by decide +kernel
theorem dX4_feed_2 : decode cX4_feed 2 = .ok (.sipush 255, 3) := by decide +kernel
theorem dX4_feed_5 : decode cX4_feed 5 = .ok (.invokestatic 57, 3) := by decide +kernel
theorem dX4_feed_8 : decode cX4_feed 8 = .ok (.istore_n 2, 1) := by decide +kernel
theorem dX4_feed_9 : decode cX4_feed 9 = .ok (.iload_n 2, 1) := by decide +kernel
theorem dX4_feed_10 : decode cX4_feed 10 = .ok (.ifCond .eq 9, 3) := by decide +kernel
theorem dX4_feed_13 : decode cX4_feed 13 = .ok (.aload_n 0, 1) := by decide +kernel
theorem dX4_feed_14 : decode cX4_feed 14 = .ok (.iload_n 2, 1) := by decide +kernel
theorem dX4_feed_15 : decode cX4_feed 15 = .ok (.invokevirtual 61, 3) := by decide +kernel
theorem dX4_feed_18 : decode cX4_feed 18 = .ok (.ireturn, 1) := by decide +kernel
theorem dX4_feed_19 : decode cX4_feed 19 = .ok (.aload_n 0, 1) := by decide +kernel
theorem dX4_feed_20 : decode cX4_feed 20 = .ok (.getfield 36, 3) := by decide +kernel
theorem dX4_feed_23 : decode cX4_feed 23 = .ok (.getfield 65, 3) := by decide +kernel
theorem dX4_feed_26 : decode cX4_feed 26 = .ok (.bipush 96, 2) := by decide +kernel
theorem dX4_feed_28 : decode cX4_feed 28 = .ok (.if_icmp .lt 10, 3) := by decide +kernel
theorem dX4_feed_31 : decode cX4_feed 31 = .ok (.aload_n 0, 1) := by decide +kernel
theorem dX4_feed_32 : decode cX4_feed 32 = .ok (.bipush (-6), 2) := by decide +kernel
theorem dX4_feed_34 : decode cX4_feed 34 = .ok (.invokevirtual 61, 3) := by decide +kernel
theorem dX4_feed_37 : decode cX4_feed 37 = .ok (.ireturn, 1) := by decide +kernel
theorem dX4_feed_38 : decode cX4_feed 38 = .ok (.aload_n 0, 1) := by decide +kernel
theorem dX4_feed_39 : decode cX4_feed 39 = .ok (.getfield 36, 3) := by decide +kernel
theorem dX4_feed_42 : decode cX4_feed 42 = .ok (.iload_n 1, 1) := by decide +kernel
theorem dX4_feed_43 : decode cX4_feed 43 = .ok (.invokevirtual 68, 3) := by decide +kernel
theorem dX4_feed_46 : decode cX4_feed 46 = .ok (.aload_n 0, 1) := by decide +kernel
theorem dX4_feed_47 : decode cX4_feed 47 = .ok (.getfield 36, 3) := by decide +kernel
theorem dX4_feed_50 : decode cX4_feed 50 = .ok (.getfield 65, 3) := by decide +kernel
theorem dX4_feed_53 : decode cX4_feed 53 = .ok (.ireturn, 1) := by decide +kernel
theorem dX4_line_0 : decode cX4_line 0 = .ok (.aload_n 0, 1) := by decide +kernel
theorem dX4_line_1 : decode cX4_line 1 = .ok (.getfield 36, 3) := by decide +kernel
theorem dX4_line_4 : decode cX4_line 4 = .ok (.invokevirtual 72, 3) := by decide +kernel
theorem dX4_line_7 : decode cX4_line 7 = .ok (.istore_n 1, 1) := by decide +kernel
theorem dX4_line_8 : decode cX4_line 8 = .ok (.iload_n 1, 1) := by decide +kernel
theorem dX4_line_9 : decode cX4_line 9 = .ok (.ifCond .lt 11, 3) := by decide +kernel
theorem dX4_line_12 : decode cX4_line 12 = .ok (.sipush (-1000), 3) := by decide +kernel
theorem dX4_line_15 : decode cX4_line 15 = .ok (.iload_n 1, 1) := by decide +kernel
theorem dX4_line_16 : decode cX4_line 16 = .ok (.isub, 1) := by decide +kernel
theorem dX4_line_17 : decode cX4_line 17 = .ok (.goto 7, 3) := by decide +kernel
theorem dX4_line_20 : decode cX4_line 20 = .ok (.aload_n 0, 1) := by decide +kernel
theorem dX4_line_21 : decode cX4_line 21 = .ok (.invokevirtual 76, 3) := by decide +kernel
theorem dX4_line_24 : decode cX4_line 24 = .ok (.istore_n 2, 1) := by decide +kernel
theorem dX4_line_25 : decode cX4_line 25 = .ok (.aload_n 0, 1) := by decide +kernel
theorem dX4_line_26 : decode cX4_line 26 = .ok (.getfield 36, 3) := by decide +kernel
theorem dX4_line_29 : decode cX4_line 29 = .ok (.iconst 0, 1) := by decide +kernel
theorem dX4_line_30 : decode cX4_line 30 = .ok (.putfield 65, 3) := by decide +kernel
theorem dX4_line_33 : decode cX4_line 33 = .ok (.iload_n 2, 1) := by decide +kernel
theorem dX4_line_34 : decode cX4_line 34 = .ok (.ireturn, 1) := by decide +kernel
theorem dX4_tellLine_0 : decode cX4_tellLine 0 = .ok (.aload_n 0, 1) := by decide +kernel
theorem dX4_tellLine_1 : decode cX4_tellLine 1 = .ok (.getfield 16, 3) := by decide +kernel
theorem dX4_tellLine_4 : decode cX4_tellLine 4 = .ok (.aload_n 0, 1) := by decide +kernel
theorem dX4_tellLine_5 : decode cX4_tellLine 5 = .ok (.getfield 12, 3) := by decide +kernel
theorem dX4_tellLine_8 : decode cX4_tellLine 8 = .ok (.invokevirtual 79, 3) := by decide +kernel
theorem dX4_tellLine_11 : decode cX4_tellLine 11 = .ok (.iconst 0, 1) := by decide +kernel
theorem dX4_tellLine_12 : decode cX4_tellLine 12 = .ok (.istore_n 1, 1) := by decide +kernel
theorem dX4_tellLine_13 : decode cX4_tellLine 13 = .ok (.iconst 0, 1) := by decide +kernel
theorem dX4_tellLine_14 : decode cX4_tellLine 14 = .ok (.istore_n 2, 1) := by decide +kernel
theorem dX4_tellLine_15 : decode cX4_tellLine 15 = .ok (.iload_n 2, 1) := by decide +kernel
theorem dX4_tellLine_16 : decode cX4_tellLine 16 = .ok (.aload_n 0, 1) := by decide +kernel
theorem dX4_tellLine_17 : decode cX4_tellLine 17 = .ok (.getfield 36, 3) := by decide +kernel
theorem dX4_tellLine_20 : decode cX4_tellLine 20 = .ok (.getfield 65, 3) := by decide +kernel
theorem dX4_tellLine_23 : decode cX4_tellLine 23 = .ok (.if_icmp .ge 40, 3) := by decide +kernel
theorem dX4_tellLine_26 : decode cX4_tellLine 26 = .ok (.iload_n 1, 1) := by decide +kernel
theorem dX4_tellLine_27 : decode cX4_tellLine 27 = .ok (.bipush 24, 2) := by decide +kernel
theorem dX4_tellLine_29 : decode cX4_tellLine 29 = .ok (.if_icmp .ge 34, 3) := by decide +kernel
theorem dX4_tellLine_32 : decode cX4_tellLine 32 = .ok (.aload_n 0, 1) := by decide +kernel
theorem dX4_tellLine_33 : decode cX4_tellLine 33 = .ok (.iload_n 2, 1) := by decide +kernel
theorem dX4_tellLine_34 : decode cX4_tellLine 34 = .ok (.invokevirtual 83, 3) := by decide +kernel
theorem dX4_tellLine_37 : decode cX4_tellLine 37 = .ok (.ifCond .ne 9, 3) := by decide +kernel
theorem dX4_tellLine_40 : decode cX4_tellLine 40 = .ok (.sipush (-2000), 3) := by decide +kernel
theorem dX4_tellLine_43 : decode cX4_tellLine 43 = .ok (.iload_n 2, 1) := by decide +kernel
theorem dX4_tellLine_44 : decode cX4_tellLine 44 = .ok (.isub, 1) := by decide +kernel
theorem dX4_tellLine_45 : decode cX4_tellLine 45 = .ok (.ireturn, 1) := by decide +kernel
theorem dX4_tellLine_46 : decode cX4_tellLine 46 = .ok (.iload_n 2, 1) := by decide +kernel
theorem dX4_tellLine_47 : decode cX4_tellLine 47 = .ok (.aload_n 0, 1) := by decide +kernel
theorem dX4_tellLine_48 : decode cX4_tellLine 48 = .ok (.getfield 36, 3) := by decide +kernel
theorem dX4_tellLine_51 : decode cX4_tellLine 51 = .ok (.iload_n 2, 1) := by decide +kernel
theorem dX4_tellLine_52 : decode cX4_tellLine 52 = .ok (.invokevirtual 87, 3) := by decide +kernel
theorem dX4_tellLine_55 : decode cX4_tellLine 55 = .ok (.iadd, 1) := by decide +kernel
theorem dX4_tellLine_56 : decode cX4_tellLine 56 = .ok (.istore_n 2, 1) := by decide +kernel
theorem dX4_tellLine_57 : decode cX4_tellLine 57 = .ok (.iinc 1 1, 3) := by decide +kernel
theorem dX4_tellLine_60 : decode cX4_tellLine 60 = .ok (.goto (-45), 3) := by decide +kernel
theorem dX4_tellLine_63 : decode cX4_tellLine 63 = .ok (.aload_n 0, 1) := by decide +kernel
theorem dX4_tellLine_64 : decode cX4_tellLine 64 = .ok (.getfield 12, 3) := by decide +kernel
theorem dX4_tellLine_67 : decode cX4_tellLine 67 = .ok (.aload_n 0, 1) := by decide +kernel
theorem dX4_tellLine_68 : decode cX4_tellLine 68 = .ok (.getfield 16, 3) := by decide +kernel
theorem dX4_tellLine_71 : decode cX4_tellLine 71 = .ok (.invokevirtual 79, 3) := by decide +kernel
theorem dX4_tellLine_74 : decode cX4_tellLine 74 = .ok (.aload_n 0, 1) := by decide +kernel
theorem dX4_tellLine_75 : decode cX4_tellLine 75 = .ok (.getfield 29, 3) := by decide +kernel
theorem dX4_tellLine_78 : decode cX4_tellLine 78 = .ok (.invokevirtual 90, 3) := by decide +kernel
theorem dX4_tellLine_81 : decode cX4_tellLine 81 = .ok (.iload_n 1, 1) := by decide +kernel
theorem dX4_tellLine_82 : decode cX4_tellLine 82 = .ok (.ireturn, 1) := by decide +kernel
theorem dX4_tellStatement_0 : decode cX4_tellStatement 0 = .ok (.aload_n 0, 1) := by decide +kernel
theorem dX4_tellStatement_1 : decode cX4_tellStatement 1 = .ok (.getfield 36, 3) := by decide +kernel
theorem dX4_tellStatement_4 : decode cX4_tellStatement 4 = .ok (.iload_n 1, 1) := by decide +kernel
theorem dX4_tellStatement_5 : decode cX4_tellStatement 5 = .ok (.iconst 1, 1) := by decide +kernel
theorem dX4_tellStatement_6 : decode cX4_tellStatement 6 = .ok (.iadd, 1) := by decide +kernel
theorem dX4_tellStatement_7 : decode cX4_tellStatement 7 = .ok (.iconst 2, 1) := by decide +kernel
theorem dX4_tellStatement_8 : decode cX4_tellStatement 8 = .ok (.invokevirtual 93, 3) := by decide +kernel
theorem dX4_tellStatement_11 : decode cX4_tellStatement 11 = .ok (.istore_n 2, 1) := by decide +kernel
theorem dX4_tellStatement_12 : decode cX4_tellStatement 12 = .ok (.aload_n 0, 1) := by decide +kernel
theorem dX4_tellStatement_13 : decode cX4_tellStatement 13 = .ok (.getfield 36, 3) := by decide +kernel
theorem dX4_tellStatement_16 : decode cX4_tellStatement 16 = .ok (.iload_n 1, 1) := by decide +kernel
theorem dX4_tellStatement_17 : decode cX4_tellStatement 17 = .ok (.invokevirtual 97, 3) := by decide +kernel
theorem dX4_tellStatement_20 : decode cX4_tellStatement 20 = .ok (.lookupswitch 247 #[(99, 172), (104, 210), (110, 60), (116, 111), (119, 142), (121, 69)], 60) := by decide +kernel
theorem dX4_tellStatement_80 : decode cX4_tellStatement 80 = .ok (.aload_n 0, 1) := by decide +kernel
theorem dX4_tellStatement_81 : decode cX4_tellStatement 81 = .ok (.getfield 16, 3) := by decide +kernel
theorem dX4_tellStatement_84 : decode cX4_tellStatement 84 = .ok (.iload_n 2, 1) := by decide +kernel
theorem dX4_tellStatement_85 : decode cX4_tellStatement 85 = .ok (.invokevirtual 100, 3) := by decide +kernel
theorem dX4_tellStatement_88 : decode cX4_tellStatement 88 = .ok (.ireturn, 1) := by decide +kernel
theorem dX4_tellStatement_89 : decode cX4_tellStatement 89 = .ok (.aload_n 0, 1) := by decide +kernel
theorem dX4_tellStatement_90 : decode cX4_tellStatement 90 = .ok (.getfield 16, 3) := by decide +kernel
theorem dX4_tellStatement_93 : decode cX4_tellStatement 93 = .ok (.iload_n 2, 1) := by decide +kernel
theorem dX4_tellStatement_94 : decode cX4_tellStatement 94 = .ok (.aload_n 0, 1) := by decide +kernel
theorem dX4_tellStatement_95 : decode cX4_tellStatement 95 = .ok (.getfield 36, 3) := by decide +kernel
theorem dX4_tellStatement_98 : decode cX4_tellStatement 98 = .ok (.iload_n 1, 1) := by decide +kernel
theorem dX4_tellStatement_99 : decode cX4_tellStatement 99 = .ok (.iconst 3, 1) := by decide +kernel
theorem dX4_tellStatement_100 : decode cX4_tellStatement 100 = .ok (.iadd, 1) := by decide +kernel
theorem dX4_tellStatement_101 : decode cX4_tellStatement 101 = .ok (.iconst 1, 1) := by decide +kernel
theorem dX4_tellStatement_102 : decode cX4_tellStatement 102 = .ok (.invokevirtual 93, 3) := by decide +kernel
theorem dX4_tellStatement_105 : decode cX4_tellStatement 105 = .ok (.aload_n 0, 1) := by decide +kernel
theorem dX4_tellStatement_106 : decode cX4_tellStatement 106 = .ok (.getfield 36, 3) := by decide +kernel
theorem dX4_tellStatement_109 : decode cX4_tellStatement 109 = .ok (.iload_n 1, 1) := by decide +kernel
theorem dX4_tellStatement_110 : decode cX4_tellStatement 110 = .ok (.iconst 4, 1) := by decide +kernel
theorem dX4_tellStatement_111 : decode cX4_tellStatement 111 = .ok (.iadd, 1) := by decide +kernel
theorem dX4_tellStatement_112 : decode cX4_tellStatement 112 = .ok (.iconst 1, 1) := by decide +kernel
theorem dX4_tellStatement_113 : decode cX4_tellStatement 113 = .ok (.invokevirtual 93, 3) := by decide +kernel
theorem dX4_tellStatement_116 : decode cX4_tellStatement 116 = .ok (.aload_n 0, 1) := by decide +kernel
theorem dX4_tellStatement_117 : decode cX4_tellStatement 117 = .ok (.getfield 36, 3) := by decide +kernel
theorem dX4_tellStatement_120 : decode cX4_tellStatement 120 = .ok (.iload_n 1, 1) := by decide +kernel
theorem dX4_tellStatement_121 : decode cX4_tellStatement 121 = .ok (.iconst 5, 1) := by decide +kernel
theorem dX4_tellStatement_122 : decode cX4_tellStatement 122 = .ok (.iadd, 1) := by decide +kernel
theorem dX4_tellStatement_123 : decode cX4_tellStatement 123 = .ok (.iconst 2, 1) := by decide +kernel
theorem dX4_tellStatement_124 : decode cX4_tellStatement 124 = .ok (.invokevirtual 93, 3) := by decide +kernel
theorem dX4_tellStatement_127 : decode cX4_tellStatement 127 = .ok (.invokevirtual 103, 3) := by decide +kernel
theorem dX4_tellStatement_130 : decode cX4_tellStatement 130 = .ok (.ireturn, 1) := by decide +kernel
theorem dX4_tellStatement_131 : decode cX4_tellStatement 131 = .ok (.aload_n 0, 1) := by decide +kernel
theorem dX4_tellStatement_132 : decode cX4_tellStatement 132 = .ok (.getfield 16, 3) := by decide +kernel
theorem dX4_tellStatement_135 : decode cX4_tellStatement 135 = .ok (.iload_n 2, 1) := by decide +kernel
theorem dX4_tellStatement_136 : decode cX4_tellStatement 136 = .ok (.aload_n 0, 1) := by decide +kernel
theorem dX4_tellStatement_137 : decode cX4_tellStatement 137 = .ok (.getfield 36, 3) := by decide +kernel
theorem dX4_tellStatement_140 : decode cX4_tellStatement 140 = .ok (.iload_n 1, 1) := by decide +kernel
theorem dX4_tellStatement_141 : decode cX4_tellStatement 141 = .ok (.iconst 3, 1) := by decide +kernel
theorem dX4_tellStatement_142 : decode cX4_tellStatement 142 = .ok (.iadd, 1) := by decide +kernel
theorem dX4_tellStatement_143 : decode cX4_tellStatement 143 = .ok (.iconst 1, 1) := by decide +kernel
theorem dX4_tellStatement_144 : decode cX4_tellStatement 144 = .ok (.invokevirtual 93, 3) := by decide +kernel
theorem dX4_tellStatement_147 : decode cX4_tellStatement 147 = .ok (.aload_n 0, 1) := by decide +kernel
theorem dX4_tellStatement_148 : decode cX4_tellStatement 148 = .ok (.getfield 36, 3) := by decide +kernel
theorem dX4_tellStatement_151 : decode cX4_tellStatement 151 = .ok (.iload_n 1, 1) := by decide +kernel
theorem dX4_tellStatement_152 : decode cX4_tellStatement 152 = .ok (.iconst 4, 1) := by decide +kernel
theorem dX4_tellStatement_153 : decode cX4_tellStatement 153 = .ok (.iadd, 1) := by decide +kernel
theorem dX4_tellStatement_154 : decode cX4_tellStatement 154 = .ok (.iconst 1, 1) := by decide +kernel
theorem dX4_tellStatement_155 : decode cX4_tellStatement 155 = .ok (.invokevirtual 93, 3) := by decide +kernel
theorem dX4_tellStatement_158 : decode cX4_tellStatement 158 = .ok (.invokevirtual 107, 3) := by decide +kernel
theorem dX4_tellStatement_161 : decode cX4_tellStatement 161 = .ok (.ireturn, 1) := by decide +kernel
theorem dX4_tellStatement_162 : decode cX4_tellStatement 162 = .ok (.aload_n 0, 1) := by decide +kernel
theorem dX4_tellStatement_163 : decode cX4_tellStatement 163 = .ok (.getfield 16, 3) := by decide +kernel
theorem dX4_tellStatement_166 : decode cX4_tellStatement 166 = .ok (.aload_n 0, 1) := by decide +kernel
theorem dX4_tellStatement_167 : decode cX4_tellStatement 167 = .ok (.getfield 36, 3) := by decide +kernel
theorem dX4_tellStatement_170 : decode cX4_tellStatement 170 = .ok (.iload_n 1, 1) := by decide +kernel
theorem dX4_tellStatement_171 : decode cX4_tellStatement 171 = .ok (.iconst 1, 1) := by decide +kernel
theorem dX4_tellStatement_172 : decode cX4_tellStatement 172 = .ok (.iadd, 1) := by decide +kernel
theorem dX4_tellStatement_173 : decode cX4_tellStatement 173 = .ok (.iconst 1, 1) := by decide +kernel
theorem dX4_tellStatement_174 : decode cX4_tellStatement 174 = .ok (.invokevirtual 93, 3) := by decide +kernel
theorem dX4_tellStatement_177 : decode cX4_tellStatement 177 = .ok (.aload_n 0, 1) := by decide +kernel
theorem dX4_tellStatement_178 : decode cX4_tellStatement 178 = .ok (.getfield 36, 3) := by decide +kernel
theorem dX4_tellStatement_181 : decode cX4_tellStatement 181 = .ok (.iload_n 1, 1) := by decide +kernel
theorem dX4_tellStatement_182 : decode cX4_tellStatement 182 = .ok (.iconst 2, 1) := by decide +kernel
theorem dX4_tellStatement_183 : decode cX4_tellStatement 183 = .ok (.iadd, 1) := by decide +kernel
theorem dX4_tellStatement_184 : decode cX4_tellStatement 184 = .ok (.iconst 2, 1) := by decide +kernel
theorem dX4_tellStatement_185 : decode cX4_tellStatement 185 = .ok (.invokevirtual 93, 3) := by decide +kernel
theorem dX4_tellStatement_188 : decode cX4_tellStatement 188 = .ok (.invokevirtual 111, 3) := by decide +kernel
theorem dX4_tellStatement_191 : decode cX4_tellStatement 191 = .ok (.ireturn, 1) := by decide +kernel
theorem dX4_tellStatement_192 : decode cX4_tellStatement 192 = .ok (.aload_n 0, 1) := by decide +kernel
theorem dX4_tellStatement_193 : decode cX4_tellStatement 193 = .ok (.getfield 16, 3) := by decide +kernel
theorem dX4_tellStatement_196 : decode cX4_tellStatement 196 = .ok (.aload_n 0, 1) := by decide +kernel
theorem dX4_tellStatement_197 : decode cX4_tellStatement 197 = .ok (.getfield 36, 3) := by decide +kernel
theorem dX4_tellStatement_200 : decode cX4_tellStatement 200 = .ok (.iload_n 1, 1) := by decide +kernel
theorem dX4_tellStatement_201 : decode cX4_tellStatement 201 = .ok (.iconst 1, 1) := by decide +kernel
theorem dX4_tellStatement_202 : decode cX4_tellStatement 202 = .ok (.iadd, 1) := by decide +kernel
theorem dX4_tellStatement_203 : decode cX4_tellStatement 203 = .ok (.iconst 1, 1) := by decide +kernel
theorem dX4_tellStatement_204 : decode cX4_tellStatement 204 = .ok (.invokevirtual 93, 3) := by decide +kernel
theorem dX4_tellStatement_207 : decode cX4_tellStatement 207 = .ok (.putfield 115, 3) := by decide +kernel
theorem dX4_tellStatement_210 : decode cX4_tellStatement 210 = .ok (.aload_n 0, 1) := by decide +kernel
theorem dX4_tellStatement_211 : decode cX4_tellStatement 211 = .ok (.getfield 16, 3) := by decide +kernel
theorem dX4_tellStatement_214 : decode cX4_tellStatement 214 = .ok (.aload_n 0, 1) := by decide +kernel
theorem dX4_tellStatement_215 : decode cX4_tellStatement 215 = .ok (.getfield 36, 3) := by decide +kernel
theorem dX4_tellStatement_218 : decode cX4_tellStatement 218 = .ok (.iload_n 1, 1) := by decide +kernel
theorem dX4_tellStatement_219 : decode cX4_tellStatement 219 = .ok (.iconst 2, 1) := by decide +kernel
theorem dX4_tellStatement_220 : decode cX4_tellStatement 220 = .ok (.iadd, 1) := by decide +kernel
theorem dX4_tellStatement_221 : decode cX4_tellStatement 221 = .ok (.iconst 1, 1) := by decide +kernel
theorem dX4_tellStatement_222 : decode cX4_tellStatement 222 = .ok (.invokevirtual 93, 3) := by decide +kernel
theorem dX4_tellStatement_225 : decode cX4_tellStatement 225 = .ok (.putfield 118, 3) := by decide +kernel
theorem dX4_tellStatement_228 : decode cX4_tellStatement 228 = .ok (.iconst 1, 1) := by decide +kernel
theorem dX4_tellStatement_229 : decode cX4_tellStatement 229 = .ok (.ireturn, 1) := by decide +kernel
theorem dX4_tellStatement_230 : decode cX4_tellStatement 230 = .ok (.iload_n 2, 1) := by decide +kernel
theorem dX4_tellStatement_231 : decode cX4_tellStatement 231 = .ok (.iconst 1, 1) := by decide +kernel
theorem dX4_tellStatement_232 : decode cX4_tellStatement 232 = .ok (.bipush 72, 2) := by decide +kernel
theorem dX4_tellStatement_234 : decode cX4_tellStatement 234 = .ok (.invokestatic 57, 3) := by decide +kernel
theorem dX4_tellStatement_237 : decode cX4_tellStatement 237 = .ok (.ifCond .ne 18, 3) := by decide +kernel
theorem dX4_tellStatement_240 : decode cX4_tellStatement 240 = .ok (.aload_n 0, 1) := by decide +kernel
theorem dX4_tellStatement_241 : decode cX4_tellStatement 241 = .ok (.getfield 16, 3) := by decide +kernel
theorem dX4_tellStatement_244 : decode cX4_tellStatement 244 = .ok (.getfield 121, 3) := by decide +kernel
theorem dX4_tellStatement_247 : decode cX4_tellStatement 247 = .ok (.iload_n 2, 1) := by decide +kernel
theorem dX4_tellStatement_248 : decode cX4_tellStatement 248 = .ok (.iadd, 1) := by decide +kernel
theorem dX4_tellStatement_249 : decode cX4_tellStatement 249 = .ok (.sipush 999, 3) := by decide +kernel
theorem dX4_tellStatement_252 : decode cX4_tellStatement 252 = .ok (.if_icmp .le 5, 3) := by decide +kernel
theorem dX4_tellStatement_255 : decode cX4_tellStatement 255 = .ok (.iconst 0, 1) := by decide +kernel
theorem dX4_tellStatement_256 : decode cX4_tellStatement 256 = .ok (.ireturn, 1) := by decide +kernel
theorem dX4_tellStatement_257 : decode cX4_tellStatement 257 = .ok (.aload_n 0, 1) := by decide +kernel
theorem dX4_tellStatement_258 : decode cX4_tellStatement 258 = .ok (.getfield 16, 3) := by decide +kernel
theorem dX4_tellStatement_261 : decode cX4_tellStatement 261 = .ok (.iload_n 2, 1) := by decide +kernel
theorem dX4_tellStatement_262 : decode cX4_tellStatement 262 = .ok (.invokevirtual 124, 3) := by decide +kernel
theorem dX4_tellStatement_265 : decode cX4_tellStatement 265 = .ok (.iconst 1, 1) := by decide +kernel
theorem dX4_tellStatement_266 : decode cX4_tellStatement 266 = .ok (.ireturn, 1) := by decide +kernel
theorem dX4_tellStatement_267 : decode cX4_tellStatement 267 = .ok (.iconst 0, 1) := by decide +kernel
theorem dX4_tellStatement_268 : decode cX4_tellStatement 268 = .ok (.ireturn, 1) := by decide +kernel
theorem dX4_yard_0 : decode cX4_yard 0 = .ok (.aload_n 0, 1) := by decide +kernel
theorem dX4_yard_1 : decode cX4_yard 1 = .ok (.iload_n 1, 1) := by decide +kernel
theorem dX4_yard_2 : decode cX4_yard 2 = .ok (.invokevirtual 127, 3) := by decide +kernel
theorem dX4_yard_5 : decode cX4_yard 5 = .ok (.ifCond .eq 9, 3) := by decide +kernel
theorem dX4_yard_8 : decode cX4_yard 8 = .ok (.aload_n 0, 1) := by decide +kernel
theorem dX4_yard_9 : decode cX4_yard 9 = .ok (.iconst (-1), 1) := by decide +kernel
theorem dX4_yard_10 : decode cX4_yard 10 = .ok (.invokevirtual 61, 3) := by decide +kernel
theorem dX4_yard_13 : decode cX4_yard 13 = .ok (.ireturn, 1) := by decide +kernel
theorem dX4_yard_14 : decode cX4_yard 14 = .ok (.iload_n 2, 1) := by decide +kernel
theorem dX4_yard_15 : decode cX4_yard 15 = .ok (.tableswitch 149 0 5 #[37, 47, 57, 67, 96, 125], 37) := by decide +kernel
theorem dX4_yard_52 : decode cX4_yard 52 = .ok (.aload_n 0, 1) := by decide +kernel
theorem dX4_yard_53 : decode cX4_yard 53 = .ok (.getfield 12, 3) := by decide +kernel
theorem dX4_yard_56 : decode cX4_yard 56 = .ok (.getfield 130, 3) := by decide +kernel
theorem dX4_yard_59 : decode cX4_yard 59 = .ok (.iload_n 1, 1) := by decide +kernel
theorem dX4_yard_60 : decode cX4_yard 60 = .ok (.iaload, 1) := by decide +kernel
theorem dX4_yard_61 : decode cX4_yard 61 = .ok (.ireturn, 1) := by decide +kernel
theorem dX4_yard_62 : decode cX4_yard 62 = .ok (.aload_n 0, 1) := by decide +kernel
theorem dX4_yard_63 : decode cX4_yard 63 = .ok (.getfield 12, 3) := by decide +kernel
theorem dX4_yard_66 : decode cX4_yard 66 = .ok (.getfield 133, 3) := by decide +kernel
theorem dX4_yard_69 : decode cX4_yard 69 = .ok (.iload_n 1, 1) := by decide +kernel
theorem dX4_yard_70 : decode cX4_yard 70 = .ok (.iaload, 1) := by decide +kernel
theorem dX4_yard_71 : decode cX4_yard 71 = .ok (.ireturn, 1) := by decide +kernel
theorem dX4_yard_72 : decode cX4_yard 72 = .ok (.aload_n 0, 1) := by decide +kernel
theorem dX4_yard_73 : decode cX4_yard 73 = .ok (.getfield 12, 3) := by decide +kernel
theorem dX4_yard_76 : decode cX4_yard 76 = .ok (.getfield 136, 3) := by decide +kernel
theorem dX4_yard_79 : decode cX4_yard 79 = .ok (.iload_n 1, 1) := by decide +kernel
theorem dX4_yard_80 : decode cX4_yard 80 = .ok (.iaload, 1) := by decide +kernel
theorem dX4_yard_81 : decode cX4_yard 81 = .ok (.ireturn, 1) := by decide +kernel
theorem dX4_yard_82 : decode cX4_yard 82 = .ok (.aload_n 0, 1) := by decide +kernel
theorem dX4_yard_83 : decode cX4_yard 83 = .ok (.getfield 12, 3) := by decide +kernel
theorem dX4_yard_86 : decode cX4_yard 86 = .ok (.getfield 130, 3) := by decide +kernel
theorem dX4_yard_89 : decode cX4_yard 89 = .ok (.iload_n 1, 1) := by decide +kernel
theorem dX4_yard_90 : decode cX4_yard 90 = .ok (.iaload, 1) := by decide +kernel
theorem dX4_yard_91 : decode cX4_yard 91 = .ok (.aload_n 0, 1) := by decide +kernel
theorem dX4_yard_92 : decode cX4_yard 92 = .ok (.getfield 12, 3) := by decide +kernel
theorem dX4_yard_95 : decode cX4_yard 95 = .ok (.getfield 133, 3) := by decide +kernel
theorem dX4_yard_98 : decode cX4_yard 98 = .ok (.iload_n 1, 1) := by decide +kernel
theorem dX4_yard_99 : decode cX4_yard 99 = .ok (.iaload, 1) := by decide +kernel
theorem dX4_yard_100 : decode cX4_yard 100 = .ok (.aload_n 0, 1) := by decide +kernel
theorem dX4_yard_101 : decode cX4_yard 101 = .ok (.getfield 12, 3) := by decide +kernel
theorem dX4_yard_104 : decode cX4_yard 104 = .ok (.getfield 115, 3) := by decide +kernel
theorem dX4_yard_107 : decode cX4_yard 107 = .ok (.invokestatic 139, 3) := by decide +kernel
theorem dX4_yard_110 : decode cX4_yard 110 = .ok (.ireturn, 1) := by decide +kernel
theorem dX4_yard_111 : decode cX4_yard 111 = .ok (.aload_n 0, 1) := by decide +kernel
theorem dX4_yard_112 : decode cX4_yard 112 = .ok (.getfield 12, 3) := by decide +kernel
theorem dX4_yard_115 : decode cX4_yard 115 = .ok (.getfield 130, 3) := by decide +kernel
theorem dX4_yard_118 : decode cX4_yard 118 = .ok (.iload_n 1, 1) := by decide +kernel
theorem dX4_yard_119 : decode cX4_yard 119 = .ok (.iaload, 1) := by decide +kernel
theorem dX4_yard_120 : decode cX4_yard 120 = .ok (.aload_n 0, 1) := by decide +kernel
theorem dX4_yard_121 : decode cX4_yard 121 = .ok (.getfield 12, 3) := by decide +kernel
theorem dX4_yard_124 : decode cX4_yard 124 = .ok (.getfield 133, 3) := by decide +kernel
theorem dX4_yard_127 : decode cX4_yard 127 = .ok (.iload_n 1, 1) := by decide +kernel
theorem dX4_yard_128 : decode cX4_yard 128 = .ok (.iaload, 1) := by decide +kernel
theorem dX4_yard_129 : decode cX4_yard 129 = .ok (.aload_n 0, 1) := by decide +kernel
theorem dX4_yard_130 : decode cX4_yard 130 = .ok (.getfield 12, 3) := by decide +kernel
theorem dX4_yard_133 : decode cX4_yard 133 = .ok (.getfield 118, 3) := by decide +kernel
theorem dX4_yard_136 : decode cX4_yard 136 = .ok (.invokestatic 144, 3) := by decide +kernel
theorem dX4_yard_139 : decode cX4_yard 139 = .ok (.ireturn, 1) := by decide +kernel
theorem dX4_yard_140 : decode cX4_yard 140 = .ok (.aload_n 0, 1) := by decide +kernel
theorem dX4_yard_141 : decode cX4_yard 141 = .ok (.getfield 12, 3) := by decide +kernel
theorem dX4_yard_144 : decode cX4_yard 144 = .ok (.getfield 130, 3) := by decide +kernel
theorem dX4_yard_147 : decode cX4_yard 147 = .ok (.iload_n 1, 1) := by decide +kernel
theorem dX4_yard_148 : decode cX4_yard 148 = .ok (.iaload, 1) := by decide +kernel
theorem dX4_yard_149 : decode cX4_yard 149 = .ok (.aload_n 0, 1) := by decide +kernel
theorem dX4_yard_150 : decode cX4_yard 150 = .ok (.getfield 12, 3) := by decide +kernel
theorem dX4_yard_153 : decode cX4_yard 153 = .ok (.getfield 133, 3) := by decide +kernel
theorem dX4_yard_156 : decode cX4_yard 156 = .ok (.iload_n 1, 1) := by decide +kernel
theorem dX4_yard_157 : decode cX4_yard 157 = .ok (.iaload, 1) := by decide +kernel
theorem dX4_yard_158 : decode cX4_yard 158 = .ok (.bipush 20, 2) := by decide +kernel
theorem dX4_yard_160 : decode cX4_yard 160 = .ok (.invokestatic 147, 3) := by decide +kernel
theorem dX4_yard_163 : decode cX4_yard 163 = .ok (.ireturn, 1) := by decide +kernel
theorem dX4_yard_164 : decode cX4_yard 164 = .ok (.aload_n 0, 1) := by decide +kernel
theorem dX4_yard_165 : decode cX4_yard 165 = .ok (.bipush (-2), 2) := by decide +kernel
theorem dX4_yard_167 : decode cX4_yard 167 = .ok (.invokevirtual 61, 3) := by decide +kernel
theorem dX4_yard_170 : decode cX4_yard 170 = .ok (.ireturn, 1) := by decide +kernel
theorem dX4_turn_0 : decode cX4_turn 0 = .ok (.aload_n 0, 1) := by decide +kernel
theorem dX4_turn_1 : decode cX4_turn 1 = .ok (.iload_n 1, 1) := by decide +kernel
theorem dX4_turn_2 : decode cX4_turn 2 = .ok (.invokevirtual 127, 3) := by decide +kernel
theorem dX4_turn_5 : decode cX4_turn 5 = .ok (.ifCond .eq 9, 3) := by decide +kernel
theorem dX4_turn_8 : decode cX4_turn 8 = .ok (.aload_n 0, 1) := by decide +kernel
theorem dX4_turn_9 : decode cX4_turn 9 = .ok (.iconst (-1), 1) := by decide +kernel
theorem dX4_turn_10 : decode cX4_turn 10 = .ok (.invokevirtual 61, 3) := by decide +kernel
theorem dX4_turn_13 : decode cX4_turn 13 = .ok (.ireturn, 1) := by decide +kernel
theorem dX4_turn_14 : decode cX4_turn 14 = .ok (.iload_n 2, 1) := by decide +kernel
theorem dX4_turn_15 : decode cX4_turn 15 = .ok (.ifCond .lt 8, 3) := by decide +kernel
theorem dX4_turn_18 : decode cX4_turn 18 = .ok (.iload_n 2, 1) := by decide +kernel
theorem dX4_turn_19 : decode cX4_turn 19 = .ok (.iconst 5, 1) := by decide +kernel
theorem dX4_turn_20 : decode cX4_turn 20 = .ok (.if_icmp .le 10, 3) := by decide +kernel
theorem dX4_turn_23 : decode cX4_turn 23 = .ok (.aload_n 0, 1) := by decide +kernel
theorem dX4_turn_24 : decode cX4_turn 24 = .ok (.bipush (-2), 2) := by decide +kernel
theorem dX4_turn_26 : decode cX4_turn 26 = .ok (.invokevirtual 61, 3) := by decide +kernel
theorem dX4_turn_29 : decode cX4_turn 29 = .ok (.ireturn, 1) := by decide +kernel
theorem dX4_turn_30 : decode cX4_turn 30 = .ok (.iload_n 3, 1) := by decide +kernel
theorem dX4_turn_31 : decode cX4_turn 31 = .ok (.iconst 0, 1) := by decide +kernel
theorem dX4_turn_32 : decode cX4_turn 32 = .ok (.bipush 9, 2) := by decide +kernel
theorem dX4_turn_34 : decode cX4_turn 34 = .ok (.invokestatic 57, 3) := by decide +kernel
theorem dX4_turn_37 : decode cX4_turn 37 = .ok (.istore 4, 2) := by decide +kernel
theorem dX4_turn_39 : decode cX4_turn 39 = .ok (.iload 4, 2) := by decide +kernel
theorem dX4_turn_41 : decode cX4_turn 41 = .ok (.ifCond .eq 10, 3) := by decide +kernel
theorem dX4_turn_44 : decode cX4_turn 44 = .ok (.aload_n 0, 1) := by decide +kernel
theorem dX4_turn_45 : decode cX4_turn 45 = .ok (.iload 4, 2) := by decide +kernel
theorem dX4_turn_47 : decode cX4_turn 47 = .ok (.invokevirtual 61, 3) := by decide +kernel
theorem dX4_turn_50 : decode cX4_turn 50 = .ok (.ireturn, 1) := by decide +kernel
theorem dX4_turn_51 : decode cX4_turn 51 = .ok (.aload_n 0, 1) := by decide +kernel
theorem dX4_turn_52 : decode cX4_turn 52 = .ok (.getfield 29, 3) := by decide +kernel
theorem dX4_turn_55 : decode cX4_turn 55 = .ok (.aload_n 0, 1) := by decide +kernel
theorem dX4_turn_56 : decode cX4_turn 56 = .ok (.getfield 12, 3) := by decide +kernel
theorem dX4_turn_59 : decode cX4_turn 59 = .ok (.invokevirtual 150, 3) := by decide +kernel
theorem dX4_turn_62 : decode cX4_turn 62 = .ok (.bipush 10, 2) := by decide +kernel
theorem dX4_turn_64 : decode cX4_turn 64 = .ok (.aload_n 0, 1) := by decide +kernel
theorem dX4_turn_65 : decode cX4_turn 65 = .ok (.getfield 12, 3) := by decide +kernel
theorem dX4_turn_68 : decode cX4_turn 68 = .ok (.getfield 130, 3) := by decide +kernel
theorem dX4_turn_71 : decode cX4_turn 71 = .ok (.iload_n 1, 1) := by decide +kernel
theorem dX4_turn_72 : decode cX4_turn 72 = .ok (.iaload, 1) := by decide +kernel
theorem dX4_turn_73 : decode cX4_turn 73 = .ok (.imul, 1) := by decide +kernel
theorem dX4_turn_74 : decode cX4_turn 74 = .ok (.aload_n 0, 1) := by decide +kernel
theorem dX4_turn_75 : decode cX4_turn 75 = .ok (.getfield 12, 3) := by decide +kernel
theorem dX4_turn_78 : decode cX4_turn 78 = .ok (.getfield 133, 3) := by decide +kernel
theorem dX4_turn_81 : decode cX4_turn 81 = .ok (.iload_n 1, 1) := by decide +kernel
theorem dX4_turn_82 : decode cX4_turn 82 = .ok (.iaload, 1) := by decide +kernel
theorem dX4_turn_83 : decode cX4_turn 83 = .ok (.iadd, 1) := by decide +kernel
theorem dX4_turn_84 : decode cX4_turn 84 = .ok (.istore 5, 2) := by decide +kernel
theorem dX4_turn_86 : decode cX4_turn 86 = .ok (.aload_n 0, 1) := by decide +kernel
theorem dX4_turn_87 : decode cX4_turn 87 = .ok (.getfield 12, 3) := by decide +kernel
theorem dX4_turn_90 : decode cX4_turn 90 = .ok (.getfield 130, 3) := by decide +kernel
theorem dX4_turn_93 : decode cX4_turn 93 = .ok (.iload_n 1, 1) := by decide +kernel
theorem dX4_turn_94 : decode cX4_turn 94 = .ok (.iload_n 2, 1) := by decide +kernel
theorem dX4_turn_95 : decode cX4_turn 95 = .ok (.iastore, 1) := by decide +kernel
theorem dX4_turn_96 : decode cX4_turn 96 = .ok (.aload_n 0, 1) := by decide +kernel
theorem dX4_turn_97 : decode cX4_turn 97 = .ok (.getfield 12, 3) := by decide +kernel
theorem dX4_turn_100 : decode cX4_turn 100 = .ok (.getfield 133, 3) := by decide +kernel
theorem dX4_turn_103 : decode cX4_turn 103 = .ok (.iload_n 1, 1) := by decide +kernel
theorem dX4_turn_104 : decode cX4_turn 104 = .ok (.iload_n 3, 1) := by decide +kernel
theorem dX4_turn_105 : decode cX4_turn 105 = .ok (.iastore, 1) := by decide +kernel
theorem dX4_turn_106 : decode cX4_turn 106 = .ok (.iload 5, 2) := by decide +kernel
theorem dX4_turn_108 : decode cX4_turn 108 = .ok (.ireturn, 1) := by decide +kernel
theorem dX4_frost_0 : decode cX4_frost 0 = .ok (.aload_n 0, 1) := by decide +kernel
theorem dX4_frost_1 : decode cX4_frost 1 = .ok (.iload_n 1, 1) := by decide +kernel
theorem dX4_frost_2 : decode cX4_frost 2 = .ok (.invokevirtual 127, 3) := by decide +kernel
theorem dX4_frost_5 : decode cX4_frost 5 = .ok (.ifCond .eq 9, 3) := by decide +kernel
theorem dX4_frost_8 : decode cX4_frost 8 = .ok (.aload_n 0, 1) := by decide +kernel
theorem dX4_frost_9 : decode cX4_frost 9 = .ok (.iconst (-1), 1) := by decide +kernel
theorem dX4_frost_10 : decode cX4_frost 10 = .ok (.invokevirtual 61, 3) := by decide +kernel
theorem dX4_frost_13 : decode cX4_frost 13 = .ok (.ireturn, 1) := by decide +kernel
theorem dX4_frost_14 : decode cX4_frost 14 = .ok (.iload_n 2, 1) := by decide +kernel
theorem dX4_frost_15 : decode cX4_frost 15 = .ok (.iconst 0, 1) := by decide +kernel
theorem dX4_frost_16 : decode cX4_frost 16 = .ok (.bipush 99, 2) := by decide +kernel
theorem dX4_frost_18 : decode cX4_frost 18 = .ok (.invokestatic 57, 3) := by decide +kernel
theorem dX4_frost_21 : decode cX4_frost 21 = .ok (.istore_n 3, 1) := by decide +kernel
theorem dX4_frost_22 : decode cX4_frost 22 = .ok (.iload_n 3, 1) := by decide +kernel
theorem dX4_frost_23 : decode cX4_frost 23 = .ok (.ifCond .eq 9, 3) := by decide +kernel
theorem dX4_frost_26 : decode cX4_frost 26 = .ok (.aload_n 0, 1) := by decide +kernel
theorem dX4_frost_27 : decode cX4_frost 27 = .ok (.iload_n 3, 1) := by decide +kernel
theorem dX4_frost_28 : decode cX4_frost 28 = .ok (.invokevirtual 61, 3) := by decide +kernel
theorem dX4_frost_31 : decode cX4_frost 31 = .ok (.ireturn, 1) := by decide +kernel
theorem dX4_frost_32 : decode cX4_frost 32 = .ok (.aload_n 0, 1) := by decide +kernel
theorem dX4_frost_33 : decode cX4_frost 33 = .ok (.getfield 29, 3) := by decide +kernel
theorem dX4_frost_36 : decode cX4_frost 36 = .ok (.aload_n 0, 1) := by decide +kernel
theorem dX4_frost_37 : decode cX4_frost 37 = .ok (.getfield 12, 3) := by decide +kernel
theorem dX4_frost_40 : decode cX4_frost 40 = .ok (.invokevirtual 150, 3) := by decide +kernel
theorem dX4_frost_43 : decode cX4_frost 43 = .ok (.aload_n 0, 1) := by decide +kernel
theorem dX4_frost_44 : decode cX4_frost 44 = .ok (.getfield 12, 3) := by decide +kernel
theorem dX4_frost_47 : decode cX4_frost 47 = .ok (.getfield 136, 3) := by decide +kernel
theorem dX4_frost_50 : decode cX4_frost 50 = .ok (.iload_n 1, 1) := by decide +kernel
theorem dX4_frost_51 : decode cX4_frost 51 = .ok (.iaload, 1) := by decide +kernel
theorem dX4_frost_52 : decode cX4_frost 52 = .ok (.istore 4, 2) := by decide +kernel
theorem dX4_frost_54 : decode cX4_frost 54 = .ok (.aload_n 0, 1) := by decide +kernel
theorem dX4_frost_55 : decode cX4_frost 55 = .ok (.getfield 12, 3) := by decide +kernel
theorem dX4_frost_58 : decode cX4_frost 58 = .ok (.getfield 136, 3) := by decide +kernel
theorem dX4_frost_61 : decode cX4_frost 61 = .ok (.iload_n 1, 1) := by decide +kernel
theorem dX4_frost_62 : decode cX4_frost 62 = .ok (.iload_n 2, 1) := by decide +kernel
theorem dX4_frost_63 : decode cX4_frost 63 = .ok (.iastore, 1) := by decide +kernel
theorem dX4_frost_64 : decode cX4_frost 64 = .ok (.iload 4, 2) := by decide +kernel
theorem dX4_frost_66 : decode cX4_frost 66 = .ok (.ireturn, 1) := by decide +kernel
theorem dX4_weather_0 : decode cX4_weather 0 = .ok (.iload_n 1, 1) := by decide +kernel
theorem dX4_weather_1 : decode cX4_weather 1 = .ok (.invokestatic 153, 3) := by decide +kernel
theorem dX4_weather_4 : decode cX4_weather 4 = .ok (.ifCond .eq 10, 3) := by decide +kernel
theorem dX4_weather_7 : decode cX4_weather 7 = .ok (.aload_n 0, 1) := by decide +kernel
theorem dX4_weather_8 : decode cX4_weather 8 = .ok (.bipush (-2), 2) := by decide +kernel
theorem dX4_weather_10 : decode cX4_weather 10 = .ok (.invokevirtual 61, 3) := by decide +kernel
theorem dX4_weather_13 : decode cX4_weather 13 = .ok (.ireturn, 1) := by decide +kernel
theorem dX4_weather_14 : decode cX4_weather 14 = .ok (.iload_n 2, 1) := by decide +kernel
theorem dX4_weather_15 : decode cX4_weather 15 = .ok (.iconst 0, 1) := by decide +kernel
theorem dX4_weather_16 : decode cX4_weather 16 = .ok (.bipush 9, 2) := by decide +kernel
theorem dX4_weather_18 : decode cX4_weather 18 = .ok (.invokestatic 57, 3) := by decide +kernel
theorem dX4_weather_21 : decode cX4_weather 21 = .ok (.istore_n 3, 1) := by decide +kernel
theorem dX4_weather_22 : decode cX4_weather 22 = .ok (.iload_n 3, 1) := by decide +kernel
theorem dX4_weather_23 : decode cX4_weather 23 = .ok (.ifCond .eq 9, 3) := by decide +kernel
theorem dX4_weather_26 : decode cX4_weather 26 = .ok (.aload_n 0, 1) := by decide +kernel
theorem dX4_weather_27 : decode cX4_weather 27 = .ok (.iload_n 3, 1) := by decide +kernel
theorem dX4_weather_28 : decode cX4_weather 28 = .ok (.invokevirtual 61, 3) := by decide +kernel
theorem dX4_weather_31 : decode cX4_weather 31 = .ok (.ireturn, 1) := by decide +kernel
theorem dX4_weather_32 : decode cX4_weather 32 = .ok (.aload_n 0, 1) := by decide +kernel
theorem dX4_weather_33 : decode cX4_weather 33 = .ok (.getfield 29, 3) := by decide +kernel
theorem dX4_weather_36 : decode cX4_weather 36 = .ok (.aload_n 0, 1) := by decide +kernel
theorem dX4_weather_37 : decode cX4_weather 37 = .ok (.getfield 12, 3) := by decide +kernel
theorem dX4_weather_40 : decode cX4_weather 40 = .ok (.invokevirtual 150, 3) := by decide +kernel
theorem dX4_weather_43 : decode cX4_weather 43 = .ok (.iload_n 1, 1) := by decide +kernel
theorem dX4_weather_44 : decode cX4_weather 44 = .ok (.ifCond .ne 13, 3) := by decide +kernel
theorem dX4_weather_47 : decode cX4_weather 47 = .ok (.aload_n 0, 1) := by decide +kernel
theorem dX4_weather_48 : decode cX4_weather 48 = .ok (.getfield 12, 3) := by decide +kernel
theorem dX4_weather_51 : decode cX4_weather 51 = .ok (.getfield 115, 3) := by decide +kernel
theorem dX4_weather_54 : decode cX4_weather 54 = .ok (.goto 10, 3) := by decide +kernel
theorem dX4_weather_57 : decode cX4_weather 57 = .ok (.aload_n 0, 1) := by decide +kernel
theorem dX4_weather_58 : decode cX4_weather 58 = .ok (.getfield 12, 3) := by decide +kernel
theorem dX4_weather_61 : decode cX4_weather 61 = .ok (.getfield 118, 3) := by decide +kernel
theorem dX4_weather_64 : decode cX4_weather 64 = .ok (.istore 4, 2) := by decide +kernel
theorem dX4_weather_66 : decode cX4_weather 66 = .ok (.iload_n 1, 1) := by decide +kernel
theorem dX4_weather_67 : decode cX4_weather 67 = .ok (.ifCond .ne 14, 3) := by decide +kernel
theorem dX4_weather_70 : decode cX4_weather 70 = .ok (.aload_n 0, 1) := by decide +kernel
theorem dX4_weather_71 : decode cX4_weather 71 = .ok (.getfield 12, 3) := by decide +kernel
theorem dX4_weather_74 : decode cX4_weather 74 = .ok (.iload_n 2, 1) := by decide +kernel
theorem dX4_weather_75 : decode cX4_weather 75 = .ok (.putfield 115, 3) := by decide +kernel
theorem dX4_weather_78 : decode cX4_weather 78 = .ok (.goto 11, 3) := by decide +kernel
theorem dX4_weather_81 : decode cX4_weather 81 = .ok (.aload_n 0, 1) := by decide +kernel
theorem dX4_weather_82 : decode cX4_weather 82 = .ok (.getfield 12, 3) := by decide +kernel
theorem dX4_weather_85 : decode cX4_weather 85 = .ok (.iload_n 2, 1) := by decide +kernel
theorem dX4_weather_86 : decode cX4_weather 86 = .ok (.putfield 118, 3) := by decide +kernel
theorem dX4_weather_89 : decode cX4_weather 89 = .ok (.iload 4, 2) := by decide +kernel
theorem dX4_weather_91 : decode cX4_weather 91 = .ok (.ireturn, 1) := by decide +kernel
theorem dX4_many_0 : decode cX4_many 0 = .ok (.iload_n 1, 1) := by decide +kernel
theorem dX4_many_1 : decode cX4_many 1 = .ok (.iconst 2, 1) := by decide +kernel
theorem dX4_many_2 : decode cX4_many 2 = .ok (.bipush 16, 2) := by decide +kernel
theorem dX4_many_4 : decode cX4_many 4 = .ok (.invokestatic 57, 3) := by decide +kernel
theorem dX4_many_7 : decode cX4_many 7 = .ok (.istore_n 2, 1) := by decide +kernel
theorem dX4_many_8 : decode cX4_many 8 = .ok (.iload_n 2, 1) := by decide +kernel
theorem dX4_many_9 : decode cX4_many 9 = .ok (.ifCond .eq 9, 3) := by decide +kernel
theorem dX4_many_12 : decode cX4_many 12 = .ok (.aload_n 0, 1) := by decide +kernel
theorem dX4_many_13 : decode cX4_many 13 = .ok (.iload_n 2, 1) := by decide +kernel
theorem dX4_many_14 : decode cX4_many 14 = .ok (.invokevirtual 61, 3) := by decide +kernel
theorem dX4_many_17 : decode cX4_many 17 = .ok (.ireturn, 1) := by decide +kernel
theorem dX4_many_18 : decode cX4_many 18 = .ok (.aload_n 0, 1) := by decide +kernel
theorem dX4_many_19 : decode cX4_many 19 = .ok (.getfield 12, 3) := by decide +kernel
theorem dX4_many_22 : decode cX4_many 22 = .ok (.getfield 156, 3) := by decide +kernel
theorem dX4_many_25 : decode cX4_many 25 = .ok (.istore_n 3, 1) := by decide +kernel
theorem dX4_many_26 : decode cX4_many 26 = .ok (.aload_n 0, 1) := by decide +kernel
theorem dX4_many_27 : decode cX4_many 27 = .ok (.getfield 12, 3) := by decide +kernel
theorem dX4_many_30 : decode cX4_many 30 = .ok (.iload_n 1, 1) := by decide +kernel
theorem dX4_many_31 : decode cX4_many 31 = .ok (.invokevirtual 100, 3) := by decide +kernel
theorem dX4_many_34 : decode cX4_many 34 = .ok (.ifCond .ne 10, 3) := by decide +kernel
theorem dX4_many_37 : decode cX4_many 37 = .ok (.aload_n 0, 1) := by decide +kernel
theorem dX4_many_38 : decode cX4_many 38 = .ok (.bipush (-3), 2) := by decide +kernel
theorem dX4_many_40 : decode cX4_many 40 = .ok (.invokevirtual 61, 3) := by decide +kernel
theorem dX4_many_43 : decode cX4_many 43 = .ok (.ireturn, 1) := by decide +kernel
theorem dX4_many_44 : decode cX4_many 44 = .ok (.aload_n 0, 1) := by decide +kernel
theorem dX4_many_45 : decode cX4_many 45 = .ok (.getfield 29, 3) := by decide +kernel
theorem dX4_many_48 : decode cX4_many 48 = .ok (.invokevirtual 90, 3) := by decide +kernel
theorem dX4_many_51 : decode cX4_many 51 = .ok (.iload_n 3, 1) := by decide +kernel
theorem dX4_many_52 : decode cX4_many 52 = .ok (.ireturn, 1) := by decide +kernel
theorem dX4_train_0 : decode cX4_train 0 = .ok (.iload_n 1, 1) := by decide +kernel
theorem dX4_train_1 : decode cX4_train 1 = .ok (.iconst 1, 1) := by decide +kernel
theorem dX4_train_2 : decode cX4_train 2 = .ok (.if_icmp .lt 12, 3) := by decide +kernel
theorem dX4_train_5 : decode cX4_train 5 = .ok (.iload_n 2, 1) := by decide +kernel
theorem dX4_train_6 : decode cX4_train 6 = .ok (.ifCond .lt 8, 3) := by decide +kernel
theorem dX4_train_9 : decode cX4_train 9 = .ok (.iload_n 3, 1) := by decide +kernel
theorem dX4_train_10 : decode cX4_train 10 = .ok (.iconst 1, 1) := by decide +kernel
theorem dX4_train_11 : decode cX4_train 11 = .ok (.if_icmp .ge 10, 3) := by decide +kernel
theorem dX4_train_14 : decode cX4_train 14 = .ok (.aload_n 0, 1) := by decide +kernel
theorem dX4_train_15 : decode cX4_train 15 = .ok (.bipush (-4), 2) := by decide +kernel
theorem dX4_train_17 : decode cX4_train 17 = .ok (.invokevirtual 61, 3) := by decide +kernel
theorem dX4_train_20 : decode cX4_train 20 = .ok (.ireturn, 1) := by decide +kernel
theorem dX4_train_21 : decode cX4_train 21 = .ok (.aload_n 0, 1) := by decide +kernel
theorem dX4_train_22 : decode cX4_train 22 = .ok (.getfield 12, 3) := by decide +kernel
theorem dX4_train_25 : decode cX4_train 25 = .ok (.iload_n 1, 1) := by decide +kernel
theorem dX4_train_26 : decode cX4_train 26 = .ok (.iload_n 2, 1) := by decide +kernel
theorem dX4_train_27 : decode cX4_train 27 = .ok (.iload_n 3, 1) := by decide +kernel
theorem dX4_train_28 : decode cX4_train 28 = .ok (.invokevirtual 107, 3) := by decide +kernel
theorem dX4_train_31 : decode cX4_train 31 = .ok (.ifCond .ne 10, 3) := by decide +kernel
theorem dX4_train_34 : decode cX4_train 34 = .ok (.aload_n 0, 1) := by decide +kernel
theorem dX4_train_35 : decode cX4_train 35 = .ok (.bipush (-6), 2) := by decide +kernel
theorem dX4_train_37 : decode cX4_train 37 = .ok (.invokevirtual 61, 3) := by decide +kernel
theorem dX4_train_40 : decode cX4_train 40 = .ok (.ireturn, 1) := by decide +kernel
theorem dX4_train_41 : decode cX4_train 41 = .ok (.aload_n 0, 1) := by decide +kernel
theorem dX4_train_42 : decode cX4_train 42 = .ok (.getfield 29, 3) := by decide +kernel
theorem dX4_train_45 : decode cX4_train 45 = .ok (.invokevirtual 90, 3) := by decide +kernel
theorem dX4_train_48 : decode cX4_train 48 = .ok (.aload_n 0, 1) := by decide +kernel
theorem dX4_train_49 : decode cX4_train 49 = .ok (.getfield 12, 3) := by decide +kernel
theorem dX4_train_52 : decode cX4_train 52 = .ok (.getfield 159, 3) := by decide +kernel
theorem dX4_train_55 : decode cX4_train 55 = .ok (.iconst 1, 1) := by decide +kernel
theorem dX4_train_56 : decode cX4_train 56 = .ok (.isub, 1) := by decide +kernel
theorem dX4_train_57 : decode cX4_train 57 = .ok (.ireturn, 1) := by decide +kernel
theorem dX4_told_0 : decode cX4_told 0 = .ok (.aload_n 0, 1) := by decide +kernel
theorem dX4_told_1 : decode cX4_told 1 = .ok (.iload_n 1, 1) := by decide +kernel
theorem dX4_told_2 : decode cX4_told 2 = .ok (.invokevirtual 162, 3) := by decide +kernel
theorem dX4_told_5 : decode cX4_told 5 = .ok (.ifCond .eq 9, 3) := by decide +kernel
theorem dX4_told_8 : decode cX4_told 8 = .ok (.aload_n 0, 1) := by decide +kernel
theorem dX4_told_9 : decode cX4_told 9 = .ok (.iconst (-1), 1) := by decide +kernel
theorem dX4_told_10 : decode cX4_told 10 = .ok (.invokevirtual 61, 3) := by decide +kernel
theorem dX4_told_13 : decode cX4_told 13 = .ok (.ireturn, 1) := by decide +kernel
theorem dX4_told_14 : decode cX4_told 14 = .ok (.iload_n 2, 1) := by decide +kernel
theorem dX4_told_15 : decode cX4_told 15 = .ok (.tableswitch 97 0 5 #[37, 47, 57, 67, 77, 87], 37) := by decide +kernel
theorem dX4_told_52 : decode cX4_told 52 = .ok (.aload_n 0, 1) := by decide +kernel
theorem dX4_told_53 : decode cX4_told 53 = .ok (.getfield 12, 3) := by decide +kernel
theorem dX4_told_56 : decode cX4_told 56 = .ok (.getfield 165, 3) := by decide +kernel
theorem dX4_told_59 : decode cX4_told 59 = .ok (.iload_n 1, 1) := by decide +kernel
theorem dX4_told_60 : decode cX4_told 60 = .ok (.iaload, 1) := by decide +kernel
theorem dX4_told_61 : decode cX4_told 61 = .ok (.ireturn, 1) := by decide +kernel
theorem dX4_told_62 : decode cX4_told 62 = .ok (.aload_n 0, 1) := by decide +kernel
theorem dX4_told_63 : decode cX4_told 63 = .ok (.getfield 12, 3) := by decide +kernel
theorem dX4_told_66 : decode cX4_told 66 = .ok (.getfield 168, 3) := by decide +kernel
theorem dX4_told_69 : decode cX4_told 69 = .ok (.iload_n 1, 1) := by decide +kernel
theorem dX4_told_70 : decode cX4_told 70 = .ok (.iaload, 1) := by decide +kernel
theorem dX4_told_71 : decode cX4_told 71 = .ok (.ireturn, 1) := by decide +kernel
theorem dX4_told_72 : decode cX4_told 72 = .ok (.aload_n 0, 1) := by decide +kernel
theorem dX4_told_73 : decode cX4_told 73 = .ok (.getfield 12, 3) := by decide +kernel
theorem dX4_told_76 : decode cX4_told 76 = .ok (.getfield 171, 3) := by decide +kernel
theorem dX4_told_79 : decode cX4_told 79 = .ok (.iload_n 1, 1) := by decide +kernel
theorem dX4_told_80 : decode cX4_told 80 = .ok (.iaload, 1) := by decide +kernel
theorem dX4_told_81 : decode cX4_told 81 = .ok (.ireturn, 1) := by decide +kernel
theorem dX4_told_82 : decode cX4_told 82 = .ok (.aload_n 0, 1) := by decide +kernel
theorem dX4_told_83 : decode cX4_told 83 = .ok (.getfield 12, 3) := by decide +kernel
theorem dX4_told_86 : decode cX4_told 86 = .ok (.getfield 174, 3) := by decide +kernel
theorem dX4_told_89 : decode cX4_told 89 = .ok (.iload_n 1, 1) := by decide +kernel
theorem dX4_told_90 : decode cX4_told 90 = .ok (.iaload, 1) := by decide +kernel
theorem dX4_told_91 : decode cX4_told 91 = .ok (.ireturn, 1) := by decide +kernel
theorem dX4_told_92 : decode cX4_told 92 = .ok (.aload_n 0, 1) := by decide +kernel
theorem dX4_told_93 : decode cX4_told 93 = .ok (.getfield 12, 3) := by decide +kernel
theorem dX4_told_96 : decode cX4_told 96 = .ok (.getfield 177, 3) := by decide +kernel
theorem dX4_told_99 : decode cX4_told 99 = .ok (.iload_n 1, 1) := by decide +kernel
theorem dX4_told_100 : decode cX4_told 100 = .ok (.iaload, 1) := by decide +kernel
theorem dX4_told_101 : decode cX4_told 101 = .ok (.ireturn, 1) := by decide +kernel
theorem dX4_told_102 : decode cX4_told 102 = .ok (.aload_n 0, 1) := by decide +kernel
theorem dX4_told_103 : decode cX4_told 103 = .ok (.getfield 12, 3) := by decide +kernel
theorem dX4_told_106 : decode cX4_told 106 = .ok (.getfield 180, 3) := by decide +kernel
theorem dX4_told_109 : decode cX4_told 109 = .ok (.iload_n 1, 1) := by decide +kernel
theorem dX4_told_110 : decode cX4_told 110 = .ok (.iaload, 1) := by decide +kernel
theorem dX4_told_111 : decode cX4_told 111 = .ok (.ireturn, 1) := by decide +kernel
theorem dX4_told_112 : decode cX4_told 112 = .ok (.aload_n 0, 1) := by decide +kernel
theorem dX4_told_113 : decode cX4_told 113 = .ok (.bipush (-2), 2) := by decide +kernel
theorem dX4_told_115 : decode cX4_told 115 = .ok (.invokevirtual 61, 3) := by decide +kernel
theorem dX4_told_118 : decode cX4_told 118 = .ok (.ireturn, 1) := by decide +kernel
theorem dX4_waits_0 : decode cX4_waits 0 = .ok (.aload_n 0, 1) := by decide +kernel
theorem dX4_waits_1 : decode cX4_waits 1 = .ok (.iload_n 1, 1) := by decide +kernel
theorem dX4_waits_2 : decode cX4_waits 2 = .ok (.invokevirtual 162, 3) := by decide +kernel
theorem dX4_waits_5 : decode cX4_waits 5 = .ok (.ifCond .eq 9, 3) := by decide +kernel
theorem dX4_waits_8 : decode cX4_waits 8 = .ok (.aload_n 0, 1) := by decide +kernel
theorem dX4_waits_9 : decode cX4_waits 9 = .ok (.iconst (-1), 1) := by decide +kernel
theorem dX4_waits_10 : decode cX4_waits 10 = .ok (.invokevirtual 61, 3) := by decide +kernel
theorem dX4_waits_13 : decode cX4_waits 13 = .ok (.ireturn, 1) := by decide +kernel
theorem dX4_waits_14 : decode cX4_waits 14 = .ok (.iload_n 2, 1) := by decide +kernel
theorem dX4_waits_15 : decode cX4_waits 15 = .ok (.iconst 0, 1) := by decide +kernel
theorem dX4_waits_16 : decode cX4_waits 16 = .ok (.bipush 48, 2) := by decide +kernel
theorem dX4_waits_18 : decode cX4_waits 18 = .ok (.invokestatic 57, 3) := by decide +kernel
theorem dX4_waits_21 : decode cX4_waits 21 = .ok (.istore_n 3, 1) := by decide +kernel
theorem dX4_waits_22 : decode cX4_waits 22 = .ok (.iload_n 3, 1) := by decide +kernel
theorem dX4_waits_23 : decode cX4_waits 23 = .ok (.ifCond .eq 9, 3) := by decide +kernel
theorem dX4_waits_26 : decode cX4_waits 26 = .ok (.aload_n 0, 1) := by decide +kernel
theorem dX4_waits_27 : decode cX4_waits 27 = .ok (.iload_n 3, 1) := by decide +kernel
theorem dX4_waits_28 : decode cX4_waits 28 = .ok (.invokevirtual 61, 3) := by decide +kernel
theorem dX4_waits_31 : decode cX4_waits 31 = .ok (.ireturn, 1) := by decide +kernel
theorem dX4_waits_32 : decode cX4_waits 32 = .ok (.aload_n 0, 1) := by decide +kernel
theorem dX4_waits_33 : decode cX4_waits 33 = .ok (.getfield 12, 3) := by decide +kernel
theorem dX4_waits_36 : decode cX4_waits 36 = .ok (.getfield 180, 3) := by decide +kernel
theorem dX4_waits_39 : decode cX4_waits 39 = .ok (.iload_n 1, 1) := by decide +kernel
theorem dX4_waits_40 : decode cX4_waits 40 = .ok (.iaload, 1) := by decide +kernel
theorem dX4_waits_41 : decode cX4_waits 41 = .ok (.ifCond .eq 10, 3) := by decide +kernel
theorem dX4_waits_44 : decode cX4_waits 44 = .ok (.aload_n 0, 1) := by decide +kernel
theorem dX4_waits_45 : decode cX4_waits 45 = .ok (.bipush (-3), 2) := by decide +kernel
theorem dX4_waits_47 : decode cX4_waits 47 = .ok (.invokevirtual 61, 3) := by decide +kernel
theorem dX4_waits_50 : decode cX4_waits 50 = .ok (.ireturn, 1) := by decide +kernel
theorem dX4_waits_51 : decode cX4_waits 51 = .ok (.aload_n 0, 1) := by decide +kernel
theorem dX4_waits_52 : decode cX4_waits 52 = .ok (.getfield 29, 3) := by decide +kernel
theorem dX4_waits_55 : decode cX4_waits 55 = .ok (.aload_n 0, 1) := by decide +kernel
theorem dX4_waits_56 : decode cX4_waits 56 = .ok (.getfield 12, 3) := by decide +kernel
theorem dX4_waits_59 : decode cX4_waits 59 = .ok (.invokevirtual 150, 3) := by decide +kernel
theorem dX4_waits_62 : decode cX4_waits 62 = .ok (.aload_n 0, 1) := by decide +kernel
theorem dX4_waits_63 : decode cX4_waits 63 = .ok (.getfield 12, 3) := by decide +kernel
theorem dX4_waits_66 : decode cX4_waits 66 = .ok (.getfield 177, 3) := by decide +kernel
theorem dX4_waits_69 : decode cX4_waits 69 = .ok (.iload_n 1, 1) := by decide +kernel
theorem dX4_waits_70 : decode cX4_waits 70 = .ok (.iaload, 1) := by decide +kernel
theorem dX4_waits_71 : decode cX4_waits 71 = .ok (.istore 4, 2) := by decide +kernel
theorem dX4_waits_73 : decode cX4_waits 73 = .ok (.aload_n 0, 1) := by decide +kernel
theorem dX4_waits_74 : decode cX4_waits 74 = .ok (.getfield 12, 3) := by decide +kernel
theorem dX4_waits_77 : decode cX4_waits 77 = .ok (.getfield 177, 3) := by decide +kernel
theorem dX4_waits_80 : decode cX4_waits 80 = .ok (.iload_n 1, 1) := by decide +kernel
theorem dX4_waits_81 : decode cX4_waits 81 = .ok (.iload_n 2, 1) := by decide +kernel
theorem dX4_waits_82 : decode cX4_waits 82 = .ok (.iastore, 1) := by decide +kernel
theorem dX4_waits_83 : decode cX4_waits 83 = .ok (.iload 4, 2) := by decide +kernel
theorem dX4_waits_85 : decode cX4_waits 85 = .ok (.ireturn, 1) := by decide +kernel
theorem dX4_hours_0 : decode cX4_hours 0 = .ok (.iload_n 1, 1) := by decide +kernel
theorem dX4_hours_1 : decode cX4_hours 1 = .ok (.iconst 1, 1) := by decide +kernel
theorem dX4_hours_2 : decode cX4_hours 2 = .ok (.bipush 72, 2) := by decide +kernel
theorem dX4_hours_4 : decode cX4_hours 4 = .ok (.invokestatic 57, 3) := by decide +kernel
theorem dX4_hours_7 : decode cX4_hours 7 = .ok (.istore_n 2, 1) := by decide +kernel
theorem dX4_hours_8 : decode cX4_hours 8 = .ok (.iload_n 2, 1) := by decide +kernel
theorem dX4_hours_9 : decode cX4_hours 9 = .ok (.ifCond .eq 9, 3) := by decide +kernel
theorem dX4_hours_12 : decode cX4_hours 12 = .ok (.aload_n 0, 1) := by decide +kernel
theorem dX4_hours_13 : decode cX4_hours 13 = .ok (.iload_n 2, 1) := by decide +kernel
theorem dX4_hours_14 : decode cX4_hours 14 = .ok (.invokevirtual 61, 3) := by decide +kernel
theorem dX4_hours_17 : decode cX4_hours 17 = .ok (.ireturn, 1) := by decide +kernel
theorem dX4_hours_18 : decode cX4_hours 18 = .ok (.aload_n 0, 1) := by decide +kernel
theorem dX4_hours_19 : decode cX4_hours 19 = .ok (.getfield 12, 3) := by decide +kernel
theorem dX4_hours_22 : decode cX4_hours 22 = .ok (.getfield 121, 3) := by decide +kernel
theorem dX4_hours_25 : decode cX4_hours 25 = .ok (.iload_n 1, 1) := by decide +kernel
theorem dX4_hours_26 : decode cX4_hours 26 = .ok (.iadd, 1) := by decide +kernel
theorem dX4_hours_27 : decode cX4_hours 27 = .ok (.sipush 999, 3) := by decide +kernel
theorem dX4_hours_30 : decode cX4_hours 30 = .ok (.if_icmp .le 10, 3) := by decide +kernel
theorem dX4_hours_33 : decode cX4_hours 33 = .ok (.aload_n 0, 1) := by decide +kernel
theorem dX4_hours_34 : decode cX4_hours 34 = .ok (.bipush (-6), 2) := by decide +kernel
theorem dX4_hours_36 : decode cX4_hours 36 = .ok (.invokevirtual 61, 3) := by decide +kernel
theorem dX4_hours_39 : decode cX4_hours 39 = .ok (.ireturn, 1) := by decide +kernel
theorem dX4_hours_40 : decode cX4_hours 40 = .ok (.aload_n 0, 1) := by decide +kernel
theorem dX4_hours_41 : decode cX4_hours 41 = .ok (.getfield 29, 3) := by decide +kernel
theorem dX4_hours_44 : decode cX4_hours 44 = .ok (.aload_n 0, 1) := by decide +kernel
theorem dX4_hours_45 : decode cX4_hours 45 = .ok (.getfield 12, 3) := by decide +kernel
theorem dX4_hours_48 : decode cX4_hours 48 = .ok (.invokevirtual 150, 3) := by decide +kernel
theorem dX4_hours_51 : decode cX4_hours 51 = .ok (.aload_n 0, 1) := by decide +kernel
theorem dX4_hours_52 : decode cX4_hours 52 = .ok (.getfield 12, 3) := by decide +kernel
theorem dX4_hours_55 : decode cX4_hours 55 = .ok (.iconst 1, 1) := by decide +kernel
theorem dX4_hours_56 : decode cX4_hours 56 = .ok (.invokevirtual 183, 3) := by decide +kernel
theorem dX4_hours_59 : decode cX4_hours 59 = .ok (.istore_n 3, 1) := by decide +kernel
theorem dX4_hours_60 : decode cX4_hours 60 = .ok (.aload_n 0, 1) := by decide +kernel
theorem dX4_hours_61 : decode cX4_hours 61 = .ok (.getfield 12, 3) := by decide +kernel
theorem dX4_hours_64 : decode cX4_hours 64 = .ok (.iload_n 1, 1) := by decide +kernel
theorem dX4_hours_65 : decode cX4_hours 65 = .ok (.invokevirtual 124, 3) := by decide +kernel
theorem dX4_hours_68 : decode cX4_hours 68 = .ok (.aload_n 0, 1) := by decide +kernel
theorem dX4_hours_69 : decode cX4_hours 69 = .ok (.getfield 12, 3) := by decide +kernel
theorem dX4_hours_72 : decode cX4_hours 72 = .ok (.iconst 1, 1) := by decide +kernel
theorem dX4_hours_73 : decode cX4_hours 73 = .ok (.invokevirtual 183, 3) := by decide +kernel
theorem dX4_hours_76 : decode cX4_hours 76 = .ok (.iload_n 3, 1) := by decide +kernel
theorem dX4_hours_77 : decode cX4_hours 77 = .ok (.isub, 1) := by decide +kernel
theorem dX4_hours_78 : decode cX4_hours 78 = .ok (.ireturn, 1) := by decide +kernel
theorem dX4_back_0 : decode cX4_back 0 = .ok (.aload_n 0, 1) := by decide +kernel
theorem dX4_back_1 : decode cX4_back 1 = .ok (.getfield 29, 3) := by decide +kernel
theorem dX4_back_4 : decode cX4_back 4 = .ok (.getfield 186, 3) := by decide +kernel
theorem dX4_back_7 : decode cX4_back 7 = .ok (.ifCond .ne 10, 3) := by decide +kernel
theorem dX4_back_10 : decode cX4_back 10 = .ok (.aload_n 0, 1) := by decide +kernel
theorem dX4_back_11 : decode cX4_back 11 = .ok (.bipush (-3), 2) := by decide +kernel
theorem dX4_back_13 : decode cX4_back 13 = .ok (.invokevirtual 61, 3) := by decide +kernel
theorem dX4_back_16 : decode cX4_back 16 = .ok (.ireturn, 1) := by decide +kernel
theorem dX4_back_17 : decode cX4_back 17 = .ok (.aload_n 0, 1) := by decide +kernel
theorem dX4_back_18 : decode cX4_back 18 = .ok (.getfield 29, 3) := by decide +kernel
theorem dX4_back_21 : decode cX4_back 21 = .ok (.aload_n 0, 1) := by decide +kernel
theorem dX4_back_22 : decode cX4_back 22 = .ok (.getfield 12, 3) := by decide +kernel
theorem dX4_back_25 : decode cX4_back 25 = .ok (.invokevirtual 187, 3) := by decide +kernel
theorem dX4_back_28 : decode cX4_back 28 = .ok (.aload_n 0, 1) := by decide +kernel
theorem dX4_back_29 : decode cX4_back 29 = .ok (.getfield 29, 3) := by decide +kernel
theorem dX4_back_32 : decode cX4_back 32 = .ok (.getfield 186, 3) := by decide +kernel
theorem dX4_back_35 : decode cX4_back 35 = .ok (.ireturn, 1) := by decide +kernel
theorem dX4_frostIn_0 : decode cX4_frostIn 0 = .ok (.aload_n 0, 1) := by decide +kernel
theorem dX4_frostIn_1 : decode cX4_frostIn 1 = .ok (.iload_n 1, 1) := by decide +kernel
theorem dX4_frostIn_2 : decode cX4_frostIn 2 = .ok (.invokevirtual 127, 3) := by decide +kernel
theorem dX4_frostIn_5 : decode cX4_frostIn 5 = .ok (.ifCond .eq 9, 3) := by decide +kernel
theorem dX4_frostIn_8 : decode cX4_frostIn 8 = .ok (.aload_n 0, 1) := by decide +kernel
theorem dX4_frostIn_9 : decode cX4_frostIn 9 = .ok (.iconst (-1), 1) := by decide +kernel
theorem dX4_frostIn_10 : decode cX4_frostIn 10 = .ok (.invokevirtual 61, 3) := by decide +kernel
theorem dX4_frostIn_13 : decode cX4_frostIn 13 = .ok (.ireturn, 1) := by decide +kernel
theorem dX4_frostIn_14 : decode cX4_frostIn 14 = .ok (.iload_n 2, 1) := by decide +kernel
theorem dX4_frostIn_15 : decode cX4_frostIn 15 = .ok (.iconst 0, 1) := by decide +kernel
theorem dX4_frostIn_16 : decode cX4_frostIn 16 = .ok (.bipush 72, 2) := by decide +kernel
theorem dX4_frostIn_18 : decode cX4_frostIn 18 = .ok (.invokestatic 57, 3) := by decide +kernel
theorem dX4_frostIn_21 : decode cX4_frostIn 21 = .ok (.istore_n 3, 1) := by decide +kernel
theorem dX4_frostIn_22 : decode cX4_frostIn 22 = .ok (.iload_n 3, 1) := by decide +kernel
theorem dX4_frostIn_23 : decode cX4_frostIn 23 = .ok (.ifCond .eq 9, 3) := by decide +kernel
theorem dX4_frostIn_26 : decode cX4_frostIn 26 = .ok (.aload_n 0, 1) := by decide +kernel
theorem dX4_frostIn_27 : decode cX4_frostIn 27 = .ok (.iload_n 3, 1) := by decide +kernel
theorem dX4_frostIn_28 : decode cX4_frostIn 28 = .ok (.invokevirtual 61, 3) := by decide +kernel
theorem dX4_frostIn_31 : decode cX4_frostIn 31 = .ok (.ireturn, 1) := by decide +kernel
theorem dX4_frostIn_32 : decode cX4_frostIn 32 = .ok (.aload_n 0, 1) := by decide +kernel
theorem dX4_frostIn_33 : decode cX4_frostIn 33 = .ok (.iload_n 2, 1) := by decide +kernel
theorem dX4_frostIn_34 : decode cX4_frostIn 34 = .ok (.invokevirtual 190, 3) := by decide +kernel
theorem dX4_frostIn_37 : decode cX4_frostIn 37 = .ok (.aload_n 0, 1) := by decide +kernel
theorem dX4_frostIn_38 : decode cX4_frostIn 38 = .ok (.getfield 16, 3) := by decide +kernel
theorem dX4_frostIn_41 : decode cX4_frostIn 41 = .ok (.getfield 136, 3) := by decide +kernel
theorem dX4_frostIn_44 : decode cX4_frostIn 44 = .ok (.iload_n 1, 1) := by decide +kernel
theorem dX4_frostIn_45 : decode cX4_frostIn 45 = .ok (.iaload, 1) := by decide +kernel
theorem dX4_frostIn_46 : decode cX4_frostIn 46 = .ok (.ireturn, 1) := by decide +kernel
theorem dX4_trainIn_0 : decode cX4_trainIn 0 = .ok (.aload_n 0, 1) := by decide +kernel
theorem dX4_trainIn_1 : decode cX4_trainIn 1 = .ok (.iload_n 1, 1) := by decide +kernel
theorem dX4_trainIn_2 : decode cX4_trainIn 2 = .ok (.invokevirtual 162, 3) := by decide +kernel
theorem dX4_trainIn_5 : decode cX4_trainIn 5 = .ok (.ifCond .eq 9, 3) := by decide +kernel
theorem dX4_trainIn_8 : decode cX4_trainIn 8 = .ok (.aload_n 0, 1) := by decide +kernel
theorem dX4_trainIn_9 : decode cX4_trainIn 9 = .ok (.iconst (-1), 1) := by decide +kernel
theorem dX4_trainIn_10 : decode cX4_trainIn 10 = .ok (.invokevirtual 61, 3) := by decide +kernel
theorem dX4_trainIn_13 : decode cX4_trainIn 13 = .ok (.ireturn, 1) := by decide +kernel
theorem dX4_trainIn_14 : decode cX4_trainIn 14 = .ok (.iload_n 2, 1) := by decide +kernel
theorem dX4_trainIn_15 : decode cX4_trainIn 15 = .ok (.iconst 0, 1) := by decide +kernel
theorem dX4_trainIn_16 : decode cX4_trainIn 16 = .ok (.bipush 72, 2) := by decide +kernel
theorem dX4_trainIn_18 : decode cX4_trainIn 18 = .ok (.invokestatic 57, 3) := by decide +kernel
theorem dX4_trainIn_21 : decode cX4_trainIn 21 = .ok (.istore 4, 2) := by decide +kernel
theorem dX4_trainIn_23 : decode cX4_trainIn 23 = .ok (.iload 4, 2) := by decide +kernel
theorem dX4_trainIn_25 : decode cX4_trainIn 25 = .ok (.ifCond .eq 10, 3) := by decide +kernel
theorem dX4_trainIn_28 : decode cX4_trainIn 28 = .ok (.aload_n 0, 1) := by decide +kernel
theorem dX4_trainIn_29 : decode cX4_trainIn 29 = .ok (.iload 4, 2) := by decide +kernel
theorem dX4_trainIn_31 : decode cX4_trainIn 31 = .ok (.invokevirtual 61, 3) := by decide +kernel
theorem dX4_trainIn_34 : decode cX4_trainIn 34 = .ok (.ireturn, 1) := by decide +kernel
theorem dX4_trainIn_35 : decode cX4_trainIn 35 = .ok (.iload_n 3, 1) := by decide +kernel
theorem dX4_trainIn_36 : decode cX4_trainIn 36 = .ok (.ifCond .lt 8, 3) := by decide +kernel
theorem dX4_trainIn_39 : decode cX4_trainIn 39 = .ok (.iload_n 3, 1) := by decide +kernel
theorem dX4_trainIn_40 : decode cX4_trainIn 40 = .ok (.iconst 2, 1) := by decide +kernel
theorem dX4_trainIn_41 : decode cX4_trainIn 41 = .ok (.if_icmp .le 10, 3) := by decide +kernel
theorem dX4_trainIn_44 : decode cX4_trainIn 44 = .ok (.aload_n 0, 1) := by decide +kernel
theorem dX4_trainIn_45 : decode cX4_trainIn 45 = .ok (.bipush (-2), 2) := by decide +kernel
theorem dX4_trainIn_47 : decode cX4_trainIn 47 = .ok (.invokevirtual 61, 3) := by decide +kernel
theorem dX4_trainIn_50 : decode cX4_trainIn 50 = .ok (.ireturn, 1) := by decide +kernel
theorem dX4_trainIn_51 : decode cX4_trainIn 51 = .ok (.aload_n 0, 1) := by decide +kernel
theorem dX4_trainIn_52 : decode cX4_trainIn 52 = .ok (.iload_n 2, 1) := by decide +kernel
theorem dX4_trainIn_53 : decode cX4_trainIn 53 = .ok (.invokevirtual 190, 3) := by decide +kernel
theorem dX4_trainIn_56 : decode cX4_trainIn 56 = .ok (.iload_n 3, 1) := by decide +kernel
theorem dX4_trainIn_57 : decode cX4_trainIn 57 = .ok (.ifCond .ne 13, 3) := by decide +kernel
theorem dX4_trainIn_60 : decode cX4_trainIn 60 = .ok (.aload_n 0, 1) := by decide +kernel
theorem dX4_trainIn_61 : decode cX4_trainIn 61 = .ok (.getfield 16, 3) := by decide +kernel
theorem dX4_trainIn_64 : decode cX4_trainIn 64 = .ok (.getfield 180, 3) := by decide +kernel
theorem dX4_trainIn_67 : decode cX4_trainIn 67 = .ok (.iload_n 1, 1) := by decide +kernel
theorem dX4_trainIn_68 : decode cX4_trainIn 68 = .ok (.iaload, 1) := by decide +kernel
theorem dX4_trainIn_69 : decode cX4_trainIn 69 = .ok (.ireturn, 1) := by decide +kernel
theorem dX4_trainIn_70 : decode cX4_trainIn 70 = .ok (.iload_n 3, 1) := by decide +kernel
theorem dX4_trainIn_71 : decode cX4_trainIn 71 = .ok (.iconst 1, 1) := by decide +kernel
theorem dX4_trainIn_72 : decode cX4_trainIn 72 = .ok (.if_icmp .ne 15, 3) := by decide +kernel
theorem dX4_trainIn_75 : decode cX4_trainIn 75 = .ok (.aload_n 0, 1) := by decide +kernel
theorem dX4_trainIn_76 : decode cX4_trainIn 76 = .ok (.getfield 16, 3) := by decide +kernel
theorem dX4_trainIn_79 : decode cX4_trainIn 79 = .ok (.getfield 174, 3) := by decide +kernel
theorem dX4_trainIn_82 : decode cX4_trainIn 82 = .ok (.iload_n 1, 1) := by decide +kernel
theorem dX4_trainIn_83 : decode cX4_trainIn 83 = .ok (.iaload, 1) := by decide +kernel
theorem dX4_trainIn_84 : decode cX4_trainIn 84 = .ok (.goto 12, 3) := by decide +kernel
theorem dX4_trainIn_87 : decode cX4_trainIn 87 = .ok (.aload_n 0, 1) := by decide +kernel
theorem dX4_trainIn_88 : decode cX4_trainIn 88 = .ok (.getfield 16, 3) := by decide +kernel
theorem dX4_trainIn_91 : decode cX4_trainIn 91 = .ok (.getfield 193, 3) := by decide +kernel
theorem dX4_trainIn_94 : decode cX4_trainIn 94 = .ok (.iload_n 1, 1) := by decide +kernel
theorem dX4_trainIn_95 : decode cX4_trainIn 95 = .ok (.iaload, 1) := by decide +kernel
theorem dX4_trainIn_96 : decode cX4_trainIn 96 = .ok (.ireturn, 1) := by decide +kernel
theorem dX4_through_0 : decode cX4_through 0 = .ok (.iload_n 1, 1) := by decide +kernel
theorem dX4_through_1 : decode cX4_through 1 = .ok (.iconst 0, 1) := by decide +kernel
theorem dX4_through_2 : decode cX4_through 2 = .ok (.bipush 72, 2) := by decide +kernel
theorem dX4_through_4 : decode cX4_through 4 = .ok (.invokestatic 57, 3) := by decide +kernel
theorem dX4_through_7 : decode cX4_through 7 = .ok (.istore_n 3, 1) := by decide +kernel
theorem dX4_through_8 : decode cX4_through 8 = .ok (.iload_n 3, 1) := by decide +kernel
theorem dX4_through_9 : decode cX4_through 9 = .ok (.ifCond .eq 9, 3) := by decide +kernel
theorem dX4_through_12 : decode cX4_through 12 = .ok (.aload_n 0, 1) := by decide +kernel
theorem dX4_through_13 : decode cX4_through 13 = .ok (.iload_n 3, 1) := by decide +kernel
theorem dX4_through_14 : decode cX4_through 14 = .ok (.invokevirtual 61, 3) := by decide +kernel
theorem dX4_through_17 : decode cX4_through 17 = .ok (.ireturn, 1) := by decide +kernel
theorem dX4_through_18 : decode cX4_through 18 = .ok (.iload_n 2, 1) := by decide +kernel
theorem dX4_through_19 : decode cX4_through 19 = .ok (.invokestatic 153, 3) := by decide +kernel
theorem dX4_through_22 : decode cX4_through 22 = .ok (.ifCond .eq 10, 3) := by decide +kernel
theorem dX4_through_25 : decode cX4_through 25 = .ok (.aload_n 0, 1) := by decide +kernel
theorem dX4_through_26 : decode cX4_through 26 = .ok (.bipush (-2), 2) := by decide +kernel
theorem dX4_through_28 : decode cX4_through 28 = .ok (.invokevirtual 61, 3) := by decide +kernel
theorem dX4_through_31 : decode cX4_through 31 = .ok (.ireturn, 1) := by decide +kernel
theorem dX4_through_32 : decode cX4_through 32 = .ok (.aload_n 0, 1) := by decide +kernel
theorem dX4_through_33 : decode cX4_through 33 = .ok (.iload_n 1, 1) := by decide +kernel
theorem dX4_through_34 : decode cX4_through 34 = .ok (.invokevirtual 190, 3) := by decide +kernel
theorem dX4_through_37 : decode cX4_through 37 = .ok (.aload_n 0, 1) := by decide +kernel
theorem dX4_through_38 : decode cX4_through 38 = .ok (.getfield 16, 3) := by decide +kernel
theorem dX4_through_41 : decode cX4_through 41 = .ok (.iload_n 2, 1) := by decide +kernel
theorem dX4_through_42 : decode cX4_through 42 = .ok (.ifCond .ne 7, 3) := by decide +kernel
theorem dX4_through_45 : decode cX4_through 45 = .ok (.iconst 1, 1) := by decide +kernel
theorem dX4_through_46 : decode cX4_through 46 = .ok (.goto 4, 3) := by decide +kernel
theorem dX4_through_49 : decode cX4_through 49 = .ok (.iconst 2, 1) := by decide +kernel
theorem dX4_through_50 : decode cX4_through 50 = .ok (.invokevirtual 183, 3) := by decide +kernel
theorem dX4_through_53 : decode cX4_through 53 = .ok (.ireturn, 1) := by decide +kernel
theorem dX4_thin_0 : decode cX4_thin 0 = .ok (.iload_n 1, 1) := by decide +kernel
theorem dX4_thin_1 : decode cX4_thin 1 = .ok (.ifCond .lt 8, 3) := by decide +kernel
theorem dX4_thin_4 : decode cX4_thin 4 = .ok (.iload_n 2, 1) := by decide +kernel
theorem dX4_thin_5 : decode cX4_thin 5 = .ok (.iconst 1, 1) := by decide +kernel
theorem dX4_thin_6 : decode cX4_thin 6 = .ok (.if_icmp .ge 10, 3) := by decide +kernel
theorem dX4_thin_9 : decode cX4_thin 9 = .ok (.aload_n 0, 1) := by decide +kernel
theorem dX4_thin_10 : decode cX4_thin 10 = .ok (.bipush (-4), 2) := by decide +kernel
theorem dX4_thin_12 : decode cX4_thin 12 = .ok (.invokevirtual 61, 3) := by decide +kernel
theorem dX4_thin_15 : decode cX4_thin 15 = .ok (.ireturn, 1) := by decide +kernel
theorem dX4_thin_16 : decode cX4_thin 16 = .ok (.iload_n 1, 1) := by decide +kernel
theorem dX4_thin_17 : decode cX4_thin 17 = .ok (.bipush 72, 2) := by decide +kernel
theorem dX4_thin_19 : decode cX4_thin 19 = .ok (.if_icmp .gt 9, 3) := by decide +kernel
theorem dX4_thin_22 : decode cX4_thin 22 = .ok (.iload_n 2, 1) := by decide +kernel
theorem dX4_thin_23 : decode cX4_thin 23 = .ok (.bipush 60, 2) := by decide +kernel
theorem dX4_thin_25 : decode cX4_thin 25 = .ok (.if_icmp .le 10, 3) := by decide +kernel
theorem dX4_thin_28 : decode cX4_thin 28 = .ok (.aload_n 0, 1) := by decide +kernel
theorem dX4_thin_29 : decode cX4_thin 29 = .ok (.bipush (-6), 2) := by decide +kernel
theorem dX4_thin_31 : decode cX4_thin 31 = .ok (.invokevirtual 61, 3) := by decide +kernel
theorem dX4_thin_34 : decode cX4_thin 34 = .ok (.ireturn, 1) := by decide +kernel
theorem dX4_thin_35 : decode cX4_thin 35 = .ok (.aload_n 0, 1) := by decide +kernel
theorem dX4_thin_36 : decode cX4_thin 36 = .ok (.iload_n 1, 1) := by decide +kernel
theorem dX4_thin_37 : decode cX4_thin 37 = .ok (.invokevirtual 190, 3) := by decide +kernel
theorem dX4_thin_40 : decode cX4_thin 40 = .ok (.iconst 0, 1) := by decide +kernel
theorem dX4_thin_41 : decode cX4_thin 41 = .ok (.istore_n 3, 1) := by decide +kernel
theorem dX4_thin_42 : decode cX4_thin 42 = .ok (.iload_n 3, 1) := by decide +kernel
theorem dX4_thin_43 : decode cX4_thin 43 = .ok (.aload_n 0, 1) := by decide +kernel
theorem dX4_thin_44 : decode cX4_thin 44 = .ok (.getfield 16, 3) := by decide +kernel
theorem dX4_thin_47 : decode cX4_thin 47 = .ok (.getfield 156, 3) := by decide +kernel
theorem dX4_thin_50 : decode cX4_thin 50 = .ok (.if_icmp .ge 23, 3) := by decide +kernel
theorem dX4_thin_53 : decode cX4_thin 53 = .ok (.aload_n 0, 1) := by decide +kernel
theorem dX4_thin_54 : decode cX4_thin 54 = .ok (.getfield 16, 3) := by decide +kernel
theorem dX4_thin_57 : decode cX4_thin 57 = .ok (.iload_n 3, 1) := by decide +kernel
theorem dX4_thin_58 : decode cX4_thin 58 = .ok (.iload_n 2, 1) := by decide +kernel
theorem dX4_thin_59 : decode cX4_thin 59 = .ok (.invokevirtual 196, 3) := by decide +kernel
theorem dX4_thin_62 : decode cX4_thin 62 = .ok (.ifCond .ne 5, 3) := by decide +kernel
theorem dX4_thin_65 : decode cX4_thin 65 = .ok (.iload_n 3, 1) := by decide +kernel
theorem dX4_thin_66 : decode cX4_thin 66 = .ok (.ireturn, 1) := by decide +kernel
theorem dX4_thin_67 : decode cX4_thin 67 = .ok (.iinc 3 1, 3) := by decide +kernel
theorem dX4_thin_70 : decode cX4_thin 70 = .ok (.goto (-28), 3) := by decide +kernel
theorem dX4_thin_73 : decode cX4_thin 73 = .ok (.bipush (-9), 2) := by decide +kernel
theorem dX4_thin_75 : decode cX4_thin 75 = .ok (.ireturn, 1) := by decide +kernel
theorem dX4_lasts_0 : decode cX4_lasts 0 = .ok (.aload_n 0, 1) := by decide +kernel
theorem dX4_lasts_1 : decode cX4_lasts 1 = .ok (.iload_n 1, 1) := by decide +kernel
theorem dX4_lasts_2 : decode cX4_lasts 2 = .ok (.invokevirtual 127, 3) := by decide +kernel
theorem dX4_lasts_5 : decode cX4_lasts 5 = .ok (.ifCond .eq 9, 3) := by decide +kernel
theorem dX4_lasts_8 : decode cX4_lasts 8 = .ok (.aload_n 0, 1) := by decide +kernel
theorem dX4_lasts_9 : decode cX4_lasts 9 = .ok (.iconst (-1), 1) := by decide +kernel
theorem dX4_lasts_10 : decode cX4_lasts 10 = .ok (.invokevirtual 61, 3) := by decide +kernel
theorem dX4_lasts_13 : decode cX4_lasts 13 = .ok (.ireturn, 1) := by decide +kernel
theorem dX4_lasts_14 : decode cX4_lasts 14 = .ok (.iload_n 2, 1) := by decide +kernel
theorem dX4_lasts_15 : decode cX4_lasts 15 = .ok (.iconst 1, 1) := by decide +kernel
theorem dX4_lasts_16 : decode cX4_lasts 16 = .ok (.bipush 60, 2) := by decide +kernel
theorem dX4_lasts_18 : decode cX4_lasts 18 = .ok (.invokestatic 57, 3) := by decide +kernel
theorem dX4_lasts_21 : decode cX4_lasts 21 = .ok (.istore_n 3, 1) := by decide +kernel
theorem dX4_lasts_22 : decode cX4_lasts 22 = .ok (.iload_n 3, 1) := by decide +kernel
theorem dX4_lasts_23 : decode cX4_lasts 23 = .ok (.ifCond .eq 9, 3) := by decide +kernel
theorem dX4_lasts_26 : decode cX4_lasts 26 = .ok (.aload_n 0, 1) := by decide +kernel
theorem dX4_lasts_27 : decode cX4_lasts 27 = .ok (.iload_n 3, 1) := by decide +kernel
theorem dX4_lasts_28 : decode cX4_lasts 28 = .ok (.invokevirtual 61, 3) := by decide +kernel
theorem dX4_lasts_31 : decode cX4_lasts 31 = .ok (.ireturn, 1) := by decide +kernel
theorem dX4_lasts_32 : decode cX4_lasts 32 = .ok (.aload_n 0, 1) := by decide +kernel
theorem dX4_lasts_33 : decode cX4_lasts 33 = .ok (.getfield 16, 3) := by decide +kernel
theorem dX4_lasts_36 : decode cX4_lasts 36 = .ok (.aload_n 0, 1) := by decide +kernel
theorem dX4_lasts_37 : decode cX4_lasts 37 = .ok (.getfield 12, 3) := by decide +kernel
theorem dX4_lasts_40 : decode cX4_lasts 40 = .ok (.invokevirtual 79, 3) := by decide +kernel
theorem dX4_lasts_43 : decode cX4_lasts 43 = .ok (.aload_n 0, 1) := by decide +kernel
theorem dX4_lasts_44 : decode cX4_lasts 44 = .ok (.getfield 16, 3) := by decide +kernel
theorem dX4_lasts_47 : decode cX4_lasts 47 = .ok (.invokevirtual 199, 3) := by decide +kernel
theorem dX4_lasts_50 : decode cX4_lasts 50 = .ok (.iconst 0, 1) := by decide +kernel
theorem dX4_lasts_51 : decode cX4_lasts 51 = .ok (.istore 4, 2) := by decide +kernel
theorem dX4_lasts_53 : decode cX4_lasts 53 = .ok (.iload 4, 2) := by decide +kernel
theorem dX4_lasts_55 : decode cX4_lasts 55 = .ok (.bipush 72, 2) := by decide +kernel
theorem dX4_lasts_57 : decode cX4_lasts 57 = .ok (.if_icmp .gt 31, 3) := by decide +kernel
theorem dX4_lasts_60 : decode cX4_lasts 60 = .ok (.aload_n 0, 1) := by decide +kernel
theorem dX4_lasts_61 : decode cX4_lasts 61 = .ok (.getfield 16, 3) := by decide +kernel
theorem dX4_lasts_64 : decode cX4_lasts 64 = .ok (.iload_n 1, 1) := by decide +kernel
theorem dX4_lasts_65 : decode cX4_lasts 65 = .ok (.iload_n 2, 1) := by decide +kernel
theorem dX4_lasts_66 : decode cX4_lasts 66 = .ok (.invokevirtual 196, 3) := by decide +kernel
theorem dX4_lasts_69 : decode cX4_lasts 69 = .ok (.ifCond .ne 6, 3) := by decide +kernel
theorem dX4_lasts_72 : decode cX4_lasts 72 = .ok (.iload 4, 2) := by decide +kernel
theorem dX4_lasts_74 : decode cX4_lasts 74 = .ok (.ireturn, 1) := by decide +kernel
theorem dX4_lasts_75 : decode cX4_lasts 75 = .ok (.aload_n 0, 1) := by decide +kernel
theorem dX4_lasts_76 : decode cX4_lasts 76 = .ok (.getfield 16, 3) := by decide +kernel
theorem dX4_lasts_79 : decode cX4_lasts 79 = .ok (.invokevirtual 202, 3) := by decide +kernel
theorem dX4_lasts_82 : decode cX4_lasts 82 = .ok (.iinc 4 1, 3) := by decide +kernel
theorem dX4_lasts_85 : decode cX4_lasts 85 = .ok (.goto (-32), 3) := by decide +kernel
theorem dX4_lasts_88 : decode cX4_lasts 88 = .ok (.bipush (-9), 2) := by decide +kernel
theorem dX4_lasts_90 : decode cX4_lasts 90 = .ok (.ireturn, 1) := by decide +kernel
theorem dX4_lowest_0 : decode cX4_lowest 0 = .ok (.iload_n 1, 1) := by decide +kernel
theorem dX4_lowest_1 : decode cX4_lowest 1 = .ok (.iconst 0, 1) := by decide +kernel
theorem dX4_lowest_2 : decode cX4_lowest 2 = .ok (.bipush 72, 2) := by decide +kernel
theorem dX4_lowest_4 : decode cX4_lowest 4 = .ok (.invokestatic 57, 3) := by decide +kernel
theorem dX4_lowest_7 : decode cX4_lowest 7 = .ok (.istore_n 3, 1) := by decide +kernel
theorem dX4_lowest_8 : decode cX4_lowest 8 = .ok (.iload_n 3, 1) := by decide +kernel
theorem dX4_lowest_9 : decode cX4_lowest 9 = .ok (.ifCond .eq 9, 3) := by decide +kernel
theorem dX4_lowest_12 : decode cX4_lowest 12 = .ok (.aload_n 0, 1) := by decide +kernel
theorem dX4_lowest_13 : decode cX4_lowest 13 = .ok (.iload_n 3, 1) := by decide +kernel
theorem dX4_lowest_14 : decode cX4_lowest 14 = .ok (.invokevirtual 61, 3) := by decide +kernel
theorem dX4_lowest_17 : decode cX4_lowest 17 = .ok (.ireturn, 1) := by decide +kernel
theorem dX4_lowest_18 : decode cX4_lowest 18 = .ok (.iload_n 2, 1) := by decide +kernel
theorem dX4_lowest_19 : decode cX4_lowest 19 = .ok (.invokestatic 153, 3) := by decide +kernel
theorem dX4_lowest_22 : decode cX4_lowest 22 = .ok (.ifCond .eq 10, 3) := by decide +kernel
theorem dX4_lowest_25 : decode cX4_lowest 25 = .ok (.aload_n 0, 1) := by decide +kernel
theorem dX4_lowest_26 : decode cX4_lowest 26 = .ok (.bipush (-2), 2) := by decide +kernel
theorem dX4_lowest_28 : decode cX4_lowest 28 = .ok (.invokevirtual 61, 3) := by decide +kernel
theorem dX4_lowest_31 : decode cX4_lowest 31 = .ok (.ireturn, 1) := by decide +kernel
theorem dX4_lowest_32 : decode cX4_lowest 32 = .ok (.aload_n 0, 1) := by decide +kernel
theorem dX4_lowest_33 : decode cX4_lowest 33 = .ok (.iload_n 1, 1) := by decide +kernel
theorem dX4_lowest_34 : decode cX4_lowest 34 = .ok (.invokevirtual 190, 3) := by decide +kernel
theorem dX4_lowest_37 : decode cX4_lowest 37 = .ok (.aload_n 0, 1) := by decide +kernel
theorem dX4_lowest_38 : decode cX4_lowest 38 = .ok (.getfield 16, 3) := by decide +kernel
theorem dX4_lowest_41 : decode cX4_lowest 41 = .ok (.invokevirtual 205, 3) := by decide +kernel
theorem dX4_lowest_44 : decode cX4_lowest 44 = .ok (.istore 4, 2) := by decide +kernel
theorem dX4_lowest_46 : decode cX4_lowest 46 = .ok (.iload_n 2, 1) := by decide +kernel
theorem dX4_lowest_47 : decode cX4_lowest 47 = .ok (.ifCond .ne 16, 3) := by decide +kernel
theorem dX4_lowest_50 : decode cX4_lowest 50 = .ok (.aload_n 0, 1) := by decide +kernel
theorem dX4_lowest_51 : decode cX4_lowest 51 = .ok (.getfield 16, 3) := by decide +kernel
theorem dX4_lowest_54 : decode cX4_lowest 54 = .ok (.getfield 136, 3) := by decide +kernel
theorem dX4_lowest_57 : decode cX4_lowest 57 = .ok (.iload 4, 2) := by decide +kernel
theorem dX4_lowest_59 : decode cX4_lowest 59 = .ok (.iaload, 1) := by decide +kernel
theorem dX4_lowest_60 : decode cX4_lowest 60 = .ok (.goto 5, 3) := by decide +kernel
theorem dX4_lowest_63 : decode cX4_lowest 63 = .ok (.iload 4, 2) := by decide +kernel
theorem dX4_lowest_65 : decode cX4_lowest 65 = .ok (.ireturn, 1) := by decide +kernel
theorem dX4_last_0 : decode cX4_last 0 = .ok (.aload_n 0, 1) := by decide +kernel
theorem dX4_last_1 : decode cX4_last 1 = .ok (.iload_n 1, 1) := by decide +kernel
theorem dX4_last_2 : decode cX4_last 2 = .ok (.invokevirtual 208, 3) := by decide +kernel
theorem dX4_last_5 : decode cX4_last 5 = .ok (.istore_n 2, 1) := by decide +kernel
theorem dX4_last_6 : decode cX4_last 6 = .ok (.iload_n 2, 1) := by decide +kernel
theorem dX4_last_7 : decode cX4_last 7 = .ok (.ifCond .eq 9, 3) := by decide +kernel
theorem dX4_last_10 : decode cX4_last 10 = .ok (.aload_n 0, 1) := by decide +kernel
theorem dX4_last_11 : decode cX4_last 11 = .ok (.iload_n 2, 1) := by decide +kernel
theorem dX4_last_12 : decode cX4_last 12 = .ok (.invokevirtual 61, 3) := by decide +kernel
theorem dX4_last_15 : decode cX4_last 15 = .ok (.ireturn, 1) := by decide +kernel
theorem dX4_last_16 : decode cX4_last 16 = .ok (.bipush 48, 2) := by decide +kernel
theorem dX4_last_18 : decode cX4_last 18 = .ok (.istore_n 3, 1) := by decide +kernel
theorem dX4_last_19 : decode cX4_last 19 = .ok (.iload_n 3, 1) := by decide +kernel
theorem dX4_last_20 : decode cX4_last 20 = .ok (.ifCond .lt 40, 3) := by decide +kernel
theorem dX4_last_23 : decode cX4_last 23 = .ok (.aload_n 0, 1) := by decide +kernel
theorem dX4_last_24 : decode cX4_last 24 = .ok (.getfield 16, 3) := by decide +kernel
theorem dX4_last_27 : decode cX4_last 27 = .ok (.aload_n 0, 1) := by decide +kernel
theorem dX4_last_28 : decode cX4_last 28 = .ok (.getfield 12, 3) := by decide +kernel
theorem dX4_last_31 : decode cX4_last 31 = .ok (.invokevirtual 79, 3) := by decide +kernel
theorem dX4_last_34 : decode cX4_last 34 = .ok (.aload_n 0, 1) := by decide +kernel
theorem dX4_last_35 : decode cX4_last 35 = .ok (.getfield 16, 3) := by decide +kernel
theorem dX4_last_38 : decode cX4_last 38 = .ok (.getfield 177, 3) := by decide +kernel
theorem dX4_last_41 : decode cX4_last 41 = .ok (.iload_n 1, 1) := by decide +kernel
theorem dX4_last_42 : decode cX4_last 42 = .ok (.iload_n 3, 1) := by decide +kernel
theorem dX4_last_43 : decode cX4_last 43 = .ok (.iastore, 1) := by decide +kernel
theorem dX4_last_44 : decode cX4_last 44 = .ok (.aload_n 0, 1) := by decide +kernel
theorem dX4_last_45 : decode cX4_last 45 = .ok (.iload_n 1, 1) := by decide +kernel
theorem dX4_last_46 : decode cX4_last 46 = .ok (.invokevirtual 211, 3) := by decide +kernel
theorem dX4_last_49 : decode cX4_last 49 = .ok (.ifCond .eq 5, 3) := by decide +kernel
theorem dX4_last_52 : decode cX4_last 52 = .ok (.iload_n 3, 1) := by decide +kernel
theorem dX4_last_53 : decode cX4_last 53 = .ok (.ireturn, 1) := by decide +kernel
theorem dX4_last_54 : decode cX4_last 54 = .ok (.iinc 3 (-1), 3) := by decide +kernel
theorem dX4_last_57 : decode cX4_last 57 = .ok (.goto (-38), 3) := by decide +kernel
theorem dX4_last_60 : decode cX4_last 60 = .ok (.bipush (-9), 2) := by decide +kernel
theorem dX4_last_62 : decode cX4_last 62 = .ok (.ireturn, 1) := by decide +kernel
theorem dX4_bestWait_0 : decode cX4_bestWait 0 = .ok (.aload_n 0, 1) := by decide +kernel
theorem dX4_bestWait_1 : decode cX4_bestWait 1 = .ok (.iload_n 1, 1) := by decide +kernel
theorem dX4_bestWait_2 : decode cX4_bestWait 2 = .ok (.invokevirtual 162, 3) := by decide +kernel
theorem dX4_bestWait_5 : decode cX4_bestWait 5 = .ok (.ifCond .eq 9, 3) := by decide +kernel
theorem dX4_bestWait_8 : decode cX4_bestWait 8 = .ok (.aload_n 0, 1) := by decide +kernel
theorem dX4_bestWait_9 : decode cX4_bestWait 9 = .ok (.iconst (-1), 1) := by decide +kernel
theorem dX4_bestWait_10 : decode cX4_bestWait 10 = .ok (.invokevirtual 61, 3) := by decide +kernel
theorem dX4_bestWait_13 : decode cX4_bestWait 13 = .ok (.ireturn, 1) := by decide +kernel
theorem dX4_bestWait_14 : decode cX4_bestWait 14 = .ok (.iload_n 2, 1) := by decide +kernel
theorem dX4_bestWait_15 : decode cX4_bestWait 15 = .ok (.invokestatic 153, 3) := by decide +kernel
theorem dX4_bestWait_18 : decode cX4_bestWait 18 = .ok (.ifCond .eq 10, 3) := by decide +kernel
theorem dX4_bestWait_21 : decode cX4_bestWait 21 = .ok (.aload_n 0, 1) := by decide +kernel
theorem dX4_bestWait_22 : decode cX4_bestWait 22 = .ok (.bipush (-2), 2) := by decide +kernel
theorem dX4_bestWait_24 : decode cX4_bestWait 24 = .ok (.invokevirtual 61, 3) := by decide +kernel
theorem dX4_bestWait_27 : decode cX4_bestWait 27 = .ok (.ireturn, 1) := by decide +kernel
theorem dX4_bestWait_28 : decode cX4_bestWait 28 = .ok (.aload_n 0, 1) := by decide +kernel
theorem dX4_bestWait_29 : decode cX4_bestWait 29 = .ok (.iload_n 1, 1) := by decide +kernel
theorem dX4_bestWait_30 : decode cX4_bestWait 30 = .ok (.invokevirtual 208, 3) := by decide +kernel
theorem dX4_bestWait_33 : decode cX4_bestWait 33 = .ok (.istore_n 3, 1) := by decide +kernel
theorem dX4_bestWait_34 : decode cX4_bestWait 34 = .ok (.iload_n 3, 1) := by decide +kernel
theorem dX4_bestWait_35 : decode cX4_bestWait 35 = .ok (.ifCond .eq 9, 3) := by decide +kernel
theorem dX4_bestWait_38 : decode cX4_bestWait 38 = .ok (.aload_n 0, 1) := by decide +kernel
theorem dX4_bestWait_39 : decode cX4_bestWait 39 = .ok (.iload_n 3, 1) := by decide +kernel
theorem dX4_bestWait_40 : decode cX4_bestWait 40 = .ok (.invokevirtual 61, 3) := by decide +kernel
theorem dX4_bestWait_43 : decode cX4_bestWait 43 = .ok (.ireturn, 1) := by decide +kernel
theorem dX4_bestWait_44 : decode cX4_bestWait 44 = .ok (.bipush (-9), 2) := by decide +kernel
theorem dX4_bestWait_46 : decode cX4_bestWait 46 = .ok (.istore 4, 2) := by decide +kernel
theorem dX4_bestWait_48 : decode cX4_bestWait 48 = .ok (.bipush (-9), 2) := by decide +kernel
theorem dX4_bestWait_50 : decode cX4_bestWait 50 = .ok (.istore 5, 2) := by decide +kernel
theorem dX4_bestWait_52 : decode cX4_bestWait 52 = .ok (.iconst 0, 1) := by decide +kernel
theorem dX4_bestWait_53 : decode cX4_bestWait 53 = .ok (.istore 6, 2) := by decide +kernel
theorem dX4_bestWait_55 : decode cX4_bestWait 55 = .ok (.iload 6, 2) := by decide +kernel
theorem dX4_bestWait_57 : decode cX4_bestWait 57 = .ok (.bipush 48, 2) := by decide +kernel
theorem dX4_bestWait_59 : decode cX4_bestWait 59 = .ok (.if_icmp .gt 75, 3) := by decide +kernel
theorem dX4_bestWait_62 : decode cX4_bestWait 62 = .ok (.aload_n 0, 1) := by decide +kernel
theorem dX4_bestWait_63 : decode cX4_bestWait 63 = .ok (.getfield 16, 3) := by decide +kernel
theorem dX4_bestWait_66 : decode cX4_bestWait 66 = .ok (.aload_n 0, 1) := by decide +kernel
theorem dX4_bestWait_67 : decode cX4_bestWait 67 = .ok (.getfield 12, 3) := by decide +kernel
theorem dX4_bestWait_70 : decode cX4_bestWait 70 = .ok (.invokevirtual 79, 3) := by decide +kernel
theorem dX4_bestWait_73 : decode cX4_bestWait 73 = .ok (.aload_n 0, 1) := by decide +kernel
theorem dX4_bestWait_74 : decode cX4_bestWait 74 = .ok (.getfield 16, 3) := by decide +kernel
theorem dX4_bestWait_77 : decode cX4_bestWait 77 = .ok (.getfield 177, 3) := by decide +kernel
theorem dX4_bestWait_80 : decode cX4_bestWait 80 = .ok (.iload_n 1, 1) := by decide +kernel
theorem dX4_bestWait_81 : decode cX4_bestWait 81 = .ok (.iload 6, 2) := by decide +kernel
theorem dX4_bestWait_83 : decode cX4_bestWait 83 = .ok (.iastore, 1) := by decide +kernel
theorem dX4_bestWait_84 : decode cX4_bestWait 84 = .ok (.aload_n 0, 1) := by decide +kernel
theorem dX4_bestWait_85 : decode cX4_bestWait 85 = .ok (.iload_n 1, 1) := by decide +kernel
theorem dX4_bestWait_86 : decode cX4_bestWait 86 = .ok (.invokevirtual 211, 3) := by decide +kernel
theorem dX4_bestWait_89 : decode cX4_bestWait 89 = .ok (.ifCond .eq 39, 3) := by decide +kernel
theorem dX4_bestWait_92 : decode cX4_bestWait 92 = .ok (.iload 4, 2) := by decide +kernel
theorem dX4_bestWait_94 : decode cX4_bestWait 94 = .ok (.bipush (-9), 2) := by decide +kernel
theorem dX4_bestWait_96 : decode cX4_bestWait 96 = .ok (.if_icmp .eq 17, 3) := by decide +kernel
theorem dX4_bestWait_99 : decode cX4_bestWait 99 = .ok (.aload_n 0, 1) := by decide +kernel
theorem dX4_bestWait_100 : decode cX4_bestWait 100 = .ok (.getfield 16, 3) := by decide +kernel
theorem dX4_bestWait_103 : decode cX4_bestWait 103 = .ok (.getfield 193, 3) := by decide +kernel
theorem dX4_bestWait_106 : decode cX4_bestWait 106 = .ok (.iload_n 1, 1) := by decide +kernel
theorem dX4_bestWait_107 : decode cX4_bestWait 107 = .ok (.iaload, 1) := by decide +kernel
theorem dX4_bestWait_108 : decode cX4_bestWait 108 = .ok (.iload 5, 2) := by decide +kernel
theorem dX4_bestWait_110 : decode cX4_bestWait 110 = .ok (.if_icmp .ge 18, 3) := by decide +kernel
theorem dX4_bestWait_113 : decode cX4_bestWait 113 = .ok (.iload 6, 2) := by decide +kernel
theorem dX4_bestWait_115 : decode cX4_bestWait 115 = .ok (.istore 4, 2) := by decide +kernel
theorem dX4_bestWait_117 : decode cX4_bestWait 117 = .ok (.aload_n 0, 1) := by decide +kernel
theorem dX4_bestWait_118 : decode cX4_bestWait 118 = .ok (.getfield 16, 3) := by decide +kernel
theorem dX4_bestWait_121 : decode cX4_bestWait 121 = .ok (.getfield 193, 3) := by decide +kernel
theorem dX4_bestWait_124 : decode cX4_bestWait 124 = .ok (.iload_n 1, 1) := by decide +kernel
theorem dX4_bestWait_125 : decode cX4_bestWait 125 = .ok (.iaload, 1) := by decide +kernel
theorem dX4_bestWait_126 : decode cX4_bestWait 126 = .ok (.istore 5, 2) := by decide +kernel
theorem dX4_bestWait_128 : decode cX4_bestWait 128 = .ok (.iinc 6 1, 3) := by decide +kernel
theorem dX4_bestWait_131 : decode cX4_bestWait 131 = .ok (.goto (-76), 3) := by decide +kernel
theorem dX4_bestWait_134 : decode cX4_bestWait 134 = .ok (.iload_n 2, 1) := by decide +kernel
theorem dX4_bestWait_135 : decode cX4_bestWait 135 = .ok (.ifCond .ne 8, 3) := by decide +kernel
theorem dX4_bestWait_138 : decode cX4_bestWait 138 = .ok (.iload 4, 2) := by decide +kernel
theorem dX4_bestWait_140 : decode cX4_bestWait 140 = .ok (.goto 5, 3) := by decide +kernel
theorem dX4_bestWait_143 : decode cX4_bestWait 143 = .ok (.iload 5, 2) := by decide +kernel
theorem dX4_bestWait_145 : decode cX4_bestWait 145 = .ok (.ireturn, 1) := by decide +kernel
theorem dX4_heaviest_0 : decode cX4_heaviest 0 = .ok (.aload_n 0, 1) := by decide +kernel
theorem dX4_heaviest_1 : decode cX4_heaviest 1 = .ok (.iload_n 1, 1) := by decide +kernel
theorem dX4_heaviest_2 : decode cX4_heaviest 2 = .ok (.invokevirtual 162, 3) := by decide +kernel
theorem dX4_heaviest_5 : decode cX4_heaviest 5 = .ok (.ifCond .eq 9, 3) := by decide +kernel
theorem dX4_heaviest_8 : decode cX4_heaviest 8 = .ok (.aload_n 0, 1) := by decide +kernel
theorem dX4_heaviest_9 : decode cX4_heaviest 9 = .ok (.iconst (-1), 1) := by decide +kernel
theorem dX4_heaviest_10 : decode cX4_heaviest 10 = .ok (.invokevirtual 61, 3) := by decide +kernel
theorem dX4_heaviest_13 : decode cX4_heaviest 13 = .ok (.ireturn, 1) := by decide +kernel
theorem dX4_heaviest_14 : decode cX4_heaviest 14 = .ok (.iload_n 2, 1) := by decide +kernel
theorem dX4_heaviest_15 : decode cX4_heaviest 15 = .ok (.ifCond .lt 8, 3) := by decide +kernel
theorem dX4_heaviest_18 : decode cX4_heaviest 18 = .ok (.iload_n 2, 1) := by decide +kernel
theorem dX4_heaviest_19 : decode cX4_heaviest 19 = .ok (.iconst 2, 1) := by decide +kernel
theorem dX4_heaviest_20 : decode cX4_heaviest 20 = .ok (.if_icmp .le 10, 3) := by decide +kernel
theorem dX4_heaviest_23 : decode cX4_heaviest 23 = .ok (.aload_n 0, 1) := by decide +kernel
theorem dX4_heaviest_24 : decode cX4_heaviest 24 = .ok (.bipush (-2), 2) := by decide +kernel
theorem dX4_heaviest_26 : decode cX4_heaviest 26 = .ok (.invokevirtual 61, 3) := by decide +kernel
theorem dX4_heaviest_29 : decode cX4_heaviest 29 = .ok (.ireturn, 1) := by decide +kernel
theorem dX4_heaviest_30 : decode cX4_heaviest 30 = .ok (.aload_n 0, 1) := by decide +kernel
theorem dX4_heaviest_31 : decode cX4_heaviest 31 = .ok (.iload_n 1, 1) := by decide +kernel
theorem dX4_heaviest_32 : decode cX4_heaviest 32 = .ok (.invokevirtual 208, 3) := by decide +kernel
theorem dX4_heaviest_35 : decode cX4_heaviest 35 = .ok (.istore_n 3, 1) := by decide +kernel
theorem dX4_heaviest_36 : decode cX4_heaviest 36 = .ok (.iload_n 3, 1) := by decide +kernel
theorem dX4_heaviest_37 : decode cX4_heaviest 37 = .ok (.ifCond .eq 9, 3) := by decide +kernel
theorem dX4_heaviest_40 : decode cX4_heaviest 40 = .ok (.aload_n 0, 1) := by decide +kernel
theorem dX4_heaviest_41 : decode cX4_heaviest 41 = .ok (.iload_n 3, 1) := by decide +kernel
theorem dX4_heaviest_42 : decode cX4_heaviest 42 = .ok (.invokevirtual 61, 3) := by decide +kernel
theorem dX4_heaviest_45 : decode cX4_heaviest 45 = .ok (.ireturn, 1) := by decide +kernel
theorem dX4_heaviest_46 : decode cX4_heaviest 46 = .ok (.iload_n 2, 1) := by decide +kernel
theorem dX4_heaviest_47 : decode cX4_heaviest 47 = .ok (.ifCond .ne 9, 3) := by decide +kernel
theorem dX4_heaviest_50 : decode cX4_heaviest 50 = .ok (.aload_n 0, 1) := by decide +kernel
theorem dX4_heaviest_51 : decode cX4_heaviest 51 = .ok (.iload_n 1, 1) := by decide +kernel
theorem dX4_heaviest_52 : decode cX4_heaviest 52 = .ok (.invokevirtual 214, 3) := by decide +kernel
theorem dX4_heaviest_55 : decode cX4_heaviest 55 = .ok (.ireturn, 1) := by decide +kernel
theorem dX4_heaviest_56 : decode cX4_heaviest 56 = .ok (.iload_n 2, 1) := by decide +kernel
theorem dX4_heaviest_57 : decode cX4_heaviest 57 = .ok (.iconst 1, 1) := by decide +kernel
theorem dX4_heaviest_58 : decode cX4_heaviest 58 = .ok (.if_icmp .ne 11, 3) := by decide +kernel
theorem dX4_heaviest_61 : decode cX4_heaviest 61 = .ok (.aload_n 0, 1) := by decide +kernel
theorem dX4_heaviest_62 : decode cX4_heaviest 62 = .ok (.iload_n 1, 1) := by decide +kernel
theorem dX4_heaviest_63 : decode cX4_heaviest 63 = .ok (.invokevirtual 217, 3) := by decide +kernel
theorem dX4_heaviest_66 : decode cX4_heaviest 66 = .ok (.goto 8, 3) := by decide +kernel
theorem dX4_heaviest_69 : decode cX4_heaviest 69 = .ok (.aload_n 0, 1) := by decide +kernel
theorem dX4_heaviest_70 : decode cX4_heaviest 70 = .ok (.iload_n 1, 1) := by decide +kernel
theorem dX4_heaviest_71 : decode cX4_heaviest 71 = .ok (.invokevirtual 220, 3) := by decide +kernel
theorem dX4_heaviest_74 : decode cX4_heaviest 74 = .ok (.ireturn, 1) := by decide +kernel
theorem dX4_greatestWeight_0 : decode cX4_greatestWeight 0 = .ok (.bipush 60, 2) := by decide +kernel
theorem dX4_greatestWeight_2 : decode cX4_greatestWeight 2 = .ok (.istore_n 2, 1) := by decide +kernel
theorem dX4_greatestWeight_3 : decode cX4_greatestWeight 3 = .ok (.iload_n 2, 1) := by decide +kernel
theorem dX4_greatestWeight_4 : decode cX4_greatestWeight 4 = .ok (.iconst 1, 1) := by decide +kernel
theorem dX4_greatestWeight_5 : decode cX4_greatestWeight 5 = .ok (.if_icmp .lt 40, 3) := by decide +kernel
theorem dX4_greatestWeight_8 : decode cX4_greatestWeight 8 = .ok (.aload_n 0, 1) := by decide +kernel
theorem dX4_greatestWeight_9 : decode cX4_greatestWeight 9 = .ok (.getfield 16, 3) := by decide +kernel
theorem dX4_greatestWeight_12 : decode cX4_greatestWeight 12 = .ok (.aload_n 0, 1) := by decide +kernel
theorem dX4_greatestWeight_13 : decode cX4_greatestWeight 13 = .ok (.getfield 12, 3) := by decide +kernel
theorem dX4_greatestWeight_16 : decode cX4_greatestWeight 16 = .ok (.invokevirtual 79, 3) := by decide +kernel
theorem dX4_greatestWeight_19 : decode cX4_greatestWeight 19 = .ok (.aload_n 0, 1) := by decide +kernel
theorem dX4_greatestWeight_20 : decode cX4_greatestWeight 20 = .ok (.getfield 16, 3) := by decide +kernel
theorem dX4_greatestWeight_23 : decode cX4_greatestWeight 23 = .ok (.getfield 165, 3) := by decide +kernel
theorem dX4_greatestWeight_26 : decode cX4_greatestWeight 26 = .ok (.iload_n 1, 1) := by decide +kernel
theorem dX4_greatestWeight_27 : decode cX4_greatestWeight 27 = .ok (.iload_n 2, 1) := by decide +kernel
theorem dX4_greatestWeight_28 : decode cX4_greatestWeight 28 = .ok (.iastore, 1) := by decide +kernel
theorem dX4_greatestWeight_29 : decode cX4_greatestWeight 29 = .ok (.aload_n 0, 1) := by decide +kernel
theorem dX4_greatestWeight_30 : decode cX4_greatestWeight 30 = .ok (.iload_n 1, 1) := by decide +kernel
theorem dX4_greatestWeight_31 : decode cX4_greatestWeight 31 = .ok (.invokevirtual 211, 3) := by decide +kernel
theorem dX4_greatestWeight_34 : decode cX4_greatestWeight 34 = .ok (.ifCond .eq 5, 3) := by decide +kernel
theorem dX4_greatestWeight_37 : decode cX4_greatestWeight 37 = .ok (.iload_n 2, 1) := by decide +kernel
theorem dX4_greatestWeight_38 : decode cX4_greatestWeight 38 = .ok (.ireturn, 1) := by decide +kernel
theorem dX4_greatestWeight_39 : decode cX4_greatestWeight 39 = .ok (.iinc 2 (-1), 3) := by decide +kernel
theorem dX4_greatestWeight_42 : decode cX4_greatestWeight 42 = .ok (.goto (-39), 3) := by decide +kernel
theorem dX4_greatestWeight_45 : decode cX4_greatestWeight 45 = .ok (.bipush (-9), 2) := by decide +kernel
theorem dX4_greatestWeight_47 : decode cX4_greatestWeight 47 = .ok (.ireturn, 1) := by decide +kernel
theorem dX4_greatestWarmth_0 : decode cX4_greatestWarmth 0 = .ok (.bipush 9, 2) := by decide +kernel
theorem dX4_greatestWarmth_2 : decode cX4_greatestWarmth 2 = .ok (.istore_n 2, 1) := by decide +kernel
theorem dX4_greatestWarmth_3 : decode cX4_greatestWarmth 3 = .ok (.iload_n 2, 1) := by decide +kernel
theorem dX4_greatestWarmth_4 : decode cX4_greatestWarmth 4 = .ok (.ifCond .lt 40, 3) := by decide +kernel
theorem dX4_greatestWarmth_7 : decode cX4_greatestWarmth 7 = .ok (.aload_n 0, 1) := by decide +kernel
theorem dX4_greatestWarmth_8 : decode cX4_greatestWarmth 8 = .ok (.getfield 16, 3) := by decide +kernel
theorem dX4_greatestWarmth_11 : decode cX4_greatestWarmth 11 = .ok (.aload_n 0, 1) := by decide +kernel
theorem dX4_greatestWarmth_12 : decode cX4_greatestWarmth 12 = .ok (.getfield 12, 3) := by decide +kernel
theorem dX4_greatestWarmth_15 : decode cX4_greatestWarmth 15 = .ok (.invokevirtual 79, 3) := by decide +kernel
theorem dX4_greatestWarmth_18 : decode cX4_greatestWarmth 18 = .ok (.aload_n 0, 1) := by decide +kernel
theorem dX4_greatestWarmth_19 : decode cX4_greatestWarmth 19 = .ok (.getfield 16, 3) := by decide +kernel
theorem dX4_greatestWarmth_22 : decode cX4_greatestWarmth 22 = .ok (.getfield 168, 3) := by decide +kernel
theorem dX4_greatestWarmth_25 : decode cX4_greatestWarmth 25 = .ok (.iload_n 1, 1) := by decide +kernel
theorem dX4_greatestWarmth_26 : decode cX4_greatestWarmth 26 = .ok (.iload_n 2, 1) := by decide +kernel
theorem dX4_greatestWarmth_27 : decode cX4_greatestWarmth 27 = .ok (.iastore, 1) := by decide +kernel
theorem dX4_greatestWarmth_28 : decode cX4_greatestWarmth 28 = .ok (.aload_n 0, 1) := by decide +kernel
theorem dX4_greatestWarmth_29 : decode cX4_greatestWarmth 29 = .ok (.iload_n 1, 1) := by decide +kernel
theorem dX4_greatestWarmth_30 : decode cX4_greatestWarmth 30 = .ok (.invokevirtual 211, 3) := by decide +kernel
theorem dX4_greatestWarmth_33 : decode cX4_greatestWarmth 33 = .ok (.ifCond .eq 5, 3) := by decide +kernel
theorem dX4_greatestWarmth_36 : decode cX4_greatestWarmth 36 = .ok (.iload_n 2, 1) := by decide +kernel
theorem dX4_greatestWarmth_37 : decode cX4_greatestWarmth 37 = .ok (.ireturn, 1) := by decide +kernel
theorem dX4_greatestWarmth_38 : decode cX4_greatestWarmth 38 = .ok (.iinc 2 (-1), 3) := by decide +kernel
theorem dX4_greatestWarmth_41 : decode cX4_greatestWarmth 41 = .ok (.goto (-38), 3) := by decide +kernel
theorem dX4_greatestWarmth_44 : decode cX4_greatestWarmth 44 = .ok (.bipush (-9), 2) := by decide +kernel
theorem dX4_greatestWarmth_46 : decode cX4_greatestWarmth 46 = .ok (.ireturn, 1) := by decide +kernel
theorem dX4_soonestPace_0 : decode cX4_soonestPace 0 = .ok (.bipush (-9), 2) := by decide +kernel
theorem dX4_soonestPace_2 : decode cX4_soonestPace 2 = .ok (.istore_n 2, 1) := by decide +kernel
theorem dX4_soonestPace_3 : decode cX4_soonestPace 3 = .ok (.bipush (-9), 2) := by decide +kernel
theorem dX4_soonestPace_5 : decode cX4_soonestPace 5 = .ok (.istore_n 3, 1) := by decide +kernel
theorem dX4_soonestPace_6 : decode cX4_soonestPace 6 = .ok (.iconst 1, 1) := by decide +kernel
theorem dX4_soonestPace_7 : decode cX4_soonestPace 7 = .ok (.istore 4, 2) := by decide +kernel
theorem dX4_soonestPace_9 : decode cX4_soonestPace 9 = .ok (.iload 4, 2) := by decide +kernel
theorem dX4_soonestPace_11 : decode cX4_soonestPace 11 = .ok (.iconst 3, 1) := by decide +kernel
theorem dX4_soonestPace_12 : decode cX4_soonestPace 12 = .ok (.if_icmp .gt 71, 3) := by decide +kernel
theorem dX4_soonestPace_15 : decode cX4_soonestPace 15 = .ok (.aload_n 0, 1) := by decide +kernel
theorem dX4_soonestPace_16 : decode cX4_soonestPace 16 = .ok (.getfield 16, 3) := by decide +kernel
theorem dX4_soonestPace_19 : decode cX4_soonestPace 19 = .ok (.aload_n 0, 1) := by decide +kernel
theorem dX4_soonestPace_20 : decode cX4_soonestPace 20 = .ok (.getfield 12, 3) := by decide +kernel
theorem dX4_soonestPace_23 : decode cX4_soonestPace 23 = .ok (.invokevirtual 79, 3) := by decide +kernel
theorem dX4_soonestPace_26 : decode cX4_soonestPace 26 = .ok (.aload_n 0, 1) := by decide +kernel
theorem dX4_soonestPace_27 : decode cX4_soonestPace 27 = .ok (.getfield 16, 3) := by decide +kernel
theorem dX4_soonestPace_30 : decode cX4_soonestPace 30 = .ok (.getfield 171, 3) := by decide +kernel
theorem dX4_soonestPace_33 : decode cX4_soonestPace 33 = .ok (.iload_n 1, 1) := by decide +kernel
theorem dX4_soonestPace_34 : decode cX4_soonestPace 34 = .ok (.iload 4, 2) := by decide +kernel
theorem dX4_soonestPace_36 : decode cX4_soonestPace 36 = .ok (.iastore, 1) := by decide +kernel
theorem dX4_soonestPace_37 : decode cX4_soonestPace 37 = .ok (.aload_n 0, 1) := by decide +kernel
theorem dX4_soonestPace_38 : decode cX4_soonestPace 38 = .ok (.iload_n 1, 1) := by decide +kernel
theorem dX4_soonestPace_39 : decode cX4_soonestPace 39 = .ok (.invokevirtual 211, 3) := by decide +kernel
theorem dX4_soonestPace_42 : decode cX4_soonestPace 42 = .ok (.ifCond .eq 35, 3) := by decide +kernel
theorem dX4_soonestPace_45 : decode cX4_soonestPace 45 = .ok (.iload_n 2, 1) := by decide +kernel
theorem dX4_soonestPace_46 : decode cX4_soonestPace 46 = .ok (.bipush (-9), 2) := by decide +kernel
theorem dX4_soonestPace_48 : decode cX4_soonestPace 48 = .ok (.if_icmp .eq 16, 3) := by decide +kernel
theorem dX4_soonestPace_51 : decode cX4_soonestPace 51 = .ok (.aload_n 0, 1) := by decide +kernel
theorem dX4_soonestPace_52 : decode cX4_soonestPace 52 = .ok (.getfield 16, 3) := by decide +kernel
theorem dX4_soonestPace_55 : decode cX4_soonestPace 55 = .ok (.getfield 193, 3) := by decide +kernel
theorem dX4_soonestPace_58 : decode cX4_soonestPace 58 = .ok (.iload_n 1, 1) := by decide +kernel
theorem dX4_soonestPace_59 : decode cX4_soonestPace 59 = .ok (.iaload, 1) := by decide +kernel
theorem dX4_soonestPace_60 : decode cX4_soonestPace 60 = .ok (.iload_n 3, 1) := by decide +kernel
theorem dX4_soonestPace_61 : decode cX4_soonestPace 61 = .ok (.if_icmp .ge 16, 3) := by decide +kernel
theorem dX4_soonestPace_64 : decode cX4_soonestPace 64 = .ok (.iload 4, 2) := by decide +kernel
theorem dX4_soonestPace_66 : decode cX4_soonestPace 66 = .ok (.istore_n 2, 1) := by decide +kernel
theorem dX4_soonestPace_67 : decode cX4_soonestPace 67 = .ok (.aload_n 0, 1) := by decide +kernel
theorem dX4_soonestPace_68 : decode cX4_soonestPace 68 = .ok (.getfield 16, 3) := by decide +kernel
theorem dX4_soonestPace_71 : decode cX4_soonestPace 71 = .ok (.getfield 193, 3) := by decide +kernel
theorem dX4_soonestPace_74 : decode cX4_soonestPace 74 = .ok (.iload_n 1, 1) := by decide +kernel
theorem dX4_soonestPace_75 : decode cX4_soonestPace 75 = .ok (.iaload, 1) := by decide +kernel
theorem dX4_soonestPace_76 : decode cX4_soonestPace 76 = .ok (.istore_n 3, 1) := by decide +kernel
theorem dX4_soonestPace_77 : decode cX4_soonestPace 77 = .ok (.iinc 4 1, 3) := by decide +kernel
theorem dX4_soonestPace_80 : decode cX4_soonestPace 80 = .ok (.goto (-71), 3) := by decide +kernel
theorem dX4_soonestPace_83 : decode cX4_soonestPace 83 = .ok (.iload_n 2, 1) := by decide +kernel
theorem dX4_soonestPace_84 : decode cX4_soonestPace 84 = .ok (.ireturn, 1) := by decide +kernel
theorem dX4_pourFirst_0 : decode cX4_pourFirst 0 = .ok (.aload_n 0, 1) := by decide +kernel
theorem dX4_pourFirst_1 : decode cX4_pourFirst 1 = .ok (.getfield 16, 3) := by decide +kernel
theorem dX4_pourFirst_4 : decode cX4_pourFirst 4 = .ok (.aload_n 0, 1) := by decide +kernel
theorem dX4_pourFirst_5 : decode cX4_pourFirst 5 = .ok (.getfield 12, 3) := by decide +kernel
theorem dX4_pourFirst_8 : decode cX4_pourFirst 8 = .ok (.invokevirtual 79, 3) := by decide +kernel
theorem dX4_pourFirst_11 : decode cX4_pourFirst 11 = .ok (.aload_n 0, 1) := by decide +kernel
theorem dX4_pourFirst_12 : decode cX4_pourFirst 12 = .ok (.invokevirtual 223, 3) := by decide +kernel
theorem dX4_pourFirst_15 : decode cX4_pourFirst 15 = .ok (.istore_n 1, 1) := by decide +kernel
theorem dX4_pourFirst_16 : decode cX4_pourFirst 16 = .ok (.bipush (-9), 2) := by decide +kernel
theorem dX4_pourFirst_18 : decode cX4_pourFirst 18 = .ok (.istore_n 2, 1) := by decide +kernel
theorem dX4_pourFirst_19 : decode cX4_pourFirst 19 = .ok (.iconst 0, 1) := by decide +kernel
theorem dX4_pourFirst_20 : decode cX4_pourFirst 20 = .ok (.istore_n 3, 1) := by decide +kernel
theorem dX4_pourFirst_21 : decode cX4_pourFirst 21 = .ok (.iload_n 3, 1) := by decide +kernel
theorem dX4_pourFirst_22 : decode cX4_pourFirst 22 = .ok (.aload_n 0, 1) := by decide +kernel
theorem dX4_pourFirst_23 : decode cX4_pourFirst 23 = .ok (.getfield 12, 3) := by decide +kernel
theorem dX4_pourFirst_26 : decode cX4_pourFirst 26 = .ok (.getfield 156, 3) := by decide +kernel
theorem dX4_pourFirst_29 : decode cX4_pourFirst 29 = .ok (.if_icmp .ge 45, 3) := by decide +kernel
theorem dX4_pourFirst_32 : decode cX4_pourFirst 32 = .ok (.aload_n 0, 1) := by decide +kernel
theorem dX4_pourFirst_33 : decode cX4_pourFirst 33 = .ok (.getfield 16, 3) := by decide +kernel
theorem dX4_pourFirst_36 : decode cX4_pourFirst 36 = .ok (.aload_n 0, 1) := by decide +kernel
theorem dX4_pourFirst_37 : decode cX4_pourFirst 37 = .ok (.getfield 12, 3) := by decide +kernel
