theorem dX0_init_0 : decode cX0_init 0 = .ok (.aload_n 0, 1) := by decide +kernel
theorem dX0_init_1 : decode cX0_init 1 = .ok (.invokespecial 3, 3) := by decide +kernel
theorem dX0_init_4 : decode cX0_init 4 = .ok (.aload_n 0, 1) := by decide +kernel
theorem dX0_init_5 : decode cX0_init 5 = .ok (.aload_n 1, 1) := by decide +kernel
theorem dX0_init_6 : decode cX0_init 6 = .ok (.putfield 9, 3) := by decide +kernel
theorem dX0_init_9 : decode cX0_init 9 = .ok (.aload_n 0, 1) := by decide +kernel
theorem dX0_init_10 : decode cX0_init 10 = .ok (.aload_n 2, 1) := by decide +kernel
theorem dX0_init_11 : decode cX0_init 11 = .ok (.putfield 15, 3) := by decide +kernel
theorem dX0_init_14 : decode cX0_init 14 = .ok (.aload_n 0, 1) := by decide +kernel
theorem dX0_init_15 : decode cX0_init 15 = .ok (.new 19, 3) := by decide +kernel
theorem dX0_init_18 : decode cX0_init 18 = .ok (.dup, 1) := by decide +kernel
theorem dX0_init_19 : decode cX0_init 19 = .ok (.invokespecial 21, 3) := by decide +kernel
theorem dX0_init_22 : decode cX0_init 22 = .ok (.putfield 22, 3) := by decide +kernel
theorem dX0_init_25 : decode cX0_init 25 = .ok (.aload_n 0, 1) := by decide +kernel
theorem dX0_init_26 : decode cX0_init 26 = .ok (.new 19, 3) := by decide +kernel
theorem dX0_init_29 : decode cX0_init 29 = .ok (.dup, 1) := by decide +kernel
theorem dX0_init_30 : decode cX0_init 30 = .ok (.invokespecial 21, 3) := by decide +kernel
theorem dX0_init_33 : decode cX0_init 33 = .ok (.putfield 26, 3) := by decide +kernel
theorem dX0_init_36 : decode cX0_init 36 = .ok (.aload_n 0, 1) := by decide +kernel
theorem dX0_init_37 : decode cX0_init 37 = .ok (.new 19, 3) := by decide +kernel
theorem dX0_init_40 : decode cX0_init 40 = .ok (.dup, 1) := by decide +kernel
theorem dX0_init_41 : decode cX0_init 41 = .ok (.invokespecial 21, 3) := by decide +kernel
theorem dX0_init_44 : decode cX0_init 44 = .ok (.putfield 29, 3) := by decide +kernel
theorem dX0_init_47 : decode cX0_init 47 = .ok (.aload_n 0, 1) := by decide +kernel
theorem dX0_init_48 : decode cX0_init 48 = .ok (.new 19, 3) := by decide +kernel
theorem dX0_init_51 : decode cX0_init 51 = .ok (.dup, 1) := by decide +kernel
theorem dX0_init_52 : decode cX0_init 52 = .ok (.invokespecial 21, 3) := by decide +kernel
theorem dX0_init_55 : decode cX0_init 55 = .ok (.putfield 32, 3) := by decide +kernel
theorem dX0_init_58 : decode cX0_init 58 = .ok (.return_, 1) := by decide +kernel
theorem dX0_kindIn_0 : decode cX0_kindIn 0 = .ok (.aload_n 0, 1) := by decide +kernel
theorem dX0_kindIn_1 : decode cX0_kindIn 1 = .ok (.getfield 15, 3) := by decide +kernel
theorem dX0_kindIn_4 : decode cX0_kindIn 4 = .ok (.aload_n 0, 1) := by decide +kernel
theorem dX0_kindIn_5 : decode cX0_kindIn 5 = .ok (.getfield 22, 3) := by decide +kernel
theorem dX0_kindIn_8 : decode cX0_kindIn 8 = .ok (.aload_n 1, 1) := by decide +kernel
theorem dX0_kindIn_9 : decode cX0_kindIn 9 = .ok (.aload_n 2, 1) := by decide +kernel
theorem dX0_kindIn_10 : decode cX0_kindIn 10 = .ok (.invokevirtual 35, 3) := by decide +kernel
theorem dX0_kindIn_13 : decode cX0_kindIn 13 = .ok (.aload_n 0, 1) := by decide +kernel
theorem dX0_kindIn_14 : decode cX0_kindIn 14 = .ok (.getfield 22, 3) := by decide +kernel
theorem dX0_kindIn_17 : decode cX0_kindIn 17 = .ok (.getfield 41, 3) := by decide +kernel
theorem dX0_kindIn_20 : decode cX0_kindIn 20 = .ok (.aload_n 1, 1) := by decide +kernel
theorem dX0_kindIn_21 : decode cX0_kindIn 21 = .ok (.getfield 41, 3) := by decide +kernel
theorem dX0_kindIn_24 : decode cX0_kindIn 24 = .ok (.if_icmp .ne 5, 3) := by decide +kernel
theorem dX0_kindIn_27 : decode cX0_kindIn 27 = .ok (.iconst 0, 1) := by decide +kernel
theorem dX0_kindIn_28 : decode cX0_kindIn 28 = .ok (.ireturn, 1) := by decide +kernel
theorem dX0_kindIn_29 : decode cX0_kindIn 29 = .ok (.aload_n 0, 1) := by decide +kernel
theorem dX0_kindIn_30 : decode cX0_kindIn 30 = .ok (.getfield 22, 3) := by decide +kernel
theorem dX0_kindIn_33 : decode cX0_kindIn 33 = .ok (.getfield 41, 3) := by decide +kernel
theorem dX0_kindIn_36 : decode cX0_kindIn 36 = .ok (.ifCond .ne 7, 3) := by decide +kernel
theorem dX0_kindIn_39 : decode cX0_kindIn 39 = .ok (.iconst 1, 1) := by decide +kernel
theorem dX0_kindIn_40 : decode cX0_kindIn 40 = .ok (.goto 4, 3) := by decide +kernel
theorem dX0_kindIn_43 : decode cX0_kindIn 43 = .ok (.iconst 2, 1) := by decide +kernel
theorem dX0_kindIn_44 : decode cX0_kindIn 44 = .ok (.ireturn, 1) := by decide +kernel
theorem dX0_countOfKind_0 : decode cX0_countOfKind 0 = .ok (.iconst 0, 1) := by decide +kernel
theorem dX0_countOfKind_1 : decode cX0_countOfKind 1 = .ok (.istore_n 3, 1) := by decide +kernel
theorem dX0_countOfKind_2 : decode cX0_countOfKind 2 = .ok (.iconst 0, 1) := by decide +kernel
theorem dX0_countOfKind_3 : decode cX0_countOfKind 3 = .ok (.istore 4, 2) := by decide +kernel
theorem dX0_countOfKind_5 : decode cX0_countOfKind 5 = .ok (.iload 4, 2) := by decide +kernel
theorem dX0_countOfKind_7 : decode cX0_countOfKind 7 = .ok (.aload_n 0, 1) := by decide +kernel
theorem dX0_countOfKind_8 : decode cX0_countOfKind 8 = .ok (.getfield 9, 3) := by decide +kernel
theorem dX0_countOfKind_11 : decode cX0_countOfKind 11 = .ok (.getfield 45, 3) := by decide +kernel
theorem dX0_countOfKind_14 : decode cX0_countOfKind 14 = .ok (.if_icmp .ge 31, 3) := by decide +kernel
theorem dX0_countOfKind_17 : decode cX0_countOfKind 17 = .ok (.aload_n 0, 1) := by decide +kernel
theorem dX0_countOfKind_18 : decode cX0_countOfKind 18 = .ok (.aload_n 0, 1) := by decide +kernel
theorem dX0_countOfKind_19 : decode cX0_countOfKind 19 = .ok (.getfield 9, 3) := by decide +kernel
theorem dX0_countOfKind_22 : decode cX0_countOfKind 22 = .ok (.getfield 50, 3) := by decide +kernel
theorem dX0_countOfKind_25 : decode cX0_countOfKind 25 = .ok (.iload 4, 2) := by decide +kernel
theorem dX0_countOfKind_27 : decode cX0_countOfKind 27 = .ok (.aaload, 1) := by decide +kernel
theorem dX0_countOfKind_28 : decode cX0_countOfKind 28 = .ok (.aload_n 1, 1) := by decide +kernel
theorem dX0_countOfKind_29 : decode cX0_countOfKind 29 = .ok (.invokevirtual 54, 3) := by decide +kernel
theorem dX0_countOfKind_32 : decode cX0_countOfKind 32 = .ok (.iload_n 2, 1) := by decide +kernel
theorem dX0_countOfKind_33 : decode cX0_countOfKind 33 = .ok (.if_icmp .ne 6, 3) := by decide +kernel
theorem dX0_countOfKind_36 : decode cX0_countOfKind 36 = .ok (.iinc 3 1, 3) := by decide +kernel
theorem dX0_countOfKind_39 : decode cX0_countOfKind 39 = .ok (.iinc 4 1, 3) := by decide +kernel
theorem dX0_countOfKind_42 : decode cX0_countOfKind 42 = .ok (.goto (-37), 3) := by decide +kernel
theorem dX0_countOfKind_45 : decode cX0_countOfKind 45 = .ok (.iload_n 3, 1) := by decide +kernel
theorem dX0_countOfKind_46 : decode cX0_countOfKind 46 = .ok (.ireturn, 1) := by decide +kernel
theorem dX0_countDifferent_0 : decode cX0_countDifferent 0 = .ok (.aload_n 0, 1) := by decide +kernel
theorem dX0_countDifferent_1 : decode cX0_countDifferent 1 = .ok (.getfield 26, 3) := by decide +kernel
theorem dX0_countDifferent_4 : decode cX0_countDifferent 4 = .ok (.aload_n 1, 1) := by decide +kernel
theorem dX0_countDifferent_5 : decode cX0_countDifferent 5 = .ok (.invokevirtual 58, 3) := by decide +kernel
theorem dX0_countDifferent_8 : decode cX0_countDifferent 8 = .ok (.aload_n 0, 1) := by decide +kernel
theorem dX0_countDifferent_9 : decode cX0_countDifferent 9 = .ok (.getfield 26, 3) := by decide +kernel
theorem dX0_countDifferent_12 : decode cX0_countDifferent 12 = .ok (.iconst (-1), 1) := by decide +kernel
theorem dX0_countDifferent_13 : decode cX0_countDifferent 13 = .ok (.aload_n 2, 1) := by decide +kernel
theorem dX0_countDifferent_14 : decode cX0_countDifferent 14 = .ok (.iconst 0, 1) := by decide +kernel
theorem dX0_countDifferent_15 : decode cX0_countDifferent 15 = .ok (.aload_n 0, 1) := by decide +kernel
theorem dX0_countDifferent_16 : decode cX0_countDifferent 16 = .ok (.getfield 9, 3) := by decide +kernel
theorem dX0_countDifferent_19 : decode cX0_countDifferent 19 = .ok (.getfield 62, 3) := by decide +kernel
theorem dX0_countDifferent_22 : decode cX0_countDifferent 22 = .ok (.invokevirtual 65, 3) := by decide +kernel
theorem dX0_countDifferent_25 : decode cX0_countDifferent 25 = .ok (.aload_n 0, 1) := by decide +kernel
theorem dX0_countDifferent_26 : decode cX0_countDifferent 26 = .ok (.getfield 9, 3) := by decide +kernel
theorem dX0_countDifferent_29 : decode cX0_countDifferent 29 = .ok (.getfield 45, 3) := by decide +kernel
theorem dX0_countDifferent_32 : decode cX0_countDifferent 32 = .ok (.aload_n 0, 1) := by decide +kernel
theorem dX0_countDifferent_33 : decode cX0_countDifferent 33 = .ok (.aload_n 0, 1) := by decide +kernel
theorem dX0_countDifferent_34 : decode cX0_countDifferent 34 = .ok (.getfield 26, 3) := by decide +kernel
theorem dX0_countDifferent_37 : decode cX0_countDifferent 37 = .ok (.iconst 0, 1) := by decide +kernel
theorem dX0_countDifferent_38 : decode cX0_countDifferent 38 = .ok (.invokevirtual 69, 3) := by decide +kernel
theorem dX0_countDifferent_41 : decode cX0_countDifferent 41 = .ok (.isub, 1) := by decide +kernel
theorem dX0_countDifferent_42 : decode cX0_countDifferent 42 = .ok (.ireturn, 1) := by decide +kernel
theorem dX0_partBy_0 : decode cX0_partBy 0 = .ok (.aload_n 0, 1) := by decide +kernel
theorem dX0_partBy_1 : decode cX0_partBy 1 = .ok (.getfield 9, 3) := by decide +kernel
theorem dX0_partBy_4 : decode cX0_partBy 4 = .ok (.getfield 45, 3) := by decide +kernel
theorem dX0_partBy_7 : decode cX0_partBy 7 = .ok (.istore_n 2, 1) := by decide +kernel
theorem dX0_partBy_8 : decode cX0_partBy 8 = .ok (.iconst 0, 1) := by decide +kernel
theorem dX0_partBy_9 : decode cX0_partBy 9 = .ok (.istore_n 3, 1) := by decide +kernel
theorem dX0_partBy_10 : decode cX0_partBy 10 = .ok (.iload_n 3, 1) := by decide +kernel
theorem dX0_partBy_11 : decode cX0_partBy 11 = .ok (.iload_n 2, 1) := by decide +kernel
theorem dX0_partBy_12 : decode cX0_partBy 12 = .ok (.if_icmp .ge 96, 3) := by decide +kernel
theorem dX0_partBy_15 : decode cX0_partBy 15 = .ok (.aload_n 0, 1) := by decide +kernel
theorem dX0_partBy_16 : decode cX0_partBy 16 = .ok (.getfield 9, 3) := by decide +kernel
theorem dX0_partBy_19 : decode cX0_partBy 19 = .ok (.getfield 50, 3) := by decide +kernel
theorem dX0_partBy_22 : decode cX0_partBy 22 = .ok (.iload_n 3, 1) := by decide +kernel
theorem dX0_partBy_23 : decode cX0_partBy 23 = .ok (.aaload, 1) := by decide +kernel
theorem dX0_partBy_24 : decode cX0_partBy 24 = .ok (.astore 4, 2) := by decide +kernel
theorem dX0_partBy_26 : decode cX0_partBy 26 = .ok (.aload_n 0, 1) := by decide +kernel
theorem dX0_partBy_27 : decode cX0_partBy 27 = .ok (.getfield 15, 3) := by decide +kernel
theorem dX0_partBy_30 : decode cX0_partBy 30 = .ok (.aload_n 0, 1) := by decide +kernel
theorem dX0_partBy_31 : decode cX0_partBy 31 = .ok (.getfield 22, 3) := by decide +kernel
theorem dX0_partBy_34 : decode cX0_partBy 34 = .ok (.aload 4, 2) := by decide +kernel
theorem dX0_partBy_36 : decode cX0_partBy 36 = .ok (.aload_n 1, 1) := by decide +kernel
theorem dX0_partBy_37 : decode cX0_partBy 37 = .ok (.invokevirtual 35, 3) := by decide +kernel
theorem dX0_partBy_40 : decode cX0_partBy 40 = .ok (.aload_n 0, 1) := by decide +kernel
theorem dX0_partBy_41 : decode cX0_partBy 41 = .ok (.getfield 22, 3) := by decide +kernel
theorem dX0_partBy_44 : decode cX0_partBy 44 = .ok (.getfield 41, 3) := by decide +kernel
theorem dX0_partBy_47 : decode cX0_partBy 47 = .ok (.ifCond .le 55, 3) := by decide +kernel
theorem dX0_partBy_50 : decode cX0_partBy 50 = .ok (.aload_n 0, 1) := by decide +kernel
theorem dX0_partBy_51 : decode cX0_partBy 51 = .ok (.getfield 22, 3) := by decide +kernel
theorem dX0_partBy_54 : decode cX0_partBy 54 = .ok (.getfield 41, 3) := by decide +kernel
theorem dX0_partBy_57 : decode cX0_partBy 57 = .ok (.aload 4, 2) := by decide +kernel
theorem dX0_partBy_59 : decode cX0_partBy 59 = .ok (.getfield 41, 3) := by decide +kernel
theorem dX0_partBy_62 : decode cX0_partBy 62 = .ok (.if_icmp .ge 40, 3) := by decide +kernel
theorem dX0_partBy_65 : decode cX0_partBy 65 = .ok (.aload_n 0, 1) := by decide +kernel
theorem dX0_partBy_66 : decode cX0_partBy 66 = .ok (.getfield 15, 3) := by decide +kernel
theorem dX0_partBy_69 : decode cX0_partBy 69 = .ok (.aload_n 0, 1) := by decide +kernel
theorem dX0_partBy_70 : decode cX0_partBy 70 = .ok (.getfield 26, 3) := by decide +kernel
theorem dX0_partBy_73 : decode cX0_partBy 73 = .ok (.aload 4, 2) := by decide +kernel
theorem dX0_partBy_75 : decode cX0_partBy 75 = .ok (.aload_n 0, 1) := by decide +kernel
theorem dX0_partBy_76 : decode cX0_partBy 76 = .ok (.getfield 22, 3) := by decide +kernel
theorem dX0_partBy_79 : decode cX0_partBy 79 = .ok (.invokevirtual 73, 3) := by decide +kernel
theorem dX0_partBy_82 : decode cX0_partBy 82 = .ok (.aload 4, 2) := by decide +kernel
theorem dX0_partBy_84 : decode cX0_partBy 84 = .ok (.aload_n 0, 1) := by decide +kernel
theorem dX0_partBy_85 : decode cX0_partBy 85 = .ok (.getfield 22, 3) := by decide +kernel
theorem dX0_partBy_88 : decode cX0_partBy 88 = .ok (.invokevirtual 58, 3) := by decide +kernel
theorem dX0_partBy_91 : decode cX0_partBy 91 = .ok (.aload_n 0, 1) := by decide +kernel
theorem dX0_partBy_92 : decode cX0_partBy 92 = .ok (.getfield 9, 3) := by decide +kernel
theorem dX0_partBy_95 : decode cX0_partBy 95 = .ok (.aload_n 0, 1) := by decide +kernel
theorem dX0_partBy_96 : decode cX0_partBy 96 = .ok (.getfield 26, 3) := by decide +kernel
theorem dX0_partBy_99 : decode cX0_partBy 99 = .ok (.invokevirtual 76, 3) := by decide +kernel
theorem dX0_partBy_102 : decode cX0_partBy 102 = .ok (.iinc 3 1, 3) := by decide +kernel
theorem dX0_partBy_105 : decode cX0_partBy 105 = .ok (.goto (-95), 3) := by decide +kernel
theorem dX0_partBy_108 : decode cX0_partBy 108 = .ok (.aload_n 0, 1) := by decide +kernel
theorem dX0_partBy_109 : decode cX0_partBy 109 = .ok (.getfield 9, 3) := by decide +kernel
theorem dX0_partBy_112 : decode cX0_partBy 112 = .ok (.invokevirtual 79, 3) := by decide +kernel
theorem dX0_partBy_115 : decode cX0_partBy 115 = .ok (.return_, 1) := by decide +kernel
theorem dX0_joinTwo_0 : decode cX0_joinTwo 0 = .ok (.aload_n 0, 1) := by decide +kernel
theorem dX0_joinTwo_1 : decode cX0_joinTwo 1 = .ok (.getfield 15, 3) := by decide +kernel
theorem dX0_joinTwo_4 : decode cX0_joinTwo 4 = .ok (.aload_n 0, 1) := by decide +kernel
theorem dX0_joinTwo_5 : decode cX0_joinTwo 5 = .ok (.getfield 32, 3) := by decide +kernel
theorem dX0_joinTwo_8 : decode cX0_joinTwo 8 = .ok (.aload_n 0, 1) := by decide +kernel
theorem dX0_joinTwo_9 : decode cX0_joinTwo 9 = .ok (.getfield 9, 3) := by decide +kernel
theorem dX0_joinTwo_12 : decode cX0_joinTwo 12 = .ok (.getfield 50, 3) := by decide +kernel
theorem dX0_joinTwo_15 : decode cX0_joinTwo 15 = .ok (.iload_n 1, 1) := by decide +kernel
theorem dX0_joinTwo_16 : decode cX0_joinTwo 16 = .ok (.aaload, 1) := by decide +kernel
theorem dX0_joinTwo_17 : decode cX0_joinTwo 17 = .ok (.aload_n 0, 1) := by decide +kernel
theorem dX0_joinTwo_18 : decode cX0_joinTwo 18 = .ok (.getfield 9, 3) := by decide +kernel
theorem dX0_joinTwo_21 : decode cX0_joinTwo 21 = .ok (.getfield 50, 3) := by decide +kernel
theorem dX0_joinTwo_24 : decode cX0_joinTwo 24 = .ok (.iload_n 2, 1) := by decide +kernel
theorem dX0_joinTwo_25 : decode cX0_joinTwo 25 = .ok (.aaload, 1) := by decide +kernel
theorem dX0_joinTwo_26 : decode cX0_joinTwo 26 = .ok (.invokevirtual 82, 3) := by decide +kernel
theorem dX0_joinTwo_29 : decode cX0_joinTwo 29 = .ok (.aload_n 0, 1) := by decide +kernel
theorem dX0_joinTwo_30 : decode cX0_joinTwo 30 = .ok (.getfield 9, 3) := by decide +kernel
theorem dX0_joinTwo_33 : decode cX0_joinTwo 33 = .ok (.getfield 50, 3) := by decide +kernel
theorem dX0_joinTwo_36 : decode cX0_joinTwo 36 = .ok (.iload_n 1, 1) := by decide +kernel
theorem dX0_joinTwo_37 : decode cX0_joinTwo 37 = .ok (.aaload, 1) := by decide +kernel
theorem dX0_joinTwo_38 : decode cX0_joinTwo 38 = .ok (.aload_n 0, 1) := by decide +kernel
theorem dX0_joinTwo_39 : decode cX0_joinTwo 39 = .ok (.getfield 32, 3) := by decide +kernel
theorem dX0_joinTwo_42 : decode cX0_joinTwo 42 = .ok (.invokevirtual 58, 3) := by decide +kernel
theorem dX0_joinTwo_45 : decode cX0_joinTwo 45 = .ok (.aload_n 0, 1) := by decide +kernel
theorem dX0_joinTwo_46 : decode cX0_joinTwo 46 = .ok (.getfield 9, 3) := by decide +kernel
theorem dX0_joinTwo_49 : decode cX0_joinTwo 49 = .ok (.getfield 50, 3) := by decide +kernel
theorem dX0_joinTwo_52 : decode cX0_joinTwo 52 = .ok (.iload_n 2, 1) := by decide +kernel
theorem dX0_joinTwo_53 : decode cX0_joinTwo 53 = .ok (.aaload, 1) := by decide +kernel
theorem dX0_joinTwo_54 : decode cX0_joinTwo 54 = .ok (.aload_n 0, 1) := by decide +kernel
theorem dX0_joinTwo_55 : decode cX0_joinTwo 55 = .ok (.getfield 9, 3) := by decide +kernel
theorem dX0_joinTwo_58 : decode cX0_joinTwo 58 = .ok (.getfield 50, 3) := by decide +kernel
theorem dX0_joinTwo_61 : decode cX0_joinTwo 61 = .ok (.aload_n 0, 1) := by decide +kernel
theorem dX0_joinTwo_62 : decode cX0_joinTwo 62 = .ok (.getfield 9, 3) := by decide +kernel
theorem dX0_joinTwo_65 : decode cX0_joinTwo 65 = .ok (.getfield 45, 3) := by decide +kernel
theorem dX0_joinTwo_68 : decode cX0_joinTwo 68 = .ok (.iconst 1, 1) := by decide +kernel
theorem dX0_joinTwo_69 : decode cX0_joinTwo 69 = .ok (.isub, 1) := by decide +kernel
theorem dX0_joinTwo_70 : decode cX0_joinTwo 70 = .ok (.aaload, 1) := by decide +kernel
theorem dX0_joinTwo_71 : decode cX0_joinTwo 71 = .ok (.invokevirtual 58, 3) := by decide +kernel
theorem dX0_joinTwo_74 : decode cX0_joinTwo 74 = .ok (.aload_n 0, 1) := by decide +kernel
theorem dX0_joinTwo_75 : decode cX0_joinTwo 75 = .ok (.getfield 9, 3) := by decide +kernel
theorem dX0_joinTwo_78 : decode cX0_joinTwo 78 = .ok (.dup, 1) := by decide +kernel
theorem dX0_joinTwo_79 : decode cX0_joinTwo 79 = .ok (.getfield 45, 3) := by decide +kernel
theorem dX0_joinTwo_82 : decode cX0_joinTwo 82 = .ok (.iconst 1, 1) := by decide +kernel
theorem dX0_joinTwo_83 : decode cX0_joinTwo 83 = .ok (.isub, 1) := by decide +kernel
theorem dX0_joinTwo_84 : decode cX0_joinTwo 84 = .ok (.putfield 45, 3) := by decide +kernel
theorem dX0_joinTwo_87 : decode cX0_joinTwo 87 = .ok (.aload_n 0, 1) := by decide +kernel
theorem dX0_joinTwo_88 : decode cX0_joinTwo 88 = .ok (.getfield 9, 3) := by decide +kernel
theorem dX0_joinTwo_91 : decode cX0_joinTwo 91 = .ok (.invokevirtual 79, 3) := by decide +kernel
theorem dX0_joinTwo_94 : decode cX0_joinTwo 94 = .ok (.aload_n 0, 1) := by decide +kernel
theorem dX0_joinTwo_95 : decode cX0_joinTwo 95 = .ok (.aload_n 0, 1) := by decide +kernel
theorem dX0_joinTwo_96 : decode cX0_joinTwo 96 = .ok (.getfield 32, 3) := by decide +kernel
theorem dX0_joinTwo_99 : decode cX0_joinTwo 99 = .ok (.invokevirtual 85, 3) := by decide +kernel
theorem dX0_joinTwo_102 : decode cX0_joinTwo 102 = .ok (.ireturn, 1) := by decide +kernel
theorem dX0_joinByKind_0 : decode cX0_joinByKind 0 = .ok (.aload_n 0, 1) := by decide +kernel
theorem dX0_joinByKind_1 : decode cX0_joinByKind 1 = .ok (.getfield 29, 3) := by decide +kernel
theorem dX0_joinByKind_4 : decode cX0_joinByKind 4 = .ok (.iconst 1, 1) := by decide +kernel
theorem dX0_joinByKind_5 : decode cX0_joinByKind 5 = .ok (.invokevirtual 89, 3) := by decide +kernel
theorem dX0_joinByKind_8 : decode cX0_joinByKind 8 = .ok (.aload_n 0, 1) := by decide +kernel
theorem dX0_joinByKind_9 : decode cX0_joinByKind 9 = .ok (.getfield 32, 3) := by decide +kernel
theorem dX0_joinByKind_12 : decode cX0_joinByKind 12 = .ok (.iconst 1, 1) := by decide +kernel
theorem dX0_joinByKind_13 : decode cX0_joinByKind 13 = .ok (.invokevirtual 89, 3) := by decide +kernel
theorem dX0_joinByKind_16 : decode cX0_joinByKind 16 = .ok (.iconst 0, 1) := by decide +kernel
theorem dX0_joinByKind_17 : decode cX0_joinByKind 17 = .ok (.istore_n 2, 1) := by decide +kernel
theorem dX0_joinByKind_18 : decode cX0_joinByKind 18 = .ok (.iload_n 2, 1) := by decide +kernel
theorem dX0_joinByKind_19 : decode cX0_joinByKind 19 = .ok (.aload_n 0, 1) := by decide +kernel
theorem dX0_joinByKind_20 : decode cX0_joinByKind 20 = .ok (.getfield 9, 3) := by decide +kernel
theorem dX0_joinByKind_23 : decode cX0_joinByKind 23 = .ok (.getfield 45, 3) := by decide +kernel
theorem dX0_joinByKind_26 : decode cX0_joinByKind 26 = .ok (.if_icmp .ge 56, 3) := by decide +kernel
theorem dX0_joinByKind_29 : decode cX0_joinByKind 29 = .ok (.aload_n 0, 1) := by decide +kernel
theorem dX0_joinByKind_30 : decode cX0_joinByKind 30 = .ok (.aload_n 0, 1) := by decide +kernel
theorem dX0_joinByKind_31 : decode cX0_joinByKind 31 = .ok (.getfield 9, 3) := by decide +kernel
theorem dX0_joinByKind_34 : decode cX0_joinByKind 34 = .ok (.getfield 50, 3) := by decide +kernel
theorem dX0_joinByKind_37 : decode cX0_joinByKind 37 = .ok (.iload_n 2, 1) := by decide +kernel
theorem dX0_joinByKind_38 : decode cX0_joinByKind 38 = .ok (.aaload, 1) := by decide +kernel
theorem dX0_joinByKind_39 : decode cX0_joinByKind 39 = .ok (.aload_n 1, 1) := by decide +kernel
theorem dX0_joinByKind_40 : decode cX0_joinByKind 40 = .ok (.invokevirtual 54, 3) := by decide +kernel
theorem dX0_joinByKind_43 : decode cX0_joinByKind 43 = .ok (.ifCond .ne 10, 3) := by decide +kernel
theorem dX0_joinByKind_46 : decode cX0_joinByKind 46 = .ok (.aload_n 0, 1) := by decide +kernel
theorem dX0_joinByKind_47 : decode cX0_joinByKind 47 = .ok (.getfield 29, 3) := by decide +kernel
theorem dX0_joinByKind_50 : decode cX0_joinByKind 50 = .ok (.goto 7, 3) := by decide +kernel
theorem dX0_joinByKind_53 : decode cX0_joinByKind 53 = .ok (.aload_n 0, 1) := by decide +kernel
theorem dX0_joinByKind_54 : decode cX0_joinByKind 54 = .ok (.getfield 32, 3) := by decide +kernel
theorem dX0_joinByKind_57 : decode cX0_joinByKind 57 = .ok (.astore_n 3, 1) := by decide +kernel
theorem dX0_joinByKind_58 : decode cX0_joinByKind 58 = .ok (.aload_n 0, 1) := by decide +kernel
theorem dX0_joinByKind_59 : decode cX0_joinByKind 59 = .ok (.getfield 15, 3) := by decide +kernel
theorem dX0_joinByKind_62 : decode cX0_joinByKind 62 = .ok (.aload_n 3, 1) := by decide +kernel
theorem dX0_joinByKind_63 : decode cX0_joinByKind 63 = .ok (.aload_n 3, 1) := by decide +kernel
theorem dX0_joinByKind_64 : decode cX0_joinByKind 64 = .ok (.aload_n 0, 1) := by decide +kernel
theorem dX0_joinByKind_65 : decode cX0_joinByKind 65 = .ok (.getfield 9, 3) := by decide +kernel
theorem dX0_joinByKind_68 : decode cX0_joinByKind 68 = .ok (.getfield 50, 3) := by decide +kernel
theorem dX0_joinByKind_71 : decode cX0_joinByKind 71 = .ok (.iload_n 2, 1) := by decide +kernel
theorem dX0_joinByKind_72 : decode cX0_joinByKind 72 = .ok (.aaload, 1) := by decide +kernel
theorem dX0_joinByKind_73 : decode cX0_joinByKind 73 = .ok (.invokevirtual 82, 3) := by decide +kernel
theorem dX0_joinByKind_76 : decode cX0_joinByKind 76 = .ok (.iinc 2 1, 3) := by decide +kernel
theorem dX0_joinByKind_79 : decode cX0_joinByKind 79 = .ok (.goto (-61), 3) := by decide +kernel
theorem dX0_joinByKind_82 : decode cX0_joinByKind 82 = .ok (.aload_n 0, 1) := by decide +kernel
theorem dX0_joinByKind_83 : decode cX0_joinByKind 83 = .ok (.getfield 9, 3) := by decide +kernel
theorem dX0_joinByKind_86 : decode cX0_joinByKind 86 = .ok (.iconst 0, 1) := by decide +kernel
theorem dX0_joinByKind_87 : decode cX0_joinByKind 87 = .ok (.putfield 45, 3) := by decide +kernel
theorem dX0_joinByKind_90 : decode cX0_joinByKind 90 = .ok (.aload_n 0, 1) := by decide +kernel
theorem dX0_joinByKind_91 : decode cX0_joinByKind 91 = .ok (.getfield 29, 3) := by decide +kernel
theorem dX0_joinByKind_94 : decode cX0_joinByKind 94 = .ok (.getfield 41, 3) := by decide +kernel
theorem dX0_joinByKind_97 : decode cX0_joinByKind 97 = .ok (.ifCond .le 14, 3) := by decide +kernel
theorem dX0_joinByKind_100 : decode cX0_joinByKind 100 = .ok (.aload_n 0, 1) := by decide +kernel
theorem dX0_joinByKind_101 : decode cX0_joinByKind 101 = .ok (.getfield 9, 3) := by decide +kernel
theorem dX0_joinByKind_104 : decode cX0_joinByKind 104 = .ok (.aload_n 0, 1) := by decide +kernel
theorem dX0_joinByKind_105 : decode cX0_joinByKind 105 = .ok (.getfield 29, 3) := by decide +kernel
theorem dX0_joinByKind_108 : decode cX0_joinByKind 108 = .ok (.invokevirtual 76, 3) := by decide +kernel
theorem dX0_joinByKind_111 : decode cX0_joinByKind 111 = .ok (.aload_n 0, 1) := by decide +kernel
theorem dX0_joinByKind_112 : decode cX0_joinByKind 112 = .ok (.getfield 32, 3) := by decide +kernel
theorem dX0_joinByKind_115 : decode cX0_joinByKind 115 = .ok (.getfield 41, 3) := by decide +kernel
theorem dX0_joinByKind_118 : decode cX0_joinByKind 118 = .ok (.ifCond .le 14, 3) := by decide +kernel
theorem dX0_joinByKind_121 : decode cX0_joinByKind 121 = .ok (.aload_n 0, 1) := by decide +kernel
theorem dX0_joinByKind_122 : decode cX0_joinByKind 122 = .ok (.getfield 9, 3) := by decide +kernel
theorem dX0_joinByKind_125 : decode cX0_joinByKind 125 = .ok (.aload_n 0, 1) := by decide +kernel
theorem dX0_joinByKind_126 : decode cX0_joinByKind 126 = .ok (.getfield 32, 3) := by decide +kernel
theorem dX0_joinByKind_129 : decode cX0_joinByKind 129 = .ok (.invokevirtual 76, 3) := by decide +kernel
theorem dX0_joinByKind_132 : decode cX0_joinByKind 132 = .ok (.aload_n 0, 1) := by decide +kernel
theorem dX0_joinByKind_133 : decode cX0_joinByKind 133 = .ok (.getfield 9, 3) := by decide +kernel
theorem dX0_joinByKind_136 : decode cX0_joinByKind 136 = .ok (.invokevirtual 79, 3) := by decide +kernel
theorem dX0_joinByKind_139 : decode cX0_joinByKind 139 = .ok (.return_, 1) := by decide +kernel
theorem dX0_findBranch_0 : decode cX0_findBranch 0 = .ok (.iconst 0, 1) := by decide +kernel
theorem dX0_findBranch_1 : decode cX0_findBranch 1 = .ok (.istore_n 2, 1) := by decide +kernel
theorem dX0_findBranch_2 : decode cX0_findBranch 2 = .ok (.iload_n 2, 1) := by decide +kernel
theorem dX0_findBranch_3 : decode cX0_findBranch 3 = .ok (.aload_n 0, 1) := by decide +kernel
theorem dX0_findBranch_4 : decode cX0_findBranch 4 = .ok (.getfield 9, 3) := by decide +kernel
theorem dX0_findBranch_7 : decode cX0_findBranch 7 = .ok (.getfield 45, 3) := by decide +kernel
theorem dX0_findBranch_10 : decode cX0_findBranch 10 = .ok (.if_icmp .ge 27, 3) := by decide +kernel
theorem dX0_findBranch_13 : decode cX0_findBranch 13 = .ok (.aload_n 0, 1) := by decide +kernel
theorem dX0_findBranch_14 : decode cX0_findBranch 14 = .ok (.getfield 9, 3) := by decide +kernel
theorem dX0_findBranch_17 : decode cX0_findBranch 17 = .ok (.getfield 50, 3) := by decide +kernel
theorem dX0_findBranch_20 : decode cX0_findBranch 20 = .ok (.iload_n 2, 1) := by decide +kernel
theorem dX0_findBranch_21 : decode cX0_findBranch 21 = .ok (.aaload, 1) := by decide +kernel
theorem dX0_findBranch_22 : decode cX0_findBranch 22 = .ok (.aload_n 1, 1) := by decide +kernel
theorem dX0_findBranch_23 : decode cX0_findBranch 23 = .ok (.invokevirtual 93, 3) := by decide +kernel
theorem dX0_findBranch_26 : decode cX0_findBranch 26 = .ok (.ifCond .eq 5, 3) := by decide +kernel
theorem dX0_findBranch_29 : decode cX0_findBranch 29 = .ok (.iload_n 2, 1) := by decide +kernel
theorem dX0_findBranch_30 : decode cX0_findBranch 30 = .ok (.ireturn, 1) := by decide +kernel
theorem dX0_findBranch_31 : decode cX0_findBranch 31 = .ok (.iinc 2 1, 3) := by decide +kernel
theorem dX0_findBranch_34 : decode cX0_findBranch 34 = .ok (.goto (-32), 3) := by decide +kernel
theorem dX0_findBranch_37 : decode cX0_findBranch 37 = .ok (.iconst (-1), 1) := by decide +kernel
theorem dX0_findBranch_38 : decode cX0_findBranch 38 = .ok (.ireturn, 1) := by decide +kernel
theorem dX1_init_0 : decode cX1_init 0 = .ok (.aload_n 0, 1) := by decide +kernel
theorem dX1_init_1 : decode cX1_init 1 = .ok (.invokespecial 3, 3) := by decide +kernel
theorem dX1_init_4 : decode cX1_init 4 = .ok (.aload_n 0, 1) := by decide +kernel
theorem dX1_init_5 : decode cX1_init 5 = .ok (.aload_n 1, 1) := by decide +kernel
theorem dX1_init_6 : decode cX1_init 6 = .ok (.putfield 9, 3) := by decide +kernel
theorem dX1_init_9 : decode cX1_init 9 = .ok (.aload_n 0, 1) := by decide +kernel
theorem dX1_init_10 : decode cX1_init 10 = .ok (.aload_n 2, 1) := by decide +kernel
theorem dX1_init_11 : decode cX1_init 11 = .ok (.putfield 15, 3) := by decide +kernel
theorem dX1_init_14 : decode cX1_init 14 = .ok (.aload_n 0, 1) := by decide +kernel
theorem dX1_init_15 : decode cX1_init 15 = .ok (.aload_n 3, 1) := by decide +kernel
theorem dX1_init_16 : decode cX1_init 16 = .ok (.putfield 19, 3) := by decide +kernel
theorem dX1_init_19 : decode cX1_init 19 = .ok (.aload_n 0, 1) := by decide +kernel
theorem dX1_init_20 : decode cX1_init 20 = .ok (.bipush 7, 2) := by decide +kernel
theorem dX1_init_22 : decode cX1_init 22 = .ok (.anewarray 23, 3) := by decide +kernel
theorem dX1_init_25 : decode cX1_init 25 = .ok (.putfield 25, 3) := by decide +kernel
theorem dX1_init_28 : decode cX1_init 28 = .ok (.iconst 0, 1) := by decide +kernel
theorem dX1_init_29 : decode cX1_init 29 = .ok (.istore 4, 2) := by decide +kernel
theorem dX1_init_31 : decode cX1_init 31 = .ok (.iload 4, 2) := by decide +kernel
theorem dX1_init_33 : decode cX1_init 33 = .ok (.bipush 6, 2) := by decide +kernel
theorem dX1_init_35 : decode cX1_init 35 = .ok (.if_icmp .gt 23, 3) := by decide +kernel
theorem dX1_init_38 : decode cX1_init 38 = .ok (.aload_n 0, 1) := by decide +kernel
theorem dX1_init_39 : decode cX1_init 39 = .ok (.getfield 25, 3) := by decide +kernel
theorem dX1_init_42 : decode cX1_init 42 = .ok (.iload 4, 2) := by decide +kernel
theorem dX1_init_44 : decode cX1_init 44 = .ok (.new 23, 3) := by decide +kernel
theorem dX1_init_47 : decode cX1_init 47 = .ok (.dup, 1) := by decide +kernel
theorem dX1_init_48 : decode cX1_init 48 = .ok (.invokespecial 29, 3) := by decide +kernel
theorem dX1_init_51 : decode cX1_init 51 = .ok (.aastore, 1) := by decide +kernel
theorem dX1_init_52 : decode cX1_init 52 = .ok (.iinc 4 1, 3) := by decide +kernel
theorem dX1_init_55 : decode cX1_init 55 = .ok (.goto (-24), 3) := by decide +kernel
theorem dX1_init_58 : decode cX1_init 58 = .ok (.aload_n 0, 1) := by decide +kernel
theorem dX1_init_59 : decode cX1_init 59 = .ok (.new 23, 3) := by decide +kernel
theorem dX1_init_62 : decode cX1_init 62 = .ok (.dup, 1) := by decide +kernel
theorem dX1_init_63 : decode cX1_init 63 = .ok (.invokespecial 29, 3) := by decide +kernel
theorem dX1_init_66 : decode cX1_init 66 = .ok (.putfield 30, 3) := by decide +kernel
theorem dX1_init_69 : decode cX1_init 69 = .ok (.aload_n 0, 1) := by decide +kernel
theorem dX1_init_70 : decode cX1_init 70 = .ok (.new 23, 3) := by decide +kernel
theorem dX1_init_73 : decode cX1_init 73 = .ok (.dup, 1) := by decide +kernel
theorem dX1_init_74 : decode cX1_init 74 = .ok (.invokespecial 29, 3) := by decide +kernel
theorem dX1_init_77 : decode cX1_init 77 = .ok (.putfield 34, 3) := by decide +kernel
theorem dX1_init_80 : decode cX1_init 80 = .ok (.aload_n 0, 1) := by decide +kernel
theorem dX1_init_81 : decode cX1_init 81 = .ok (.new 23, 3) := by decide +kernel
theorem dX1_init_84 : decode cX1_init 84 = .ok (.dup, 1) := by decide +kernel
theorem dX1_init_85 : decode cX1_init 85 = .ok (.invokespecial 29, 3) := by decide +kernel
theorem dX1_init_88 : decode cX1_init 88 = .ok (.putfield 37, 3) := by decide +kernel
theorem dX1_init_91 : decode cX1_init 91 = .ok (.aload_n 0, 1) := by decide +kernel
theorem dX1_init_92 : decode cX1_init 92 = .ok (.new 23, 3) := by decide +kernel
theorem dX1_init_95 : decode cX1_init 95 = .ok (.dup, 1) := by decide +kernel
theorem dX1_init_96 : decode cX1_init 96 = .ok (.invokespecial 29, 3) := by decide +kernel
theorem dX1_init_99 : decode cX1_init 99 = .ok (.putfield 40, 3) := by decide +kernel
theorem dX1_init_102 : decode cX1_init 102 = .ok (.return_, 1) := by decide +kernel
theorem dX1_find_0 : decode cX1_find 0 = .ok (.aload_n 0, 1) := by decide +kernel
theorem dX1_find_1 : decode cX1_find 1 = .ok (.getfield 30, 3) := by decide +kernel
theorem dX1_find_4 : decode cX1_find 4 = .ok (.aload_n 0, 1) := by decide +kernel
theorem dX1_find_5 : decode cX1_find 5 = .ok (.getfield 9, 3) := by decide +kernel
theorem dX1_find_8 : decode cX1_find 8 = .ok (.getfield 43, 3) := by decide +kernel
theorem dX1_find_11 : decode cX1_find 11 = .ok (.invokevirtual 48, 3) := by decide +kernel
theorem dX1_find_14 : decode cX1_find 14 = .ok (.aload_n 0, 1) := by decide +kernel
theorem dX1_find_15 : decode cX1_find 15 = .ok (.getfield 40, 3) := by decide +kernel
theorem dX1_find_18 : decode cX1_find 18 = .ok (.invokevirtual 52, 3) := by decide +kernel
theorem dX1_find_21 : decode cX1_find 21 = .ok (.aload_n 0, 1) := by decide +kernel
theorem dX1_find_22 : decode cX1_find 22 = .ok (.getfield 19, 3) := by decide +kernel
theorem dX1_find_25 : decode cX1_find 25 = .ok (.aload_n 0, 1) := by decide +kernel
theorem dX1_find_26 : decode cX1_find 26 = .ok (.getfield 34, 3) := by decide +kernel
theorem dX1_find_29 : decode cX1_find 29 = .ok (.invokevirtual 55, 3) := by decide +kernel
theorem dX1_find_32 : decode cX1_find 32 = .ok (.iconst 1, 1) := by decide +kernel
theorem dX1_find_33 : decode cX1_find 33 = .ok (.istore_n 1, 1) := by decide +kernel
theorem dX1_find_34 : decode cX1_find 34 = .ok (.iload_n 1, 1) := by decide +kernel
theorem dX1_find_35 : decode cX1_find 35 = .ok (.bipush 6, 2) := by decide +kernel
theorem dX1_find_37 : decode cX1_find 37 = .ok (.if_icmp .gt 100, 3) := by decide +kernel
theorem dX1_find_40 : decode cX1_find 40 = .ok (.aload_n 0, 1) := by decide +kernel
theorem dX1_find_41 : decode cX1_find 41 = .ok (.getfield 19, 3) := by decide +kernel
theorem dX1_find_44 : decode cX1_find 44 = .ok (.aload_n 0, 1) := by decide +kernel
theorem dX1_find_45 : decode cX1_find 45 = .ok (.getfield 34, 3) := by decide +kernel
theorem dX1_find_48 : decode cX1_find 48 = .ok (.aload_n 0, 1) := by decide +kernel
theorem dX1_find_49 : decode cX1_find 49 = .ok (.getfield 34, 3) := by decide +kernel
theorem dX1_find_52 : decode cX1_find 52 = .ok (.aload_n 0, 1) := by decide +kernel
theorem dX1_find_53 : decode cX1_find 53 = .ok (.getfield 9, 3) := by decide +kernel
theorem dX1_find_56 : decode cX1_find 56 = .ok (.getfield 59, 3) := by decide +kernel
theorem dX1_find_59 : decode cX1_find 59 = .ok (.invokevirtual 63, 3) := by decide +kernel
theorem dX1_find_62 : decode cX1_find 62 = .ok (.aload_n 0, 1) := by decide +kernel
theorem dX1_find_63 : decode cX1_find 63 = .ok (.getfield 37, 3) := by decide +kernel
theorem dX1_find_66 : decode cX1_find 66 = .ok (.aload_n 0, 1) := by decide +kernel
theorem dX1_find_67 : decode cX1_find 67 = .ok (.getfield 34, 3) := by decide +kernel
theorem dX1_find_70 : decode cX1_find 70 = .ok (.invokevirtual 48, 3) := by decide +kernel
theorem dX1_find_73 : decode cX1_find 73 = .ok (.aload_n 0, 1) := by decide +kernel
theorem dX1_find_74 : decode cX1_find 74 = .ok (.getfield 19, 3) := by decide +kernel
theorem dX1_find_77 : decode cX1_find 77 = .ok (.aload_n 0, 1) := by decide +kernel
theorem dX1_find_78 : decode cX1_find 78 = .ok (.getfield 37, 3) := by decide +kernel
theorem dX1_find_81 : decode cX1_find 81 = .ok (.aload_n 0, 1) := by decide +kernel
theorem dX1_find_82 : decode cX1_find 82 = .ok (.getfield 40, 3) := by decide +kernel
theorem dX1_find_85 : decode cX1_find 85 = .ok (.iconst 1, 1) := by decide +kernel
theorem dX1_find_86 : decode cX1_find 86 = .ok (.invokevirtual 67, 3) := by decide +kernel
theorem dX1_find_89 : decode cX1_find 89 = .ok (.aload_n 0, 1) := by decide +kernel
theorem dX1_find_90 : decode cX1_find 90 = .ok (.getfield 15, 3) := by decide +kernel
theorem dX1_find_93 : decode cX1_find 93 = .ok (.aload_n 0, 1) := by decide +kernel
theorem dX1_find_94 : decode cX1_find 94 = .ok (.getfield 25, 3) := by decide +kernel
theorem dX1_find_97 : decode cX1_find 97 = .ok (.iload_n 1, 1) := by decide +kernel
theorem dX1_find_98 : decode cX1_find 98 = .ok (.aaload, 1) := by decide +kernel
theorem dX1_find_99 : decode cX1_find 99 = .ok (.aload_n 0, 1) := by decide +kernel
theorem dX1_find_100 : decode cX1_find 100 = .ok (.getfield 30, 3) := by decide +kernel
theorem dX1_find_103 : decode cX1_find 103 = .ok (.aload_n 0, 1) := by decide +kernel
theorem dX1_find_104 : decode cX1_find 104 = .ok (.getfield 37, 3) := by decide +kernel
theorem dX1_find_107 : decode cX1_find 107 = .ok (.invokevirtual 71, 3) := by decide +kernel
theorem dX1_find_110 : decode cX1_find 110 = .ok (.aload_n 0, 1) := by decide +kernel
theorem dX1_find_111 : decode cX1_find 111 = .ok (.getfield 15, 3) := by decide +kernel
theorem dX1_find_114 : decode cX1_find 114 = .ok (.aload_n 0, 1) := by decide +kernel
theorem dX1_find_115 : decode cX1_find 115 = .ok (.getfield 30, 3) := by decide +kernel
theorem dX1_find_118 : decode cX1_find 118 = .ok (.aload_n 0, 1) := by decide +kernel
theorem dX1_find_119 : decode cX1_find 119 = .ok (.getfield 30, 3) := by decide +kernel
theorem dX1_find_122 : decode cX1_find 122 = .ok (.aload_n 0, 1) := by decide +kernel
theorem dX1_find_123 : decode cX1_find 123 = .ok (.getfield 25, 3) := by decide +kernel
theorem dX1_find_126 : decode cX1_find 126 = .ok (.iload_n 1, 1) := by decide +kernel
theorem dX1_find_127 : decode cX1_find 127 = .ok (.aaload, 1) := by decide +kernel
theorem dX1_find_128 : decode cX1_find 128 = .ok (.invokevirtual 77, 3) := by decide +kernel
theorem dX1_find_131 : decode cX1_find 131 = .ok (.iinc 1 1, 3) := by decide +kernel
theorem dX1_find_134 : decode cX1_find 134 = .ok (.goto (-100), 3) := by decide +kernel
theorem dX1_find_137 : decode cX1_find 137 = .ok (.return_, 1) := by decide +kernel
theorem dX1_factorsOf_0 : decode cX1_factorsOf 0 = .ok (.iload_n 1, 1) := by decide +kernel
theorem dX1_factorsOf_1 : decode cX1_factorsOf 1 = .ok (.iconst 1, 1) := by decide +kernel
theorem dX1_factorsOf_2 : decode cX1_factorsOf 2 = .ok (.if_icmp .lt 9, 3) := by decide +kernel
theorem dX1_factorsOf_5 : decode cX1_factorsOf 5 = .ok (.iload_n 1, 1) := by decide +kernel
theorem dX1_factorsOf_6 : decode cX1_factorsOf 6 = .ok (.bipush 6, 2) := by decide +kernel
theorem dX1_factorsOf_8 : decode cX1_factorsOf 8 = .ok (.if_icmp .le 7, 3) := by decide +kernel
theorem dX1_factorsOf_11 : decode cX1_factorsOf 11 = .ok (.iconst 0, 1) := by decide +kernel
theorem dX1_factorsOf_12 : decode cX1_factorsOf 12 = .ok (.goto 14, 3) := by decide +kernel
theorem dX1_factorsOf_15 : decode cX1_factorsOf 15 = .ok (.aload_n 0, 1) := by decide +kernel
theorem dX1_factorsOf_16 : decode cX1_factorsOf 16 = .ok (.getfield 25, 3) := by decide +kernel
theorem dX1_factorsOf_19 : decode cX1_factorsOf 19 = .ok (.iload_n 1, 1) := by decide +kernel
theorem dX1_factorsOf_20 : decode cX1_factorsOf 20 = .ok (.aaload, 1) := by decide +kernel
theorem dX1_factorsOf_21 : decode cX1_factorsOf 21 = .ok (.getfield 80, 3) := by decide +kernel
theorem dX1_factorsOf_24 : decode cX1_factorsOf 24 = .ok (.iload_n 1, 1) := by decide +kernel
theorem dX1_factorsOf_25 : decode cX1_factorsOf 25 = .ok (.idiv, 1) := by decide +kernel
theorem dX1_factorsOf_26 : decode cX1_factorsOf 26 = .ok (.ireturn, 1) := by decide +kernel
theorem dX1_allFactors_0 : decode cX1_allFactors 0 = .ok (.iconst 0, 1) := by decide +kernel
theorem dX1_allFactors_1 : decode cX1_allFactors 1 = .ok (.istore_n 1, 1) := by decide +kernel
theorem dX1_allFactors_2 : decode cX1_allFactors 2 = .ok (.iconst 1, 1) := by decide +kernel
theorem dX1_allFactors_3 : decode cX1_allFactors 3 = .ok (.istore_n 2, 1) := by decide +kernel
theorem dX1_allFactors_4 : decode cX1_allFactors 4 = .ok (.iload_n 2, 1) := by decide +kernel
theorem dX1_allFactors_5 : decode cX1_allFactors 5 = .ok (.bipush 6, 2) := by decide +kernel
theorem dX1_allFactors_7 : decode cX1_allFactors 7 = .ok (.if_icmp .gt 17, 3) := by decide +kernel
theorem dX1_allFactors_10 : decode cX1_allFactors 10 = .ok (.iload_n 1, 1) := by decide +kernel
theorem dX1_allFactors_11 : decode cX1_allFactors 11 = .ok (.aload_n 0, 1) := by decide +kernel
theorem dX1_allFactors_12 : decode cX1_allFactors 12 = .ok (.iload_n 2, 1) := by decide +kernel
theorem dX1_allFactors_13 : decode cX1_allFactors 13 = .ok (.invokevirtual 83, 3) := by decide +kernel
theorem dX1_allFactors_16 : decode cX1_allFactors 16 = .ok (.iadd, 1) := by decide +kernel
theorem dX1_allFactors_17 : decode cX1_allFactors 17 = .ok (.istore_n 1, 1) := by decide +kernel
theorem dX1_allFactors_18 : decode cX1_allFactors 18 = .ok (.iinc 2 1, 3) := by decide +kernel
theorem dX1_allFactors_21 : decode cX1_allFactors 21 = .ok (.goto (-17), 3) := by decide +kernel
theorem dX1_allFactors_24 : decode cX1_allFactors 24 = .ok (.iload_n 1, 1) := by decide +kernel
theorem dX1_allFactors_25 : decode cX1_allFactors 25 = .ok (.ireturn, 1) := by decide +kernel
theorem dX1_commonExponent_0 : decode cX1_commonExponent 0 = .ok (.iconst 1, 1) := by decide +kernel
theorem dX1_commonExponent_1 : decode cX1_commonExponent 1 = .ok (.istore_n 1, 1) := by decide +kernel
theorem dX1_commonExponent_2 : decode cX1_commonExponent 2 = .ok (.iconst 1, 1) := by decide +kernel
theorem dX1_commonExponent_3 : decode cX1_commonExponent 3 = .ok (.istore_n 2, 1) := by decide +kernel
theorem dX1_commonExponent_4 : decode cX1_commonExponent 4 = .ok (.iconst 1, 1) := by decide +kernel
theorem dX1_commonExponent_5 : decode cX1_commonExponent 5 = .ok (.istore_n 3, 1) := by decide +kernel
theorem dX1_commonExponent_6 : decode cX1_commonExponent 6 = .ok (.iload_n 3, 1) := by decide +kernel
theorem dX1_commonExponent_7 : decode cX1_commonExponent 7 = .ok (.bipush 6, 2) := by decide +kernel
theorem dX1_commonExponent_9 : decode cX1_commonExponent 9 = .ok (.if_icmp .gt 35, 3) := by decide +kernel
theorem dX1_commonExponent_12 : decode cX1_commonExponent 12 = .ok (.iload_n 2, 1) := by decide +kernel
theorem dX1_commonExponent_13 : decode cX1_commonExponent 13 = .ok (.aload_n 0, 1) := by decide +kernel
theorem dX1_commonExponent_14 : decode cX1_commonExponent 14 = .ok (.getfield 9, 3) := by decide +kernel
theorem dX1_commonExponent_17 : decode cX1_commonExponent 17 = .ok (.getfield 59, 3) := by decide +kernel
theorem dX1_commonExponent_20 : decode cX1_commonExponent 20 = .ok (.imul, 1) := by decide +kernel
theorem dX1_commonExponent_21 : decode cX1_commonExponent 21 = .ok (.istore_n 2, 1) := by decide +kernel
theorem dX1_commonExponent_22 : decode cX1_commonExponent 22 = .ok (.aload_n 0, 1) := by decide +kernel
theorem dX1_commonExponent_23 : decode cX1_commonExponent 23 = .ok (.iload_n 3, 1) := by decide +kernel
theorem dX1_commonExponent_24 : decode cX1_commonExponent 24 = .ok (.invokevirtual 83, 3) := by decide +kernel
theorem dX1_commonExponent_27 : decode cX1_commonExponent 27 = .ok (.ifCond .le 11, 3) := by decide +kernel
theorem dX1_commonExponent_30 : decode cX1_commonExponent 30 = .ok (.iload_n 1, 1) := by decide +kernel
theorem dX1_commonExponent_31 : decode cX1_commonExponent 31 = .ok (.iload_n 2, 1) := by decide +kernel
theorem dX1_commonExponent_32 : decode cX1_commonExponent 32 = .ok (.iconst 1, 1) := by decide +kernel
theorem dX1_commonExponent_33 : decode cX1_commonExponent 33 = .ok (.isub, 1) := by decide +kernel
theorem dX1_commonExponent_34 : decode cX1_commonExponent 34 = .ok (.invokestatic 87, 3) := by decide +kernel
theorem dX1_commonExponent_37 : decode cX1_commonExponent 37 = .ok (.istore_n 1, 1) := by decide +kernel
theorem dX1_commonExponent_38 : decode cX1_commonExponent 38 = .ok (.iinc 3 1, 3) := by decide +kernel
theorem dX1_commonExponent_41 : decode cX1_commonExponent 41 = .ok (.goto (-35), 3) := by decide +kernel
theorem dX1_commonExponent_44 : decode cX1_commonExponent 44 = .ok (.iload_n 1, 1) := by decide +kernel
theorem dX1_commonExponent_45 : decode cX1_commonExponent 45 = .ok (.ireturn, 1) := by decide +kernel
theorem dX1_leastMultiple_0 : decode cX1_leastMultiple 0 = .ok (.iload_n 0, 1) := by decide +kernel
theorem dX1_leastMultiple_1 : decode cX1_leastMultiple 1 = .ok (.istore_n 2, 1) := by decide +kernel
theorem dX1_leastMultiple_2 : decode cX1_leastMultiple 2 = .ok (.iload_n 1, 1) := by decide +kernel
theorem dX1_leastMultiple_3 : decode cX1_leastMultiple 3 = .ok (.istore_n 3, 1) := by decide +kernel
theorem dX1_leastMultiple_4 : decode cX1_leastMultiple 4 = .ok (.iconst 0, 1) := by decide +kernel
theorem dX1_leastMultiple_5 : decode cX1_leastMultiple 5 = .ok (.istore 4, 2) := by decide +kernel
theorem dX1_leastMultiple_7 : decode cX1_leastMultiple 7 = .ok (.iload 4, 2) := by decide +kernel
theorem dX1_leastMultiple_9 : decode cX1_leastMultiple 9 = .ok (.bipush 64, 2) := by decide +kernel
theorem dX1_leastMultiple_11 : decode cX1_leastMultiple 11 = .ok (.if_icmp .ge 23, 3) := by decide +kernel
theorem dX1_leastMultiple_14 : decode cX1_leastMultiple 14 = .ok (.iload_n 3, 1) := by decide +kernel
theorem dX1_leastMultiple_15 : decode cX1_leastMultiple 15 = .ok (.ifCond .le 19, 3) := by decide +kernel
theorem dX1_leastMultiple_18 : decode cX1_leastMultiple 18 = .ok (.iload_n 2, 1) := by decide +kernel
theorem dX1_leastMultiple_19 : decode cX1_leastMultiple 19 = .ok (.iload_n 3, 1) := by decide +kernel
theorem dX1_leastMultiple_20 : decode cX1_leastMultiple 20 = .ok (.irem, 1) := by decide +kernel
theorem dX1_leastMultiple_21 : decode cX1_leastMultiple 21 = .ok (.istore 5, 2) := by decide +kernel
theorem dX1_leastMultiple_23 : decode cX1_leastMultiple 23 = .ok (.iload_n 3, 1) := by decide +kernel
theorem dX1_leastMultiple_24 : decode cX1_leastMultiple 24 = .ok (.istore_n 2, 1) := by decide +kernel
theorem dX1_leastMultiple_25 : decode cX1_leastMultiple 25 = .ok (.iload 5, 2) := by decide +kernel
theorem dX1_leastMultiple_27 : decode cX1_leastMultiple 27 = .ok (.istore_n 3, 1) := by decide +kernel
theorem dX1_leastMultiple_28 : decode cX1_leastMultiple 28 = .ok (.iinc 4 1, 3) := by decide +kernel
theorem dX1_leastMultiple_31 : decode cX1_leastMultiple 31 = .ok (.goto (-24), 3) := by decide +kernel
theorem dX1_leastMultiple_34 : decode cX1_leastMultiple 34 = .ok (.iload_n 2, 1) := by decide +kernel
theorem dX1_leastMultiple_35 : decode cX1_leastMultiple 35 = .ok (.ifCond .le 11, 3) := by decide +kernel
theorem dX1_leastMultiple_38 : decode cX1_leastMultiple 38 = .ok (.iload_n 0, 1) := by decide +kernel
theorem dX1_leastMultiple_39 : decode cX1_leastMultiple 39 = .ok (.iload_n 2, 1) := by decide +kernel
theorem dX1_leastMultiple_40 : decode cX1_leastMultiple 40 = .ok (.idiv, 1) := by decide +kernel
theorem dX1_leastMultiple_41 : decode cX1_leastMultiple 41 = .ok (.iload_n 1, 1) := by decide +kernel
theorem dX1_leastMultiple_42 : decode cX1_leastMultiple 42 = .ok (.imul, 1) := by decide +kernel
theorem dX1_leastMultiple_43 : decode cX1_leastMultiple 43 = .ok (.goto 4, 3) := by decide +kernel
theorem dX1_leastMultiple_46 : decode cX1_leastMultiple 46 = .ok (.iload_n 0, 1) := by decide +kernel
theorem dX1_leastMultiple_47 : decode cX1_leastMultiple 47 = .ok (.ireturn, 1) := by decide +kernel
theorem dX2_init_0 : decode cX2_init 0 = .ok (.aload_n 0, 1) := by decide +kernel
theorem dX2_init_1 : decode cX2_init 1 = .ok (.invokespecial 1, 3) := by decide +kernel
theorem dX2_init_4 : decode cX2_init 4 = .ok (.aload_n 0, 1) := by decide +kernel
theorem dX2_init_5 : decode cX2_init 5 = .ok (.aload_n 1, 1) := by decide +kernel
theorem dX2_init_6 : decode cX2_init 6 = .ok (.putfield 7, 3) := by decide +kernel
theorem dX2_init_9 : decode cX2_init 9 = .ok (.aload_n 0, 1) := by decide +kernel
theorem dX2_init_10 : decode cX2_init 10 = .ok (.new 13, 3) := by decide +kernel
theorem dX2_init_13 : decode cX2_init 13 = .ok (.dup, 1) := by decide +kernel
theorem dX2_init_14 : decode cX2_init 14 = .ok (.invokespecial 15, 3) := by decide +kernel
theorem dX2_init_17 : decode cX2_init 17 = .ok (.putfield 16, 3) := by decide +kernel
theorem dX2_init_20 : decode cX2_init 20 = .ok (.aload_n 0, 1) := by decide +kernel
theorem dX2_init_21 : decode cX2_init 21 = .ok (.new 13, 3) := by decide +kernel
theorem dX2_init_24 : decode cX2_init 24 = .ok (.dup, 1) := by decide +kernel
theorem dX2_init_25 : decode cX2_init 25 = .ok (.invokespecial 15, 3) := by decide +kernel
theorem dX2_init_28 : decode cX2_init 28 = .ok (.putfield 20, 3) := by decide +kernel
theorem dX2_init_31 : decode cX2_init 31 = .ok (.aload_n 0, 1) := by decide +kernel
theorem dX2_init_32 : decode cX2_init 32 = .ok (.new 13, 3) := by decide +kernel
theorem dX2_init_35 : decode cX2_init 35 = .ok (.dup, 1) := by decide +kernel
theorem dX2_init_36 : decode cX2_init 36 = .ok (.invokespecial 15, 3) := by decide +kernel
theorem dX2_init_39 : decode cX2_init 39 = .ok (.putfield 23, 3) := by decide +kernel
theorem dX2_init_42 : decode cX2_init 42 = .ok (.aload_n 0, 1) := by decide +kernel
theorem dX2_init_43 : decode cX2_init 43 = .ok (.new 13, 3) := by decide +kernel
theorem dX2_init_46 : decode cX2_init 46 = .ok (.dup, 1) := by decide +kernel
theorem dX2_init_47 : decode cX2_init 47 = .ok (.invokespecial 15, 3) := by decide +kernel
theorem dX2_init_50 : decode cX2_init 50 = .ok (.putfield 26, 3) := by decide +kernel
theorem dX2_init_53 : decode cX2_init 53 = .ok (.aload_n 0, 1) := by decide +kernel
theorem dX2_init_54 : decode cX2_init 54 = .ok (.new 13, 3) := by decide +kernel
theorem dX2_init_57 : decode cX2_init 57 = .ok (.dup, 1) := by decide +kernel
theorem dX2_init_58 : decode cX2_init 58 = .ok (.invokespecial 15, 3) := by decide +kernel
theorem dX2_init_61 : decode cX2_init 61 = .ok (.putfield 29, 3) := by decide +kernel
theorem dX2_init_64 : decode cX2_init 64 = .ok (.aload_n 0, 1) := by decide +kernel
theorem dX2_init_65 : decode cX2_init 65 = .ok (.new 13, 3) := by decide +kernel
theorem dX2_init_68 : decode cX2_init 68 = .ok (.dup, 1) := by decide +kernel
theorem dX2_init_69 : decode cX2_init 69 = .ok (.invokespecial 15, 3) := by decide +kernel
theorem dX2_init_72 : decode cX2_init 72 = .ok (.putfield 32, 3) := by decide +kernel
theorem dX2_init_75 : decode cX2_init 75 = .ok (.aload_n 0, 1) := by decide +kernel
theorem dX2_init_76 : decode cX2_init 76 = .ok (.new 13, 3) := by decide +kernel
theorem dX2_init_79 : decode cX2_init 79 = .ok (.dup, 1) := by decide +kernel
theorem dX2_init_80 : decode cX2_init 80 = .ok (.invokespecial 15, 3) := by decide +kernel
theorem dX2_init_83 : decode cX2_init 83 = .ok (.putfield 35, 3) := by decide +kernel
theorem dX2_init_86 : decode cX2_init 86 = .ok (.return_, 1) := by decide +kernel
theorem dX2_inverseOf_0 : decode cX2_inverseOf 0 = .ok (.iconst 1, 1) := by decide +kernel
theorem dX2_inverseOf_1 : decode cX2_inverseOf 1 = .ok (.istore_n 2, 1) := by decide +kernel
theorem dX2_inverseOf_2 : decode cX2_inverseOf 2 = .ok (.iload_n 2, 1) := by decide +kernel
theorem dX2_inverseOf_3 : decode cX2_inverseOf 3 = .ok (.aload_n 0, 1) := by decide +kernel
theorem dX2_inverseOf_4 : decode cX2_inverseOf 4 = .ok (.getfield 7, 3) := by decide +kernel
theorem dX2_inverseOf_7 : decode cX2_inverseOf 7 = .ok (.getfield 38, 3) := by decide +kernel
theorem dX2_inverseOf_10 : decode cX2_inverseOf 10 = .ok (.if_icmp .ge 25, 3) := by decide +kernel
theorem dX2_inverseOf_13 : decode cX2_inverseOf 13 = .ok (.aload_n 0, 1) := by decide +kernel
theorem dX2_inverseOf_14 : decode cX2_inverseOf 14 = .ok (.getfield 7, 3) := by decide +kernel
theorem dX2_inverseOf_17 : decode cX2_inverseOf 17 = .ok (.iload_n 2, 1) := by decide +kernel
theorem dX2_inverseOf_18 : decode cX2_inverseOf 18 = .ok (.iload_n 1, 1) := by decide +kernel
theorem dX2_inverseOf_19 : decode cX2_inverseOf 19 = .ok (.imul, 1) := by decide +kernel
theorem dX2_inverseOf_20 : decode cX2_inverseOf 20 = .ok (.invokevirtual 44, 3) := by decide +kernel
theorem dX2_inverseOf_23 : decode cX2_inverseOf 23 = .ok (.iconst 1, 1) := by decide +kernel
theorem dX2_inverseOf_24 : decode cX2_inverseOf 24 = .ok (.if_icmp .ne 5, 3) := by decide +kernel
theorem dX2_inverseOf_27 : decode cX2_inverseOf 27 = .ok (.iload_n 2, 1) := by decide +kernel
theorem dX2_inverseOf_28 : decode cX2_inverseOf 28 = .ok (.ireturn, 1) := by decide +kernel
theorem dX2_inverseOf_29 : decode cX2_inverseOf 29 = .ok (.iinc 2 1, 3) := by decide +kernel
theorem dX2_inverseOf_32 : decode cX2_inverseOf 32 = .ok (.goto (-30), 3) := by decide +kernel
theorem dX2_inverseOf_35 : decode cX2_inverseOf 35 = .ok (.iconst 0, 1) := by decide +kernel
theorem dX2_inverseOf_36 : decode cX2_inverseOf 36 = .ok (.ireturn, 1) := by decide +kernel
theorem dX2_scale_0 : decode cX2_scale 0 = .ok (.aload_n 1, 1) := by decide +kernel
theorem dX2_scale_1 : decode cX2_scale 1 = .ok (.iload_n 2, 1) := by decide +kernel
theorem dX2_scale_2 : decode cX2_scale 2 = .ok (.iconst 1, 1) := by decide +kernel
theorem dX2_scale_3 : decode cX2_scale 3 = .ok (.isub, 1) := by decide +kernel
theorem dX2_scale_4 : decode cX2_scale 4 = .ok (.aload_n 1, 1) := by decide +kernel
theorem dX2_scale_5 : decode cX2_scale 5 = .ok (.iconst 0, 1) := by decide +kernel
theorem dX2_scale_6 : decode cX2_scale 6 = .ok (.aload_n 0, 1) := by decide +kernel
theorem dX2_scale_7 : decode cX2_scale 7 = .ok (.getfield 7, 3) := by decide +kernel
theorem dX2_scale_10 : decode cX2_scale 10 = .ok (.getfield 38, 3) := by decide +kernel
theorem dX2_scale_13 : decode cX2_scale 13 = .ok (.invokevirtual 48, 3) := by decide +kernel
theorem dX2_scale_16 : decode cX2_scale 16 = .ok (.return_, 1) := by decide +kernel
theorem dX2_multiply_0 : decode cX2_multiply 0 = .ok (.aload_n 0, 1) := by decide +kernel
theorem dX2_multiply_1 : decode cX2_multiply 1 = .ok (.getfield 16, 3) := by decide +kernel
theorem dX2_multiply_4 : decode cX2_multiply 4 = .ok (.invokevirtual 52, 3) := by decide +kernel
theorem dX2_multiply_7 : decode cX2_multiply 7 = .ok (.iconst 0, 1) := by decide +kernel
theorem dX2_multiply_8 : decode cX2_multiply 8 = .ok (.istore 4, 2) := by decide +kernel
theorem dX2_multiply_10 : decode cX2_multiply 10 = .ok (.iload 4, 2) := by decide +kernel
theorem dX2_multiply_12 : decode cX2_multiply 12 = .ok (.aload_n 2, 1) := by decide +kernel
theorem dX2_multiply_13 : decode cX2_multiply 13 = .ok (.getfield 55, 3) := by decide +kernel
theorem dX2_multiply_16 : decode cX2_multiply 16 = .ok (.if_icmp .gt 32, 3) := by decide +kernel
theorem dX2_multiply_19 : decode cX2_multiply 19 = .ok (.aload_n 0, 1) := by decide +kernel
theorem dX2_multiply_20 : decode cX2_multiply 20 = .ok (.getfield 16, 3) := by decide +kernel
theorem dX2_multiply_23 : decode cX2_multiply 23 = .ok (.aload_n 2, 1) := by decide +kernel
theorem dX2_multiply_24 : decode cX2_multiply 24 = .ok (.iload 4, 2) := by decide +kernel
theorem dX2_multiply_26 : decode cX2_multiply 26 = .ok (.invokevirtual 58, 3) := by decide +kernel
theorem dX2_multiply_29 : decode cX2_multiply 29 = .ok (.aload_n 3, 1) := by decide +kernel
theorem dX2_multiply_30 : decode cX2_multiply 30 = .ok (.iload 4, 2) := by decide +kernel
theorem dX2_multiply_32 : decode cX2_multiply 32 = .ok (.aload_n 0, 1) := by decide +kernel
theorem dX2_multiply_33 : decode cX2_multiply 33 = .ok (.getfield 7, 3) := by decide +kernel
theorem dX2_multiply_36 : decode cX2_multiply 36 = .ok (.getfield 38, 3) := by decide +kernel
theorem dX2_multiply_39 : decode cX2_multiply 39 = .ok (.invokevirtual 48, 3) := by decide +kernel
theorem dX2_multiply_42 : decode cX2_multiply 42 = .ok (.iinc 4 1, 3) := by decide +kernel
theorem dX2_multiply_45 : decode cX2_multiply 45 = .ok (.goto (-35), 3) := by decide +kernel
theorem dX2_multiply_48 : decode cX2_multiply 48 = .ok (.aload_n 1, 1) := by decide +kernel
theorem dX2_multiply_49 : decode cX2_multiply 49 = .ok (.aload_n 0, 1) := by decide +kernel
theorem dX2_multiply_50 : decode cX2_multiply 50 = .ok (.getfield 16, 3) := by decide +kernel
theorem dX2_multiply_53 : decode cX2_multiply 53 = .ok (.invokevirtual 61, 3) := by decide +kernel
theorem dX2_multiply_56 : decode cX2_multiply 56 = .ok (.return_, 1) := by decide +kernel
theorem dX2_divide_0 : decode cX2_divide 0 = .ok (.aload_n 3, 1) := by decide +kernel
theorem dX2_divide_1 : decode cX2_divide 1 = .ok (.invokevirtual 52, 3) := by decide +kernel
theorem dX2_divide_4 : decode cX2_divide 4 = .ok (.aload_n 0, 1) := by decide +kernel
theorem dX2_divide_5 : decode cX2_divide 5 = .ok (.aload_n 2, 1) := by decide +kernel
theorem dX2_divide_6 : decode cX2_divide 6 = .ok (.aload_n 2, 1) := by decide +kernel
theorem dX2_divide_7 : decode cX2_divide 7 = .ok (.getfield 55, 3) := by decide +kernel
theorem dX2_divide_10 : decode cX2_divide 10 = .ok (.invokevirtual 58, 3) := by decide +kernel
theorem dX2_divide_13 : decode cX2_divide 13 = .ok (.invokevirtual 65, 3) := by decide +kernel
theorem dX2_divide_16 : decode cX2_divide 16 = .ok (.istore 4, 2) := by decide +kernel
theorem dX2_divide_18 : decode cX2_divide 18 = .ok (.iload 4, 2) := by decide +kernel
theorem dX2_divide_20 : decode cX2_divide 20 = .ok (.ifCond .ne 4, 3) := by decide +kernel
theorem dX2_divide_23 : decode cX2_divide 23 = .ok (.return_, 1) := by decide +kernel
theorem dX2_divide_24 : decode cX2_divide 24 = .ok (.aload_n 1, 1) := by decide +kernel
theorem dX2_divide_25 : decode cX2_divide 25 = .ok (.getfield 55, 3) := by decide +kernel
theorem dX2_divide_28 : decode cX2_divide 28 = .ok (.aload_n 2, 1) := by decide +kernel
theorem dX2_divide_29 : decode cX2_divide 29 = .ok (.getfield 55, 3) := by decide +kernel
theorem dX2_divide_32 : decode cX2_divide 32 = .ok (.isub, 1) := by decide +kernel
theorem dX2_divide_33 : decode cX2_divide 33 = .ok (.istore 5, 2) := by decide +kernel
theorem dX2_divide_35 : decode cX2_divide 35 = .ok (.iload 5, 2) := by decide +kernel
theorem dX2_divide_37 : decode cX2_divide 37 = .ok (.ifCond .lt 57, 3) := by decide +kernel
theorem dX2_divide_40 : decode cX2_divide 40 = .ok (.aload_n 0, 1) := by decide +kernel
theorem dX2_divide_41 : decode cX2_divide 41 = .ok (.getfield 7, 3) := by decide +kernel
theorem dX2_divide_44 : decode cX2_divide 44 = .ok (.aload_n 1, 1) := by decide +kernel
theorem dX2_divide_45 : decode cX2_divide 45 = .ok (.iload 5, 2) := by decide +kernel
theorem dX2_divide_47 : decode cX2_divide 47 = .ok (.aload_n 2, 1) := by decide +kernel
theorem dX2_divide_48 : decode cX2_divide 48 = .ok (.getfield 55, 3) := by decide +kernel
theorem dX2_divide_51 : decode cX2_divide 51 = .ok (.iadd, 1) := by decide +kernel
theorem dX2_divide_52 : decode cX2_divide 52 = .ok (.invokevirtual 58, 3) := by decide +kernel
theorem dX2_divide_55 : decode cX2_divide 55 = .ok (.iload 4, 2) := by decide +kernel
theorem dX2_divide_57 : decode cX2_divide 57 = .ok (.imul, 1) := by decide +kernel
theorem dX2_divide_58 : decode cX2_divide 58 = .ok (.invokevirtual 44, 3) := by decide +kernel
theorem dX2_divide_61 : decode cX2_divide 61 = .ok (.istore 6, 2) := by decide +kernel
theorem dX2_divide_63 : decode cX2_divide 63 = .ok (.aload_n 1, 1) := by decide +kernel
theorem dX2_divide_64 : decode cX2_divide 64 = .ok (.iload 6, 2) := by decide +kernel
theorem dX2_divide_66 : decode cX2_divide 66 = .ok (.ineg, 1) := by decide +kernel
theorem dX2_divide_67 : decode cX2_divide 67 = .ok (.aload_n 2, 1) := by decide +kernel
theorem dX2_divide_68 : decode cX2_divide 68 = .ok (.iload 5, 2) := by decide +kernel
theorem dX2_divide_70 : decode cX2_divide 70 = .ok (.aload_n 0, 1) := by decide +kernel
theorem dX2_divide_71 : decode cX2_divide 71 = .ok (.getfield 7, 3) := by decide +kernel
theorem dX2_divide_74 : decode cX2_divide 74 = .ok (.getfield 38, 3) := by decide +kernel
theorem dX2_divide_77 : decode cX2_divide 77 = .ok (.invokevirtual 48, 3) := by decide +kernel
theorem dX2_divide_80 : decode cX2_divide 80 = .ok (.aload_n 3, 1) := by decide +kernel
theorem dX2_divide_81 : decode cX2_divide 81 = .ok (.iload 5, 2) := by decide +kernel
theorem dX2_divide_83 : decode cX2_divide 83 = .ok (.iload 6, 2) := by decide +kernel
theorem dX2_divide_85 : decode cX2_divide 85 = .ok (.invokevirtual 68, 3) := by decide +kernel
theorem dX2_divide_88 : decode cX2_divide 88 = .ok (.iinc 5 (-1), 3) := by decide +kernel
theorem dX2_divide_91 : decode cX2_divide 91 = .ok (.goto (-56), 3) := by decide +kernel
theorem dX2_divide_94 : decode cX2_divide 94 = .ok (.return_, 1) := by decide +kernel
theorem dX2_reduce_0 : decode cX2_reduce 0 = .ok (.aload_n 0, 1) := by decide +kernel
theorem dX2_reduce_1 : decode cX2_reduce 1 = .ok (.aload_n 1, 1) := by decide +kernel
theorem dX2_reduce_2 : decode cX2_reduce 2 = .ok (.aload_n 2, 1) := by decide +kernel
theorem dX2_reduce_3 : decode cX2_reduce 3 = .ok (.aload_n 0, 1) := by decide +kernel
theorem dX2_reduce_4 : decode cX2_reduce 4 = .ok (.getfield 20, 3) := by decide +kernel
theorem dX2_reduce_7 : decode cX2_reduce 7 = .ok (.invokevirtual 72, 3) := by decide +kernel
theorem dX2_reduce_10 : decode cX2_reduce 10 = .ok (.return_, 1) := by decide +kernel
theorem dX2_divideWhole_0 : decode cX2_divideWhole 0 = .ok (.aload_n 0, 1) := by decide +kernel
theorem dX2_divideWhole_1 : decode cX2_divideWhole 1 = .ok (.getfield 23, 3) := by decide +kernel
theorem dX2_divideWhole_4 : decode cX2_divideWhole 4 = .ok (.aload_n 2, 1) := by decide +kernel
theorem dX2_divideWhole_5 : decode cX2_divideWhole 5 = .ok (.invokevirtual 61, 3) := by decide +kernel
theorem dX2_divideWhole_8 : decode cX2_divideWhole 8 = .ok (.aload_n 0, 1) := by decide +kernel
theorem dX2_divideWhole_9 : decode cX2_divideWhole 9 = .ok (.aload_n 0, 1) := by decide +kernel
theorem dX2_divideWhole_10 : decode cX2_divideWhole 10 = .ok (.getfield 23, 3) := by decide +kernel
theorem dX2_divideWhole_13 : decode cX2_divideWhole 13 = .ok (.aload_n 3, 1) := by decide +kernel
theorem dX2_divideWhole_14 : decode cX2_divideWhole 14 = .ok (.aload_n 0, 1) := by decide +kernel
theorem dX2_divideWhole_15 : decode cX2_divideWhole 15 = .ok (.getfield 20, 3) := by decide +kernel
theorem dX2_divideWhole_18 : decode cX2_divideWhole 18 = .ok (.invokevirtual 72, 3) := by decide +kernel
theorem dX2_divideWhole_21 : decode cX2_divideWhole 21 = .ok (.aload_n 1, 1) := by decide +kernel
theorem dX2_divideWhole_22 : decode cX2_divideWhole 22 = .ok (.aload_n 0, 1) := by decide +kernel
theorem dX2_divideWhole_23 : decode cX2_divideWhole 23 = .ok (.getfield 20, 3) := by decide +kernel
theorem dX2_divideWhole_26 : decode cX2_divideWhole 26 = .ok (.invokevirtual 61, 3) := by decide +kernel
theorem dX2_divideWhole_29 : decode cX2_divideWhole 29 = .ok (.return_, 1) := by decide +kernel
theorem dX2_commonFactor_0 : decode cX2_commonFactor 0 = .ok (.aload_n 0, 1) := by decide +kernel
theorem dX2_commonFactor_1 : decode cX2_commonFactor 1 = .ok (.getfield 26, 3) := by decide +kernel
theorem dX2_commonFactor_4 : decode cX2_commonFactor 4 = .ok (.aload_n 2, 1) := by decide +kernel
theorem dX2_commonFactor_5 : decode cX2_commonFactor 5 = .ok (.invokevirtual 61, 3) := by decide +kernel
theorem dX2_commonFactor_8 : decode cX2_commonFactor 8 = .ok (.aload_n 0, 1) := by decide +kernel
theorem dX2_commonFactor_9 : decode cX2_commonFactor 9 = .ok (.getfield 29, 3) := by decide +kernel
theorem dX2_commonFactor_12 : decode cX2_commonFactor 12 = .ok (.aload_n 3, 1) := by decide +kernel
theorem dX2_commonFactor_13 : decode cX2_commonFactor 13 = .ok (.invokevirtual 61, 3) := by decide +kernel
theorem dX2_commonFactor_16 : decode cX2_commonFactor 16 = .ok (.aload_n 0, 1) := by decide +kernel
theorem dX2_commonFactor_17 : decode cX2_commonFactor 17 = .ok (.getfield 26, 3) := by decide +kernel
theorem dX2_commonFactor_20 : decode cX2_commonFactor 20 = .ok (.astore 4, 2) := by decide +kernel
theorem dX2_commonFactor_22 : decode cX2_commonFactor 22 = .ok (.aload_n 0, 1) := by decide +kernel
theorem dX2_commonFactor_23 : decode cX2_commonFactor 23 = .ok (.getfield 29, 3) := by decide +kernel
theorem dX2_commonFactor_26 : decode cX2_commonFactor 26 = .ok (.astore 5, 2) := by decide +kernel
theorem dX2_commonFactor_28 : decode cX2_commonFactor 28 = .ok (.iconst 0, 1) := by decide +kernel
theorem dX2_commonFactor_29 : decode cX2_commonFactor 29 = .ok (.istore 6, 2) := by decide +kernel
theorem dX2_commonFactor_31 : decode cX2_commonFactor 31 = .ok (.iload 6, 2) := by decide +kernel
theorem dX2_commonFactor_33 : decode cX2_commonFactor 33 = .ok (.bipush 13, 2) := by decide +kernel
theorem dX2_commonFactor_35 : decode cX2_commonFactor 35 = .ok (.if_icmp .gt 41, 3) := by decide +kernel
theorem dX2_commonFactor_38 : decode cX2_commonFactor 38 = .ok (.aload 5, 2) := by decide +kernel
theorem dX2_commonFactor_40 : decode cX2_commonFactor 40 = .ok (.getfield 55, 3) := by decide +kernel
theorem dX2_commonFactor_43 : decode cX2_commonFactor 43 = .ok (.ifCond .lt 33, 3) := by decide +kernel
theorem dX2_commonFactor_46 : decode cX2_commonFactor 46 = .ok (.aload_n 0, 1) := by decide +kernel
theorem dX2_commonFactor_47 : decode cX2_commonFactor 47 = .ok (.aload 4, 2) := by decide +kernel
theorem dX2_commonFactor_49 : decode cX2_commonFactor 49 = .ok (.aload 5, 2) := by decide +kernel
theorem dX2_commonFactor_51 : decode cX2_commonFactor 51 = .ok (.aload_n 0, 1) := by decide +kernel
theorem dX2_commonFactor_52 : decode cX2_commonFactor 52 = .ok (.getfield 20, 3) := by decide +kernel
theorem dX2_commonFactor_55 : decode cX2_commonFactor 55 = .ok (.invokevirtual 72, 3) := by decide +kernel
theorem dX2_commonFactor_58 : decode cX2_commonFactor 58 = .ok (.aload 4, 2) := by decide +kernel
theorem dX2_commonFactor_60 : decode cX2_commonFactor 60 = .ok (.astore 7, 2) := by decide +kernel
theorem dX2_commonFactor_62 : decode cX2_commonFactor 62 = .ok (.aload 5, 2) := by decide +kernel
theorem dX2_commonFactor_64 : decode cX2_commonFactor 64 = .ok (.astore 4, 2) := by decide +kernel
theorem dX2_commonFactor_66 : decode cX2_commonFactor 66 = .ok (.aload 7, 2) := by decide +kernel
theorem dX2_commonFactor_68 : decode cX2_commonFactor 68 = .ok (.astore 5, 2) := by decide +kernel
theorem dX2_commonFactor_70 : decode cX2_commonFactor 70 = .ok (.iinc 6 1, 3) := by decide +kernel
theorem dX2_commonFactor_73 : decode cX2_commonFactor 73 = .ok (.goto (-42), 3) := by decide +kernel
theorem dX2_commonFactor_76 : decode cX2_commonFactor 76 = .ok (.aload_n 1, 1) := by decide +kernel
theorem dX2_commonFactor_77 : decode cX2_commonFactor 77 = .ok (.aload 4, 2) := by decide +kernel
theorem dX2_commonFactor_79 : decode cX2_commonFactor 79 = .ok (.invokevirtual 61, 3) := by decide +kernel
theorem dX2_commonFactor_82 : decode cX2_commonFactor 82 = .ok (.aload_n 0, 1) := by decide +kernel
theorem dX2_commonFactor_83 : decode cX2_commonFactor 83 = .ok (.aload_n 1, 1) := by decide +kernel
theorem dX2_commonFactor_84 : decode cX2_commonFactor 84 = .ok (.aload_n 0, 1) := by decide +kernel
theorem dX2_commonFactor_85 : decode cX2_commonFactor 85 = .ok (.aload_n 1, 1) := by decide +kernel
theorem dX2_commonFactor_86 : decode cX2_commonFactor 86 = .ok (.aload_n 1, 1) := by decide +kernel
theorem dX2_commonFactor_87 : decode cX2_commonFactor 87 = .ok (.getfield 55, 3) := by decide +kernel
theorem dX2_commonFactor_90 : decode cX2_commonFactor 90 = .ok (.invokevirtual 58, 3) := by decide +kernel
theorem dX2_commonFactor_93 : decode cX2_commonFactor 93 = .ok (.invokevirtual 65, 3) := by decide +kernel
theorem dX2_commonFactor_96 : decode cX2_commonFactor 96 = .ok (.invokevirtual 76, 3) := by decide +kernel
theorem dX2_commonFactor_99 : decode cX2_commonFactor 99 = .ok (.return_, 1) := by decide +kernel
theorem dX2_invert_0 : decode cX2_invert 0 = .ok (.aload_n 0, 1) := by decide +kernel
theorem dX2_invert_1 : decode cX2_invert 1 = .ok (.getfield 26, 3) := by decide +kernel
theorem dX2_invert_4 : decode cX2_invert 4 = .ok (.aload_n 3, 1) := by decide +kernel
theorem dX2_invert_5 : decode cX2_invert 5 = .ok (.invokevirtual 61, 3) := by decide +kernel
theorem dX2_invert_8 : decode cX2_invert 8 = .ok (.aload_n 0, 1) := by decide +kernel
theorem dX2_invert_9 : decode cX2_invert 9 = .ok (.getfield 29, 3) := by decide +kernel
theorem dX2_invert_12 : decode cX2_invert 12 = .ok (.aload_n 2, 1) := by decide +kernel
theorem dX2_invert_13 : decode cX2_invert 13 = .ok (.invokevirtual 61, 3) := by decide +kernel
theorem dX2_invert_16 : decode cX2_invert 16 = .ok (.aload_n 0, 1) := by decide +kernel
theorem dX2_invert_17 : decode cX2_invert 17 = .ok (.getfield 32, 3) := by decide +kernel
theorem dX2_invert_20 : decode cX2_invert 20 = .ok (.invokevirtual 52, 3) := by decide +kernel
theorem dX2_invert_23 : decode cX2_invert 23 = .ok (.aload_n 0, 1) := by decide +kernel
theorem dX2_invert_24 : decode cX2_invert 24 = .ok (.getfield 35, 3) := by decide +kernel
theorem dX2_invert_27 : decode cX2_invert 27 = .ok (.iconst 1, 1) := by decide +kernel
theorem dX2_invert_28 : decode cX2_invert 28 = .ok (.invokevirtual 80, 3) := by decide +kernel
theorem dX2_invert_31 : decode cX2_invert 31 = .ok (.aload_n 0, 1) := by decide +kernel
theorem dX2_invert_32 : decode cX2_invert 32 = .ok (.getfield 26, 3) := by decide +kernel
theorem dX2_invert_35 : decode cX2_invert 35 = .ok (.astore 4, 2) := by decide +kernel
theorem dX2_invert_37 : decode cX2_invert 37 = .ok (.aload_n 0, 1) := by decide +kernel
theorem dX2_invert_38 : decode cX2_invert 38 = .ok (.getfield 29, 3) := by decide +kernel
theorem dX2_invert_41 : decode cX2_invert 41 = .ok (.astore 5, 2) := by decide +kernel
theorem dX2_invert_43 : decode cX2_invert 43 = .ok (.aload_n 0, 1) := by decide +kernel
theorem dX2_invert_44 : decode cX2_invert 44 = .ok (.getfield 32, 3) := by decide +kernel
theorem dX2_invert_47 : decode cX2_invert 47 = .ok (.astore 6, 2) := by decide +kernel
theorem dX2_invert_49 : decode cX2_invert 49 = .ok (.aload_n 0, 1) := by decide +kernel
theorem dX2_invert_50 : decode cX2_invert 50 = .ok (.getfield 35, 3) := by decide +kernel
theorem dX2_invert_53 : decode cX2_invert 53 = .ok (.astore 7, 2) := by decide +kernel
theorem dX2_invert_55 : decode cX2_invert 55 = .ok (.iconst 0, 1) := by decide +kernel
theorem dX2_invert_56 : decode cX2_invert 56 = .ok (.istore 8, 2) := by decide +kernel
theorem dX2_invert_58 : decode cX2_invert 58 = .ok (.iload 8, 2) := by decide +kernel
theorem dX2_invert_60 : decode cX2_invert 60 = .ok (.bipush 13, 2) := by decide +kernel
theorem dX2_invert_62 : decode cX2_invert 62 = .ok (.if_icmp .gt 85, 3) := by decide +kernel
theorem dX2_invert_65 : decode cX2_invert 65 = .ok (.aload 5, 2) := by decide +kernel
theorem dX2_invert_67 : decode cX2_invert 67 = .ok (.getfield 55, 3) := by decide +kernel
theorem dX2_invert_70 : decode cX2_invert 70 = .ok (.ifCond .lt 77, 3) := by decide +kernel
theorem dX2_invert_73 : decode cX2_invert 73 = .ok (.aload_n 0, 1) := by decide +kernel
theorem dX2_invert_74 : decode cX2_invert 74 = .ok (.aload 4, 2) := by decide +kernel
theorem dX2_invert_76 : decode cX2_invert 76 = .ok (.aload 5, 2) := by decide +kernel
theorem dX2_invert_78 : decode cX2_invert 78 = .ok (.aload_n 0, 1) := by decide +kernel
theorem dX2_invert_79 : decode cX2_invert 79 = .ok (.getfield 20, 3) := by decide +kernel
theorem dX2_invert_82 : decode cX2_invert 82 = .ok (.invokevirtual 72, 3) := by decide +kernel
theorem dX2_invert_85 : decode cX2_invert 85 = .ok (.aload_n 0, 1) := by decide +kernel
theorem dX2_invert_86 : decode cX2_invert 86 = .ok (.aload_n 0, 1) := by decide +kernel
theorem dX2_invert_87 : decode cX2_invert 87 = .ok (.getfield 20, 3) := by decide +kernel
theorem dX2_invert_90 : decode cX2_invert 90 = .ok (.aload_n 0, 1) := by decide +kernel
theorem dX2_invert_91 : decode cX2_invert 91 = .ok (.getfield 20, 3) := by decide +kernel
theorem dX2_invert_94 : decode cX2_invert 94 = .ok (.aload 7, 2) := by decide +kernel
theorem dX2_invert_96 : decode cX2_invert 96 = .ok (.invokevirtual 84, 3) := by decide +kernel
theorem dX2_invert_99 : decode cX2_invert 99 = .ok (.aload 6, 2) := by decide +kernel
theorem dX2_invert_101 : decode cX2_invert 101 = .ok (.iconst (-1), 1) := by decide +kernel
theorem dX2_invert_102 : decode cX2_invert 102 = .ok (.aload_n 0, 1) := by decide +kernel
theorem dX2_invert_103 : decode cX2_invert 103 = .ok (.getfield 20, 3) := by decide +kernel
theorem dX2_invert_106 : decode cX2_invert 106 = .ok (.iconst 0, 1) := by decide +kernel
theorem dX2_invert_107 : decode cX2_invert 107 = .ok (.aload_n 0, 1) := by decide +kernel
theorem dX2_invert_108 : decode cX2_invert 108 = .ok (.getfield 7, 3) := by decide +kernel
theorem dX2_invert_111 : decode cX2_invert 111 = .ok (.getfield 38, 3) := by decide +kernel
theorem dX2_invert_114 : decode cX2_invert 114 = .ok (.invokevirtual 48, 3) := by decide +kernel
theorem dX2_invert_117 : decode cX2_invert 117 = .ok (.aload 4, 2) := by decide +kernel
theorem dX2_invert_119 : decode cX2_invert 119 = .ok (.astore 9, 2) := by decide +kernel
theorem dX2_invert_121 : decode cX2_invert 121 = .ok (.aload 5, 2) := by decide +kernel
theorem dX2_invert_123 : decode cX2_invert 123 = .ok (.astore 4, 2) := by decide +kernel
theorem dX2_invert_125 : decode cX2_invert 125 = .ok (.aload 9, 2) := by decide +kernel
theorem dX2_invert_127 : decode cX2_invert 127 = .ok (.astore 5, 2) := by decide +kernel
theorem dX2_invert_129 : decode cX2_invert 129 = .ok (.aload 6, 2) := by decide +kernel
theorem dX2_invert_131 : decode cX2_invert 131 = .ok (.astore 10, 2) := by decide +kernel
theorem dX2_invert_133 : decode cX2_invert 133 = .ok (.aload 7, 2) := by decide +kernel
theorem dX2_invert_135 : decode cX2_invert 135 = .ok (.astore 6, 2) := by decide +kernel
theorem dX2_invert_137 : decode cX2_invert 137 = .ok (.aload 10, 2) := by decide +kernel
theorem dX2_invert_139 : decode cX2_invert 139 = .ok (.astore 7, 2) := by decide +kernel
theorem dX2_invert_141 : decode cX2_invert 141 = .ok (.iinc 8 1, 3) := by decide +kernel
theorem dX2_invert_144 : decode cX2_invert 144 = .ok (.goto (-86), 3) := by decide +kernel
theorem dX2_invert_147 : decode cX2_invert 147 = .ok (.aload_n 1, 1) := by decide +kernel
theorem dX2_invert_148 : decode cX2_invert 148 = .ok (.aload 6, 2) := by decide +kernel
theorem dX2_invert_150 : decode cX2_invert 150 = .ok (.invokevirtual 61, 3) := by decide +kernel
theorem dX2_invert_153 : decode cX2_invert 153 = .ok (.aload_n 0, 1) := by decide +kernel
theorem dX2_invert_154 : decode cX2_invert 154 = .ok (.aload_n 1, 1) := by decide +kernel
theorem dX2_invert_155 : decode cX2_invert 155 = .ok (.aload_n 0, 1) := by decide +kernel
theorem dX2_invert_156 : decode cX2_invert 156 = .ok (.aload 4, 2) := by decide +kernel
theorem dX2_invert_158 : decode cX2_invert 158 = .ok (.iconst 0, 1) := by decide +kernel
theorem dX2_invert_159 : decode cX2_invert 159 = .ok (.invokevirtual 58, 3) := by decide +kernel
theorem dX2_invert_162 : decode cX2_invert 162 = .ok (.invokevirtual 65, 3) := by decide +kernel
theorem dX2_invert_165 : decode cX2_invert 165 = .ok (.invokevirtual 76, 3) := by decide +kernel
theorem dX2_invert_168 : decode cX2_invert 168 = .ok (.return_, 1) := by decide +kernel
theorem dX2_hasSquare_0 : decode cX2_hasSquare 0 = .ok (.aload_n 0, 1) := by decide +kernel
theorem dX2_hasSquare_1 : decode cX2_hasSquare 1 = .ok (.getfield 29, 3) := by decide +kernel
theorem dX2_hasSquare_4 : decode cX2_hasSquare 4 = .ok (.invokevirtual 52, 3) := by decide +kernel
theorem dX2_hasSquare_7 : decode cX2_hasSquare 7 = .ok (.iconst 1, 1) := by decide +kernel
theorem dX2_hasSquare_8 : decode cX2_hasSquare 8 = .ok (.istore_n 2, 1) := by decide +kernel
theorem dX2_hasSquare_9 : decode cX2_hasSquare 9 = .ok (.iload_n 2, 1) := by decide +kernel
theorem dX2_hasSquare_10 : decode cX2_hasSquare 10 = .ok (.aload_n 1, 1) := by decide +kernel
theorem dX2_hasSquare_11 : decode cX2_hasSquare 11 = .ok (.getfield 55, 3) := by decide +kernel
theorem dX2_hasSquare_14 : decode cX2_hasSquare 14 = .ok (.if_icmp .gt 33, 3) := by decide +kernel
theorem dX2_hasSquare_17 : decode cX2_hasSquare 17 = .ok (.aload_n 0, 1) := by decide +kernel
theorem dX2_hasSquare_18 : decode cX2_hasSquare 18 = .ok (.getfield 29, 3) := by decide +kernel
theorem dX2_hasSquare_21 : decode cX2_hasSquare 21 = .ok (.iload_n 2, 1) := by decide +kernel
theorem dX2_hasSquare_22 : decode cX2_hasSquare 22 = .ok (.iconst 1, 1) := by decide +kernel
theorem dX2_hasSquare_23 : decode cX2_hasSquare 23 = .ok (.isub, 1) := by decide +kernel
theorem dX2_hasSquare_24 : decode cX2_hasSquare 24 = .ok (.aload_n 0, 1) := by decide +kernel
theorem dX2_hasSquare_25 : decode cX2_hasSquare 25 = .ok (.getfield 7, 3) := by decide +kernel
theorem dX2_hasSquare_28 : decode cX2_hasSquare 28 = .ok (.iload_n 2, 1) := by decide +kernel
theorem dX2_hasSquare_29 : decode cX2_hasSquare 29 = .ok (.aload_n 1, 1) := by decide +kernel
theorem dX2_hasSquare_30 : decode cX2_hasSquare 30 = .ok (.iload_n 2, 1) := by decide +kernel
theorem dX2_hasSquare_31 : decode cX2_hasSquare 31 = .ok (.invokevirtual 58, 3) := by decide +kernel
theorem dX2_hasSquare_34 : decode cX2_hasSquare 34 = .ok (.imul, 1) := by decide +kernel
theorem dX2_hasSquare_35 : decode cX2_hasSquare 35 = .ok (.invokevirtual 44, 3) := by decide +kernel
theorem dX2_hasSquare_38 : decode cX2_hasSquare 38 = .ok (.invokevirtual 68, 3) := by decide +kernel
theorem dX2_hasSquare_41 : decode cX2_hasSquare 41 = .ok (.iinc 2 1, 3) := by decide +kernel
theorem dX2_hasSquare_44 : decode cX2_hasSquare 44 = .ok (.goto (-35), 3) := by decide +kernel
theorem dX2_hasSquare_47 : decode cX2_hasSquare 47 = .ok (.aload_n 0, 1) := by decide +kernel
theorem dX2_hasSquare_48 : decode cX2_hasSquare 48 = .ok (.aload_n 0, 1) := by decide +kernel
theorem dX2_hasSquare_49 : decode cX2_hasSquare 49 = .ok (.getfield 23, 3) := by decide +kernel
theorem dX2_hasSquare_52 : decode cX2_hasSquare 52 = .ok (.aload_n 1, 1) := by decide +kernel
theorem dX2_hasSquare_53 : decode cX2_hasSquare 53 = .ok (.aload_n 0, 1) := by decide +kernel
theorem dX2_hasSquare_54 : decode cX2_hasSquare 54 = .ok (.getfield 29, 3) := by decide +kernel
theorem dX2_hasSquare_57 : decode cX2_hasSquare 57 = .ok (.invokevirtual 87, 3) := by decide +kernel
theorem dX2_hasSquare_60 : decode cX2_hasSquare 60 = .ok (.aload_n 0, 1) := by decide +kernel
theorem dX2_hasSquare_61 : decode cX2_hasSquare 61 = .ok (.getfield 23, 3) := by decide +kernel
theorem dX2_hasSquare_64 : decode cX2_hasSquare 64 = .ok (.getfield 55, 3) := by decide +kernel
theorem dX2_hasSquare_67 : decode cX2_hasSquare 67 = .ok (.ifCond .le 7, 3) := by decide +kernel
theorem dX2_hasSquare_70 : decode cX2_hasSquare 70 = .ok (.iconst 1, 1) := by decide +kernel
theorem dX2_hasSquare_71 : decode cX2_hasSquare 71 = .ok (.goto 4, 3) := by decide +kernel
theorem dX2_hasSquare_74 : decode cX2_hasSquare 74 = .ok (.iconst 0, 1) := by decide +kernel
theorem dX2_hasSquare_75 : decode cX2_hasSquare 75 = .ok (.ireturn, 1) := by decide +kernel
theorem dX3_init_0 : decode cX3_init 0 = .ok (.aload_n 0, 1) := by decide +kernel
theorem dX3_init_1 : decode cX3_init 1 = .ok (.invokespecial 1, 3) := by decide +kernel
theorem dX3_init_4 : decode cX3_init 4 = .ok (.aload_n 0, 1) := by decide +kernel
theorem dX3_init_5 : decode cX3_init 5 = .ok (.iconst 4, 1) := by decide +kernel
theorem dX3_init_6 : decode cX3_init 6 = .ok (.anewarray 9, 3) := by decide +kernel
theorem dX3_init_9 : decode cX3_init 9 = .ok (.putfield 11, 3) := by decide +kernel
theorem dX3_init_12 : decode cX3_init 12 = .ok (.iconst 0, 1) := by decide +kernel
theorem dX3_init_13 : decode cX3_init 13 = .ok (.istore_n 1, 1) := by decide +kernel
theorem dX3_init_14 : decode cX3_init 14 = .ok (.iload_n 1, 1) := by decide +kernel
theorem dX3_init_15 : decode cX3_init 15 = .ok (.iconst 4, 1) := by decide +kernel
theorem dX3_init_16 : decode cX3_init 16 = .ok (.if_icmp .ge 22, 3) := by decide +kernel
theorem dX3_init_19 : decode cX3_init 19 = .ok (.aload_n 0, 1) := by decide +kernel
theorem dX3_init_20 : decode cX3_init 20 = .ok (.getfield 11, 3) := by decide +kernel
theorem dX3_init_23 : decode cX3_init 23 = .ok (.iload_n 1, 1) := by decide +kernel
theorem dX3_init_24 : decode cX3_init 24 = .ok (.new 9, 3) := by decide +kernel
theorem dX3_init_27 : decode cX3_init 27 = .ok (.dup, 1) := by decide +kernel
theorem dX3_init_28 : decode cX3_init 28 = .ok (.invokespecial 15, 3) := by decide +kernel
theorem dX3_init_31 : decode cX3_init 31 = .ok (.aastore, 1) := by decide +kernel
theorem dX3_init_32 : decode cX3_init 32 = .ok (.iinc 1 1, 3) := by decide +kernel
theorem dX3_init_35 : decode cX3_init 35 = .ok (.goto (-21), 3) := by decide +kernel
theorem dX3_init_38 : decode cX3_init 38 = .ok (.aload_n 0, 1) := by decide +kernel
theorem dX3_init_39 : decode cX3_init 39 = .ok (.iconst 0, 1) := by decide +kernel
theorem dX3_init_40 : decode cX3_init 40 = .ok (.putfield 16, 3) := by decide +kernel
theorem dX3_init_43 : decode cX3_init 43 = .ok (.aload_n 0, 1) := by decide +kernel
theorem dX3_init_44 : decode cX3_init 44 = .ok (.iconst 0, 1) := by decide +kernel
theorem dX3_init_45 : decode cX3_init 45 = .ok (.putfield 20, 3) := by decide +kernel
theorem dX3_init_48 : decode cX3_init 48 = .ok (.return_, 1) := by decide +kernel
theorem dX3_record_0 : decode cX3_record 0 = .ok (.aload_n 0, 1) := by decide +kernel
theorem dX3_record_1 : decode cX3_record 1 = .ok (.getfield 11, 3) := by decide +kernel
theorem dX3_record_4 : decode cX3_record 4 = .ok (.aload_n 0, 1) := by decide +kernel
theorem dX3_record_5 : decode cX3_record 5 = .ok (.getfield 16, 3) := by decide +kernel
theorem dX3_record_8 : decode cX3_record 8 = .ok (.aaload, 1) := by decide +kernel
theorem dX3_record_9 : decode cX3_record 9 = .ok (.aload_n 1, 1) := by decide +kernel
theorem dX3_record_10 : decode cX3_record 10 = .ok (.invokevirtual 23, 3) := by decide +kernel
theorem dX3_record_13 : decode cX3_record 13 = .ok (.aload_n 0, 1) := by decide +kernel
theorem dX3_record_14 : decode cX3_record 14 = .ok (.aload_n 0, 1) := by decide +kernel
theorem dX3_record_15 : decode cX3_record 15 = .ok (.getfield 16, 3) := by decide +kernel
theorem dX3_record_18 : decode cX3_record 18 = .ok (.iconst 3, 1) := by decide +kernel
theorem dX3_record_19 : decode cX3_record 19 = .ok (.if_icmp .ne 7, 3) := by decide +kernel
theorem dX3_record_22 : decode cX3_record 22 = .ok (.iconst 0, 1) := by decide +kernel
theorem dX3_record_23 : decode cX3_record 23 = .ok (.goto 9, 3) := by decide +kernel
theorem dX3_record_26 : decode cX3_record 26 = .ok (.aload_n 0, 1) := by decide +kernel
theorem dX3_record_27 : decode cX3_record 27 = .ok (.getfield 16, 3) := by decide +kernel
theorem dX3_record_30 : decode cX3_record 30 = .ok (.iconst 1, 1) := by decide +kernel
theorem dX3_record_31 : decode cX3_record 31 = .ok (.iadd, 1) := by decide +kernel
theorem dX3_record_32 : decode cX3_record 32 = .ok (.putfield 16, 3) := by decide +kernel
theorem dX3_record_35 : decode cX3_record 35 = .ok (.aload_n 0, 1) := by decide +kernel
theorem dX3_record_36 : decode cX3_record 36 = .ok (.aload_n 0, 1) := by decide +kernel
theorem dX3_record_37 : decode cX3_record 37 = .ok (.getfield 20, 3) := by decide +kernel
theorem dX3_record_40 : decode cX3_record 40 = .ok (.iconst 1, 1) := by decide +kernel
theorem dX3_record_41 : decode cX3_record 41 = .ok (.iadd, 1) := by decide +kernel
theorem dX3_record_42 : decode cX3_record 42 = .ok (.iconst 4, 1) := by decide +kernel
theorem dX3_record_43 : decode cX3_record 43 = .ok (.invokestatic 27, 3) := by decide +kernel
theorem dX3_record_46 : decode cX3_record 46 = .ok (.putfield 20, 3) := by decide +kernel
theorem dX3_record_49 : decode cX3_record 49 = .ok (.return_, 1) := by decide +kernel
theorem dX3_takeBack_0 : decode cX3_takeBack 0 = .ok (.aload_n 0, 1) := by decide +kernel
theorem dX3_takeBack_1 : decode cX3_takeBack 1 = .ok (.getfield 20, 3) := by decide +kernel
theorem dX3_takeBack_4 : decode cX3_takeBack 4 = .ok (.ifCond .le 47, 3) := by decide +kernel
theorem dX3_takeBack_7 : decode cX3_takeBack 7 = .ok (.aload_n 0, 1) := by decide +kernel
theorem dX3_takeBack_8 : decode cX3_takeBack 8 = .ok (.aload_n 0, 1) := by decide +kernel
theorem dX3_takeBack_9 : decode cX3_takeBack 9 = .ok (.getfield 16, 3) := by decide +kernel
theorem dX3_takeBack_12 : decode cX3_takeBack 12 = .ok (.ifCond .ne 7, 3) := by decide +kernel
theorem dX3_takeBack_15 : decode cX3_takeBack 15 = .ok (.iconst 3, 1) := by decide +kernel
theorem dX3_takeBack_16 : decode cX3_takeBack 16 = .ok (.goto 9, 3) := by decide +kernel
theorem dX3_takeBack_19 : decode cX3_takeBack 19 = .ok (.aload_n 0, 1) := by decide +kernel
theorem dX3_takeBack_20 : decode cX3_takeBack 20 = .ok (.getfield 16, 3) := by decide +kernel
theorem dX3_takeBack_23 : decode cX3_takeBack 23 = .ok (.iconst 1, 1) := by decide +kernel
theorem dX3_takeBack_24 : decode cX3_takeBack 24 = .ok (.isub, 1) := by decide +kernel
theorem dX3_takeBack_25 : decode cX3_takeBack 25 = .ok (.putfield 16, 3) := by decide +kernel
theorem dX3_takeBack_28 : decode cX3_takeBack 28 = .ok (.aload_n 1, 1) := by decide +kernel
theorem dX3_takeBack_29 : decode cX3_takeBack 29 = .ok (.aload_n 0, 1) := by decide +kernel
theorem dX3_takeBack_30 : decode cX3_takeBack 30 = .ok (.getfield 11, 3) := by decide +kernel
theorem dX3_takeBack_33 : decode cX3_takeBack 33 = .ok (.aload_n 0, 1) := by decide +kernel
theorem dX3_takeBack_34 : decode cX3_takeBack 34 = .ok (.getfield 16, 3) := by decide +kernel
theorem dX3_takeBack_37 : decode cX3_takeBack 37 = .ok (.aaload, 1) := by decide +kernel
theorem dX3_takeBack_38 : decode cX3_takeBack 38 = .ok (.invokevirtual 23, 3) := by decide +kernel
theorem dX3_takeBack_41 : decode cX3_takeBack 41 = .ok (.aload_n 0, 1) := by decide +kernel
theorem dX3_takeBack_42 : decode cX3_takeBack 42 = .ok (.dup, 1) := by decide +kernel
theorem dX3_takeBack_43 : decode cX3_takeBack 43 = .ok (.getfield 20, 3) := by decide +kernel
theorem dX3_takeBack_46 : decode cX3_takeBack 46 = .ok (.iconst 1, 1) := by decide +kernel
theorem dX3_takeBack_47 : decode cX3_takeBack 47 = .ok (.isub, 1) := by decide +kernel
theorem dX3_takeBack_48 : decode cX3_takeBack 48 = .ok (.putfield 20, 3) := by decide +kernel
theorem dX3_takeBack_51 : decode cX3_takeBack 51 = .ok (.return_, 1) := by decide +kernel
theorem dX4_init_0 : decode cX4_init 0 = .ok (.aload_n 0, 1) := by decide +kernel
theorem dX4_init_1 : decode cX4_init 1 = .ok (.invokespecial 3, 3) := by decide +kernel
theorem dX4_init_4 : decode cX4_init 4 = .ok (.aload_n 0, 1) := by decide +kernel
theorem dX4_init_5 : decode cX4_init 5 = .ok (.bipush 13, 2) := by decide +kernel
theorem dX4_init_7 : decode cX4_init 7 = .ok (.newarray .int, 2) := by decide +kernel
theorem dX4_init_9 : decode cX4_init 9 = .ok (.putfield 11, 3) := by decide +kernel
theorem dX4_init_12 : decode cX4_init 12 = .ok (.aload_n 0, 1) := by decide +kernel
theorem dX4_init_13 : decode cX4_init 13 = .ok (.iconst (-1), 1) := by decide +kernel
theorem dX4_init_14 : decode cX4_init 14 = .ok (.putfield 15, 3) := by decide +kernel
theorem dX4_init_17 : decode cX4_init 17 = .ok (.return_, 1) := by decide +kernel
theorem dX4_at_0 : decode cX4_at 0 = .ok (.iload_n 1, 1) := by decide +kernel
theorem dX4_at_1 : decode cX4_at 1 = .ok (.ifCond .lt 18, 3) := by decide +kernel
theorem dX4_at_4 : decode cX4_at 4 = .ok (.iload_n 1, 1) := by decide +kernel
theorem dX4_at_5 : decode cX4_at 5 = .ok (.bipush 13, 2) := by decide +kernel
theorem dX4_at_7 : decode cX4_at 7 = .ok (.if_icmp .ge 12, 3) := by decide +kernel
theorem dX4_at_10 : decode cX4_at 10 = .ok (.aload_n 0, 1) := by decide +kernel
theorem dX4_at_11 : decode cX4_at 11 = .ok (.getfield 11, 3) := by decide +kernel
theorem dX4_at_14 : decode cX4_at 14 = .ok (.iload_n 1, 1) := by decide +kernel
theorem dX4_at_15 : decode cX4_at 15 = .ok (.iaload, 1) := by decide +kernel
theorem dX4_at_16 : decode cX4_at 16 = .ok (.goto 4, 3) := by decide +kernel
theorem dX4_at_19 : decode cX4_at 19 = .ok (.iconst 0, 1) := by decide +kernel
theorem dX4_at_20 : decode cX4_at 20 = .ok (.ireturn, 1) := by decide +kernel
theorem dX4_set_0 : decode cX4_set 0 = .ok (.iload_n 1, 1) := by decide +kernel
theorem dX4_set_1 : decode cX4_set 1 = .ok (.ifCond .lt 9, 3) := by decide +kernel
theorem dX4_set_4 : decode cX4_set 4 = .ok (.iload_n 1, 1) := by decide +kernel
theorem dX4_set_5 : decode cX4_set 5 = .ok (.bipush 13, 2) := by decide +kernel
theorem dX4_set_7 : decode cX4_set 7 = .ok (.if_icmp .lt 4, 3) := by decide +kernel
theorem dX4_set_10 : decode cX4_set 10 = .ok (.return_, 1) := by decide +kernel
theorem dX4_set_11 : decode cX4_set 11 = .ok (.aload_n 0, 1) := by decide +kernel
theorem dX4_set_12 : decode cX4_set 12 = .ok (.getfield 11, 3) := by decide +kernel
theorem dX4_set_15 : decode cX4_set 15 = .ok (.iload_n 1, 1) := by decide +kernel
theorem dX4_set_16 : decode cX4_set 16 = .ok (.iload_n 2, 1) := by decide +kernel
theorem dX4_set_17 : decode cX4_set 17 = .ok (.iastore, 1) := by decide +kernel
theorem dX4_set_18 : decode cX4_set 18 = .ok (.aload_n 0, 1) := by decide +kernel
theorem dX4_set_19 : decode cX4_set 19 = .ok (.aload_n 0, 1) := by decide +kernel
theorem dX4_set_20 : decode cX4_set 20 = .ok (.getfield 15, 3) := by decide +kernel
theorem dX4_set_23 : decode cX4_set 23 = .ok (.iload_n 1, 1) := by decide +kernel
theorem dX4_set_24 : decode cX4_set 24 = .ok (.invokestatic 19, 3) := by decide +kernel
theorem dX4_set_27 : decode cX4_set 27 = .ok (.putfield 15, 3) := by decide +kernel
theorem dX4_set_30 : decode cX4_set 30 = .ok (.aload_n 0, 1) := by decide +kernel
theorem dX4_set_31 : decode cX4_set 31 = .ok (.invokevirtual 25, 3) := by decide +kernel
theorem dX4_set_34 : decode cX4_set 34 = .ok (.return_, 1) := by decide +kernel
theorem dX4_clear_0 : decode cX4_clear 0 = .ok (.iconst 0, 1) := by decide +kernel
theorem dX4_clear_1 : decode cX4_clear 1 = .ok (.istore_n 1, 1) := by decide +kernel
theorem dX4_clear_2 : decode cX4_clear 2 = .ok (.iload_n 1, 1) := by decide +kernel
theorem dX4_clear_3 : decode cX4_clear 3 = .ok (.bipush 13, 2) := by decide +kernel
theorem dX4_clear_5 : decode cX4_clear 5 = .ok (.if_icmp .ge 16, 3) := by decide +kernel
theorem dX4_clear_8 : decode cX4_clear 8 = .ok (.aload_n 0, 1) := by decide +kernel
theorem dX4_clear_9 : decode cX4_clear 9 = .ok (.getfield 11, 3) := by decide +kernel
theorem dX4_clear_12 : decode cX4_clear 12 = .ok (.iload_n 1, 1) := by decide +kernel
theorem dX4_clear_13 : decode cX4_clear 13 = .ok (.iconst 0, 1) := by decide +kernel
theorem dX4_clear_14 : decode cX4_clear 14 = .ok (.iastore, 1) := by decide +kernel
theorem dX4_clear_15 : decode cX4_clear 15 = .ok (.iinc 1 1, 3) := by decide +kernel
theorem dX4_clear_18 : decode cX4_clear 18 = .ok (.goto (-16), 3) := by decide +kernel
theorem dX4_clear_21 : decode cX4_clear 21 = .ok (.aload_n 0, 1) := by decide +kernel
theorem dX4_clear_22 : decode cX4_clear 22 = .ok (.iconst (-1), 1) := by decide +kernel
theorem dX4_clear_23 : decode cX4_clear 23 = .ok (.putfield 15, 3) := by decide +kernel
theorem dX4_clear_26 : decode cX4_clear 26 = .ok (.return_, 1) := by decide +kernel
theorem dX4_becomeConstant_0 : decode cX4_becomeConstant 0 = .ok (.aload_n 0, 1) := by decide +kernel
theorem dX4_becomeConstant_1 : decode cX4_becomeConstant 1 = .ok (.invokevirtual 28, 3) := by decide +kernel
theorem dX4_becomeConstant_4 : decode cX4_becomeConstant 4 = .ok (.aload_n 0, 1) := by decide +kernel
theorem dX4_becomeConstant_5 : decode cX4_becomeConstant 5 = .ok (.iconst 0, 1) := by decide +kernel
theorem dX4_becomeConstant_6 : decode cX4_becomeConstant 6 = .ok (.iload_n 1, 1) := by decide +kernel
theorem dX4_becomeConstant_7 : decode cX4_becomeConstant 7 = .ok (.invokevirtual 31, 3) := by decide +kernel
theorem dX4_becomeConstant_10 : decode cX4_becomeConstant 10 = .ok (.return_, 1) := by decide +kernel
theorem dX4_becomeVariable_0 : decode cX4_becomeVariable 0 = .ok (.aload_n 0, 1) := by decide +kernel
theorem dX4_becomeVariable_1 : decode cX4_becomeVariable 1 = .ok (.invokevirtual 28, 3) := by decide +kernel
theorem dX4_becomeVariable_4 : decode cX4_becomeVariable 4 = .ok (.aload_n 0, 1) := by decide +kernel
theorem dX4_becomeVariable_5 : decode cX4_becomeVariable 5 = .ok (.iconst 1, 1) := by decide +kernel
theorem dX4_becomeVariable_6 : decode cX4_becomeVariable 6 = .ok (.iconst 1, 1) := by decide +kernel
theorem dX4_becomeVariable_7 : decode cX4_becomeVariable 7 = .ok (.invokevirtual 31, 3) := by decide +kernel
theorem dX4_becomeVariable_10 : decode cX4_becomeVariable 10 = .ok (.return_, 1) := by decide +kernel
theorem dX4_copy_0 : decode cX4_copy 0 = .ok (.iconst 0, 1) := by decide +kernel
theorem dX4_copy_1 : decode cX4_copy 1 = .ok (.istore_n 2, 1) := by decide +kernel
theorem dX4_copy_2 : decode cX4_copy 2 = .ok (.iload_n 2, 1) := by decide +kernel
theorem dX4_copy_3 : decode cX4_copy 3 = .ok (.bipush 13, 2) := by decide +kernel
theorem dX4_copy_5 : decode cX4_copy 5 = .ok (.if_icmp .ge 21, 3) := by decide +kernel
theorem dX4_copy_8 : decode cX4_copy 8 = .ok (.aload_n 0, 1) := by decide +kernel
theorem dX4_copy_9 : decode cX4_copy 9 = .ok (.getfield 11, 3) := by decide +kernel
theorem dX4_copy_12 : decode cX4_copy 12 = .ok (.iload_n 2, 1) := by decide +kernel
theorem dX4_copy_13 : decode cX4_copy 13 = .ok (.aload_n 1, 1) := by decide +kernel
theorem dX4_copy_14 : decode cX4_copy 14 = .ok (.getfield 11, 3) := by decide +kernel
theorem dX4_copy_17 : decode cX4_copy 17 = .ok (.iload_n 2, 1) := by decide +kernel
theorem dX4_copy_18 : decode cX4_copy 18 = .ok (.iaload, 1) := by decide +kernel
theorem dX4_copy_19 : decode cX4_copy 19 = .ok (.iastore, 1) := by decide +kernel
theorem dX4_copy_20 : decode cX4_copy 20 = .ok (.iinc 2 1, 3) := by decide +kernel
theorem dX4_copy_23 : decode cX4_copy 23 = .ok (.goto (-21), 3) := by decide +kernel
theorem dX4_copy_26 : decode cX4_copy 26 = .ok (.aload_n 0, 1) := by decide +kernel
theorem dX4_copy_27 : decode cX4_copy 27 = .ok (.aload_n 1, 1) := by decide +kernel
theorem dX4_copy_28 : decode cX4_copy 28 = .ok (.getfield 15, 3) := by decide +kernel
theorem dX4_copy_31 : decode cX4_copy 31 = .ok (.putfield 15, 3) := by decide +kernel
theorem dX4_copy_34 : decode cX4_copy 34 = .ok (.return_, 1) := by decide +kernel
theorem dX4_addMultiple_0 : decode cX4_addMultiple 0 = .ok (.aload_n 2, 1) := by decide +kernel
theorem dX4_addMultiple_1 : decode cX4_addMultiple 1 = .ok (.getfield 15, 3) := by decide +kernel
theorem dX4_addMultiple_4 : decode cX4_addMultiple 4 = .ok (.iload_n 3, 1) := by decide +kernel
theorem dX4_addMultiple_5 : decode cX4_addMultiple 5 = .ok (.iadd, 1) := by decide +kernel
theorem dX4_addMultiple_6 : decode cX4_addMultiple 6 = .ok (.istore 5, 2) := by decide +kernel
theorem dX4_addMultiple_8 : decode cX4_addMultiple 8 = .ok (.iload 4, 2) := by decide +kernel
theorem dX4_addMultiple_10 : decode cX4_addMultiple 10 = .ok (.iconst 2, 1) := by decide +kernel
theorem dX4_addMultiple_11 : decode cX4_addMultiple 11 = .ok (.if_icmp .lt 14, 3) := by decide +kernel
theorem dX4_addMultiple_14 : decode cX4_addMultiple 14 = .ok (.iload_n 3, 1) := by decide +kernel
theorem dX4_addMultiple_15 : decode cX4_addMultiple 15 = .ok (.ifCond .lt 10, 3) := by decide +kernel
theorem dX4_addMultiple_18 : decode cX4_addMultiple 18 = .ok (.iload 5, 2) := by decide +kernel
theorem dX4_addMultiple_20 : decode cX4_addMultiple 20 = .ok (.bipush 13, 2) := by decide +kernel
theorem dX4_addMultiple_22 : decode cX4_addMultiple 22 = .ok (.if_icmp .lt 4, 3) := by decide +kernel
theorem dX4_addMultiple_25 : decode cX4_addMultiple 25 = .ok (.return_, 1) := by decide +kernel
theorem dX4_addMultiple_26 : decode cX4_addMultiple 26 = .ok (.iconst 0, 1) := by decide +kernel
theorem dX4_addMultiple_27 : decode cX4_addMultiple 27 = .ok (.istore 6, 2) := by decide +kernel
theorem dX4_addMultiple_29 : decode cX4_addMultiple 29 = .ok (.iload 6, 2) := by decide +kernel
theorem dX4_addMultiple_31 : decode cX4_addMultiple 31 = .ok (.aload_n 2, 1) := by decide +kernel
theorem dX4_addMultiple_32 : decode cX4_addMultiple 32 = .ok (.getfield 15, 3) := by decide +kernel
theorem dX4_addMultiple_35 : decode cX4_addMultiple 35 = .ok (.if_icmp .gt 57, 3) := by decide +kernel
theorem dX4_addMultiple_38 : decode cX4_addMultiple 38 = .ok (.aload_n 0, 1) := by decide +kernel
theorem dX4_addMultiple_39 : decode cX4_addMultiple 39 = .ok (.getfield 11, 3) := by decide +kernel
theorem dX4_addMultiple_42 : decode cX4_addMultiple 42 = .ok (.iload 6, 2) := by decide +kernel
theorem dX4_addMultiple_44 : decode cX4_addMultiple 44 = .ok (.iload_n 3, 1) := by decide +kernel
theorem dX4_addMultiple_45 : decode cX4_addMultiple 45 = .ok (.iadd, 1) := by decide +kernel
theorem dX4_addMultiple_46 : decode cX4_addMultiple 46 = .ok (.iaload, 1) := by decide +kernel
theorem dX4_addMultiple_47 : decode cX4_addMultiple 47 = .ok (.iload_n 1, 1) := by decide +kernel
theorem dX4_addMultiple_48 : decode cX4_addMultiple 48 = .ok (.aload_n 2, 1) := by decide +kernel
theorem dX4_addMultiple_49 : decode cX4_addMultiple 49 = .ok (.getfield 11, 3) := by decide +kernel
theorem dX4_addMultiple_52 : decode cX4_addMultiple 52 = .ok (.iload 6, 2) := by decide +kernel
theorem dX4_addMultiple_54 : decode cX4_addMultiple 54 = .ok (.iaload, 1) := by decide +kernel
theorem dX4_addMultiple_55 : decode cX4_addMultiple 55 = .ok (.imul, 1) := by decide +kernel
theorem dX4_addMultiple_56 : decode cX4_addMultiple 56 = .ok (.iadd, 1) := by decide +kernel
theorem dX4_addMultiple_57 : decode cX4_addMultiple 57 = .ok (.iload 4, 2) := by decide +kernel
theorem dX4_addMultiple_59 : decode cX4_addMultiple 59 = .ok (.irem, 1) := by decide +kernel
theorem dX4_addMultiple_60 : decode cX4_addMultiple 60 = .ok (.istore 7, 2) := by decide +kernel
theorem dX4_addMultiple_62 : decode cX4_addMultiple 62 = .ok (.aload_n 0, 1) := by decide +kernel
theorem dX4_addMultiple_63 : decode cX4_addMultiple 63 = .ok (.getfield 11, 3) := by decide +kernel
theorem dX4_addMultiple_66 : decode cX4_addMultiple 66 = .ok (.iload 6, 2) := by decide +kernel
theorem dX4_addMultiple_68 : decode cX4_addMultiple 68 = .ok (.iload_n 3, 1) := by decide +kernel
theorem dX4_addMultiple_69 : decode cX4_addMultiple 69 = .ok (.iadd, 1) := by decide +kernel
theorem dX4_addMultiple_70 : decode cX4_addMultiple 70 = .ok (.iload 7, 2) := by decide +kernel
theorem dX4_addMultiple_72 : decode cX4_addMultiple 72 = .ok (.ifCond .ge 11, 3) := by decide +kernel
theorem dX4_addMultiple_75 : decode cX4_addMultiple 75 = .ok (.iload 7, 2) := by decide +kernel
theorem dX4_addMultiple_77 : decode cX4_addMultiple 77 = .ok (.iload 4, 2) := by decide +kernel
theorem dX4_addMultiple_79 : decode cX4_addMultiple 79 = .ok (.iadd, 1) := by decide +kernel
theorem dX4_addMultiple_80 : decode cX4_addMultiple 80 = .ok (.goto 5, 3) := by decide +kernel
theorem dX4_addMultiple_83 : decode cX4_addMultiple 83 = .ok (.iload 7, 2) := by decide +kernel
theorem dX4_addMultiple_85 : decode cX4_addMultiple 85 = .ok (.iastore, 1) := by decide +kernel
theorem dX4_addMultiple_86 : decode cX4_addMultiple 86 = .ok (.iinc 6 1, 3) := by decide +kernel
theorem dX4_addMultiple_89 : decode cX4_addMultiple 89 = .ok (.goto (-60), 3) := by decide +kernel
theorem dX4_addMultiple_92 : decode cX4_addMultiple 92 = .ok (.aload_n 0, 1) := by decide +kernel
theorem dX4_addMultiple_93 : decode cX4_addMultiple 93 = .ok (.aload_n 0, 1) := by decide +kernel
theorem dX4_addMultiple_94 : decode cX4_addMultiple 94 = .ok (.getfield 15, 3) := by decide +kernel
theorem dX4_addMultiple_97 : decode cX4_addMultiple 97 = .ok (.iload 5, 2) := by decide +kernel
theorem dX4_addMultiple_99 : decode cX4_addMultiple 99 = .ok (.invokestatic 19, 3) := by decide +kernel
theorem dX4_addMultiple_102 : decode cX4_addMultiple 102 = .ok (.putfield 15, 3) := by decide +kernel
theorem dX4_addMultiple_105 : decode cX4_addMultiple 105 = .ok (.aload_n 0, 1) := by decide +kernel
theorem dX4_addMultiple_106 : decode cX4_addMultiple 106 = .ok (.invokevirtual 25, 3) := by decide +kernel
theorem dX4_addMultiple_109 : decode cX4_addMultiple 109 = .ok (.return_, 1) := by decide +kernel
theorem dX4_isOne_0 : decode cX4_isOne 0 = .ok (.aload_n 0, 1) := by decide +kernel
theorem dX4_isOne_1 : decode cX4_isOne 1 = .ok (.getfield 15, 3) := by decide +kernel
theorem dX4_isOne_4 : decode cX4_isOne 4 = .ok (.ifCond .ne 17, 3) := by decide +kernel
theorem dX4_isOne_7 : decode cX4_isOne 7 = .ok (.aload_n 0, 1) := by decide +kernel
theorem dX4_isOne_8 : decode cX4_isOne 8 = .ok (.getfield 11, 3) := by decide +kernel
theorem dX4_isOne_11 : decode cX4_isOne 11 = .ok (.iconst 0, 1) := by decide +kernel
theorem dX4_isOne_12 : decode cX4_isOne 12 = .ok (.iaload, 1) := by decide +kernel
theorem dX4_isOne_13 : decode cX4_isOne 13 = .ok (.iconst 1, 1) := by decide +kernel
theorem dX4_isOne_14 : decode cX4_isOne 14 = .ok (.if_icmp .ne 7, 3) := by decide +kernel
theorem dX4_isOne_17 : decode cX4_isOne 17 = .ok (.iconst 1, 1) := by decide +kernel
theorem dX4_isOne_18 : decode cX4_isOne 18 = .ok (.goto 4, 3) := by decide +kernel
theorem dX4_isOne_21 : decode cX4_isOne 21 = .ok (.iconst 0, 1) := by decide +kernel
theorem dX4_isOne_22 : decode cX4_isOne 22 = .ok (.ireturn, 1) := by decide +kernel
theorem dX4_sameAs_0 : decode cX4_sameAs 0 = .ok (.iconst 0, 1) := by decide +kernel
theorem dX4_sameAs_1 : decode cX4_sameAs 1 = .ok (.istore_n 2, 1) := by decide +kernel
theorem dX4_sameAs_2 : decode cX4_sameAs 2 = .ok (.iload_n 2, 1) := by decide +kernel
theorem dX4_sameAs_3 : decode cX4_sameAs 3 = .ok (.bipush 13, 2) := by decide +kernel
theorem dX4_sameAs_5 : decode cX4_sameAs 5 = .ok (.if_icmp .ge 26, 3) := by decide +kernel
theorem dX4_sameAs_8 : decode cX4_sameAs 8 = .ok (.aload_n 0, 1) := by decide +kernel
theorem dX4_sameAs_9 : decode cX4_sameAs 9 = .ok (.getfield 11, 3) := by decide +kernel
theorem dX4_sameAs_12 : decode cX4_sameAs 12 = .ok (.iload_n 2, 1) := by decide +kernel
theorem dX4_sameAs_13 : decode cX4_sameAs 13 = .ok (.iaload, 1) := by decide +kernel
theorem dX4_sameAs_14 : decode cX4_sameAs 14 = .ok (.aload_n 1, 1) := by decide +kernel
theorem dX4_sameAs_15 : decode cX4_sameAs 15 = .ok (.getfield 11, 3) := by decide +kernel
theorem dX4_sameAs_18 : decode cX4_sameAs 18 = .ok (.iload_n 2, 1) := by decide +kernel
theorem dX4_sameAs_19 : decode cX4_sameAs 19 = .ok (.iaload, 1) := by decide +kernel
theorem dX4_sameAs_20 : decode cX4_sameAs 20 = .ok (.if_icmp .eq 5, 3) := by decide +kernel
theorem dX4_sameAs_23 : decode cX4_sameAs 23 = .ok (.iconst 0, 1) := by decide +kernel
theorem dX4_sameAs_24 : decode cX4_sameAs 24 = .ok (.ireturn, 1) := by decide +kernel
theorem dX4_sameAs_25 : decode cX4_sameAs 25 = .ok (.iinc 2 1, 3) := by decide +kernel
theorem dX4_sameAs_28 : decode cX4_sameAs 28 = .ok (.goto (-26), 3) := by decide +kernel
theorem dX4_sameAs_31 : decode cX4_sameAs 31 = .ok (.iconst 1, 1) := by decide +kernel
theorem dX4_sameAs_32 : decode cX4_sameAs 32 = .ok (.ireturn, 1) := by decide +kernel
theorem dX4_comesBefore_0 : decode cX4_comesBefore 0 = .ok (.aload_n 0, 1) := by decide +kernel
theorem dX4_comesBefore_1 : decode cX4_comesBefore 1 = .ok (.getfield 15, 3) := by decide +kernel
theorem dX4_comesBefore_4 : decode cX4_comesBefore 4 = .ok (.aload_n 1, 1) := by decide +kernel
theorem dX4_comesBefore_5 : decode cX4_comesBefore 5 = .ok (.getfield 15, 3) := by decide +kernel
theorem dX4_comesBefore_8 : decode cX4_comesBefore 8 = .ok (.if_icmp .eq 20, 3) := by decide +kernel
theorem dX4_comesBefore_11 : decode cX4_comesBefore 11 = .ok (.aload_n 0, 1) := by decide +kernel
theorem dX4_comesBefore_12 : decode cX4_comesBefore 12 = .ok (.getfield 15, 3) := by decide +kernel
theorem dX4_comesBefore_15 : decode cX4_comesBefore 15 = .ok (.aload_n 1, 1) := by decide +kernel
theorem dX4_comesBefore_16 : decode cX4_comesBefore 16 = .ok (.getfield 15, 3) := by decide +kernel
theorem dX4_comesBefore_19 : decode cX4_comesBefore 19 = .ok (.if_icmp .ge 7, 3) := by decide +kernel
theorem dX4_comesBefore_22 : decode cX4_comesBefore 22 = .ok (.iconst 1, 1) := by decide +kernel
theorem dX4_comesBefore_23 : decode cX4_comesBefore 23 = .ok (.goto 4, 3) := by decide +kernel
theorem dX4_comesBefore_26 : decode cX4_comesBefore 26 = .ok (.iconst 0, 1) := by decide +kernel
theorem dX4_comesBefore_27 : decode cX4_comesBefore 27 = .ok (.ireturn, 1) := by decide +kernel
theorem dX4_comesBefore_28 : decode cX4_comesBefore 28 = .ok (.bipush 12, 2) := by decide +kernel
theorem dX4_comesBefore_30 : decode cX4_comesBefore 30 = .ok (.istore_n 2, 1) := by decide +kernel
theorem dX4_comesBefore_31 : decode cX4_comesBefore 31 = .ok (.iload_n 2, 1) := by decide +kernel
theorem dX4_comesBefore_32 : decode cX4_comesBefore 32 = .ok (.ifCond .lt 45, 3) := by decide +kernel
theorem dX4_comesBefore_35 : decode cX4_comesBefore 35 = .ok (.aload_n 0, 1) := by decide +kernel
theorem dX4_comesBefore_36 : decode cX4_comesBefore 36 = .ok (.getfield 11, 3) := by decide +kernel
theorem dX4_comesBefore_39 : decode cX4_comesBefore 39 = .ok (.iload_n 2, 1) := by decide +kernel
theorem dX4_comesBefore_40 : decode cX4_comesBefore 40 = .ok (.iaload, 1) := by decide +kernel
theorem dX4_comesBefore_41 : decode cX4_comesBefore 41 = .ok (.aload_n 1, 1) := by decide +kernel
theorem dX4_comesBefore_42 : decode cX4_comesBefore 42 = .ok (.getfield 11, 3) := by decide +kernel
theorem dX4_comesBefore_45 : decode cX4_comesBefore 45 = .ok (.iload_n 2, 1) := by decide +kernel
theorem dX4_comesBefore_46 : decode cX4_comesBefore 46 = .ok (.iaload, 1) := by decide +kernel
theorem dX4_comesBefore_47 : decode cX4_comesBefore 47 = .ok (.if_icmp .eq 24, 3) := by decide +kernel
theorem dX4_comesBefore_50 : decode cX4_comesBefore 50 = .ok (.aload_n 0, 1) := by decide +kernel
theorem dX4_comesBefore_51 : decode cX4_comesBefore 51 = .ok (.getfield 11, 3) := by decide +kernel
theorem dX4_comesBefore_54 : decode cX4_comesBefore 54 = .ok (.iload_n 2, 1) := by decide +kernel
theorem dX4_comesBefore_55 : decode cX4_comesBefore 55 = .ok (.iaload, 1) := by decide +kernel
theorem dX4_comesBefore_56 : decode cX4_comesBefore 56 = .ok (.aload_n 1, 1) := by decide +kernel
theorem dX4_comesBefore_57 : decode cX4_comesBefore 57 = .ok (.getfield 11, 3) := by decide +kernel
theorem dX4_comesBefore_60 : decode cX4_comesBefore 60 = .ok (.iload_n 2, 1) := by decide +kernel
theorem dX4_comesBefore_61 : decode cX4_comesBefore 61 = .ok (.iaload, 1) := by decide +kernel
theorem dX4_comesBefore_62 : decode cX4_comesBefore 62 = .ok (.if_icmp .ge 7, 3) := by decide +kernel
theorem dX4_comesBefore_65 : decode cX4_comesBefore 65 = .ok (.iconst 1, 1) := by decide +kernel
theorem dX4_comesBefore_66 : decode cX4_comesBefore 66 = .ok (.goto 4, 3) := by decide +kernel
theorem dX4_comesBefore_69 : decode cX4_comesBefore 69 = .ok (.iconst 0, 1) := by decide +kernel
theorem dX4_comesBefore_70 : decode cX4_comesBefore 70 = .ok (.ireturn, 1) := by decide +kernel
theorem dX4_comesBefore_71 : decode cX4_comesBefore 71 = .ok (.iinc 2 (-1), 3) := by decide +kernel
theorem dX4_comesBefore_74 : decode cX4_comesBefore 74 = .ok (.goto (-43), 3) := by decide +kernel
theorem dX4_comesBefore_77 : decode cX4_comesBefore 77 = .ok (.iconst 0, 1) := by decide +kernel
theorem dX4_comesBefore_78 : decode cX4_comesBefore 78 = .ok (.ireturn, 1) := by decide +kernel
theorem dX4_lowerDegree_0 : decode cX4_lowerDegree 0 = .ok (.aload_n 0, 1) := by decide +kernel
theorem dX4_lowerDegree_1 : decode cX4_lowerDegree 1 = .ok (.getfield 15, 3) := by decide +kernel
theorem dX4_lowerDegree_4 : decode cX4_lowerDegree 4 = .ok (.ifCond .lt 28, 3) := by decide +kernel
theorem dX4_lowerDegree_7 : decode cX4_lowerDegree 7 = .ok (.aload_n 0, 1) := by decide +kernel
theorem dX4_lowerDegree_8 : decode cX4_lowerDegree 8 = .ok (.getfield 11, 3) := by decide +kernel
theorem dX4_lowerDegree_11 : decode cX4_lowerDegree 11 = .ok (.aload_n 0, 1) := by decide +kernel
theorem dX4_lowerDegree_12 : decode cX4_lowerDegree 12 = .ok (.getfield 15, 3) := by decide +kernel
theorem dX4_lowerDegree_15 : decode cX4_lowerDegree 15 = .ok (.iaload, 1) := by decide +kernel
theorem dX4_lowerDegree_16 : decode cX4_lowerDegree 16 = .ok (.ifCond .ne 16, 3) := by decide +kernel
theorem dX4_lowerDegree_19 : decode cX4_lowerDegree 19 = .ok (.aload_n 0, 1) := by decide +kernel
theorem dX4_lowerDegree_20 : decode cX4_lowerDegree 20 = .ok (.dup, 1) := by decide +kernel
theorem dX4_lowerDegree_21 : decode cX4_lowerDegree 21 = .ok (.getfield 15, 3) := by decide +kernel
theorem dX4_lowerDegree_24 : decode cX4_lowerDegree 24 = .ok (.iconst 1, 1) := by decide +kernel
theorem dX4_lowerDegree_25 : decode cX4_lowerDegree 25 = .ok (.isub, 1) := by decide +kernel
theorem dX4_lowerDegree_26 : decode cX4_lowerDegree 26 = .ok (.putfield 15, 3) := by decide +kernel
theorem dX4_lowerDegree_29 : decode cX4_lowerDegree 29 = .ok (.goto (-29), 3) := by decide +kernel
theorem dX4_lowerDegree_32 : decode cX4_lowerDegree 32 = .ok (.return_, 1) := by decide +kernel
theorem dX5_init_0 : decode cX5_init 0 = .ok (.aload_n 0, 1) := by decide +kernel
theorem dX5_init_1 : decode cX5_init 1 = .ok (.invokespecial 3, 3) := by decide +kernel
theorem dX5_init_4 : decode cX5_init 4 = .ok (.aload_n 0, 1) := by decide +kernel
theorem dX5_init_5 : decode cX5_init 5 = .ok (.aload_n 1, 1) := by decide +kernel
theorem dX5_init_6 : decode cX5_init 6 = .ok (.putfield 9, 3) := by decide +kernel
theorem dX5_init_9 : decode cX5_init 9 = .ok (.aload_n 0, 1) := by decide +kernel
theorem dX5_init_10 : decode cX5_init 10 = .ok (.aload_n 2, 1) := by decide +kernel
theorem dX5_init_11 : decode cX5_init 11 = .ok (.putfield 15, 3) := by decide +kernel
theorem dX5_init_14 : decode cX5_init 14 = .ok (.aload_n 0, 1) := by decide +kernel
theorem dX5_init_15 : decode cX5_init 15 = .ok (.aload_n 3, 1) := by decide +kernel
theorem dX5_init_16 : decode cX5_init 16 = .ok (.putfield 19, 3) := by decide +kernel
theorem dX5_init_19 : decode cX5_init 19 = .ok (.aload_n 0, 1) := by decide +kernel
theorem dX5_init_20 : decode cX5_init 20 = .ok (.aload 4, 2) := by decide +kernel
theorem dX5_init_22 : decode cX5_init 22 = .ok (.putfield 23, 3) := by decide +kernel
theorem dX5_init_25 : decode cX5_init 25 = .ok (.aload_n 0, 1) := by decide +kernel
theorem dX5_init_26 : decode cX5_init 26 = .ok (.bipush 6, 2) := by decide +kernel
theorem dX5_init_28 : decode cX5_init 28 = .ok (.anewarray 27, 3) := by decide +kernel
theorem dX5_init_31 : decode cX5_init 31 = .ok (.putfield 29, 3) := by decide +kernel
theorem dX5_init_34 : decode cX5_init 34 = .ok (.aload_n 0, 1) := by decide +kernel
theorem dX5_init_35 : decode cX5_init 35 = .ok (.bipush 6, 2) := by decide +kernel
theorem dX5_init_37 : decode cX5_init 37 = .ok (.anewarray 27, 3) := by decide +kernel
theorem dX5_init_40 : decode cX5_init 40 = .ok (.putfield 33, 3) := by decide +kernel
theorem dX5_init_43 : decode cX5_init 43 = .ok (.iconst 0, 1) := by decide +kernel
theorem dX5_init_44 : decode cX5_init 44 = .ok (.istore 5, 2) := by decide +kernel
theorem dX5_init_46 : decode cX5_init 46 = .ok (.iload 5, 2) := by decide +kernel
theorem dX5_init_48 : decode cX5_init 48 = .ok (.bipush 6, 2) := by decide +kernel
theorem dX5_init_50 : decode cX5_init 50 = .ok (.if_icmp .ge 37, 3) := by decide +kernel
theorem dX5_init_53 : decode cX5_init 53 = .ok (.aload_n 0, 1) := by decide +kernel
theorem dX5_init_54 : decode cX5_init 54 = .ok (.getfield 29, 3) := by decide +kernel
theorem dX5_init_57 : decode cX5_init 57 = .ok (.iload 5, 2) := by decide +kernel
theorem dX5_init_59 : decode cX5_init 59 = .ok (.new 27, 3) := by decide +kernel
theorem dX5_init_62 : decode cX5_init 62 = .ok (.dup, 1) := by decide +kernel
theorem dX5_init_63 : decode cX5_init 63 = .ok (.invokespecial 36, 3) := by decide +kernel
theorem dX5_init_66 : decode cX5_init 66 = .ok (.aastore, 1) := by decide +kernel
theorem dX5_init_67 : decode cX5_init 67 = .ok (.aload_n 0, 1) := by decide +kernel
theorem dX5_init_68 : decode cX5_init 68 = .ok (.getfield 33, 3) := by decide +kernel
theorem dX5_init_71 : decode cX5_init 71 = .ok (.iload 5, 2) := by decide +kernel
theorem dX5_init_73 : decode cX5_init 73 = .ok (.new 27, 3) := by decide +kernel
theorem dX5_init_76 : decode cX5_init 76 = .ok (.dup, 1) := by decide +kernel
theorem dX5_init_77 : decode cX5_init 77 = .ok (.invokespecial 36, 3) := by decide +kernel
theorem dX5_init_80 : decode cX5_init 80 = .ok (.aastore, 1) := by decide +kernel
theorem dX5_init_81 : decode cX5_init 81 = .ok (.iinc 5 1, 3) := by decide +kernel
theorem dX5_init_84 : decode cX5_init 84 = .ok (.goto (-38), 3) := by decide +kernel
theorem dX5_init_87 : decode cX5_init 87 = .ok (.aload_n 0, 1) := by decide +kernel
theorem dX5_init_88 : decode cX5_init 88 = .ok (.bipush 6, 2) := by decide +kernel
theorem dX5_init_90 : decode cX5_init 90 = .ok (.newarray .boolean, 2) := by decide +kernel
theorem dX5_init_92 : decode cX5_init 92 = .ok (.putfield 37, 3) := by decide +kernel
theorem dX5_init_95 : decode cX5_init 95 = .ok (.aload_n 0, 1) := by decide +kernel
theorem dX5_init_96 : decode cX5_init 96 = .ok (.bipush 6, 2) := by decide +kernel
theorem dX5_init_98 : decode cX5_init 98 = .ok (.newarray .boolean, 2) := by decide +kernel
theorem dX5_init_100 : decode cX5_init 100 = .ok (.putfield 41, 3) := by decide +kernel
theorem dX5_init_103 : decode cX5_init 103 = .ok (.aload_n 0, 1) := by decide +kernel
theorem dX5_init_104 : decode cX5_init 104 = .ok (.new 27, 3) := by decide +kernel
theorem dX5_init_107 : decode cX5_init 107 = .ok (.dup, 1) := by decide +kernel
theorem dX5_init_108 : decode cX5_init 108 = .ok (.invokespecial 36, 3) := by decide +kernel
theorem dX5_init_111 : decode cX5_init 111 = .ok (.putfield 44, 3) := by decide +kernel
theorem dX5_init_114 : decode cX5_init 114 = .ok (.aload_n 0, 1) := by decide +kernel
theorem dX5_init_115 : decode cX5_init 115 = .ok (.iconst 0, 1) := by decide +kernel
theorem dX5_init_116 : decode cX5_init 116 = .ok (.putfield 48, 3) := by decide +kernel
theorem dX5_init_119 : decode cX5_init 119 = .ok (.return_, 1) := by decide +kernel
theorem dX5_reckon_0 : decode cX5_reckon 0 = .ok (.aload_n 0, 1) := by decide +kernel
theorem dX5_reckon_1 : decode cX5_reckon 1 = .ok (.iconst 0, 1) := by decide +kernel
theorem dX5_reckon_2 : decode cX5_reckon 2 = .ok (.putfield 48, 3) := by decide +kernel
theorem dX5_reckon_5 : decode cX5_reckon 5 = .ok (.aload_n 0, 1) := by decide +kernel
theorem dX5_reckon_6 : decode cX5_reckon 6 = .ok (.invokevirtual 52, 3) := by decide +kernel
theorem dX5_reckon_9 : decode cX5_reckon 9 = .ok (.iconst 2, 1) := by decide +kernel
theorem dX5_reckon_10 : decode cX5_reckon 10 = .ok (.istore_n 2, 1) := by decide +kernel
theorem dX5_reckon_11 : decode cX5_reckon 11 = .ok (.iload_n 2, 1) := by decide +kernel
theorem dX5_reckon_12 : decode cX5_reckon 12 = .ok (.aload_n 0, 1) := by decide +kernel
theorem dX5_reckon_13 : decode cX5_reckon 13 = .ok (.getfield 15, 3) := by decide +kernel
theorem dX5_reckon_16 : decode cX5_reckon 16 = .ok (.getfield 55, 3) := by decide +kernel
theorem dX5_reckon_19 : decode cX5_reckon 19 = .ok (.if_icmp .ge 235, 3) := by decide +kernel
theorem dX5_reckon_22 : decode cX5_reckon 22 = .ok (.aload_n 0, 1) := by decide +kernel
theorem dX5_reckon_23 : decode cX5_reckon 23 = .ok (.getfield 15, 3) := by decide +kernel
theorem dX5_reckon_26 : decode cX5_reckon 26 = .ok (.iload_n 2, 1) := by decide +kernel
theorem dX5_reckon_27 : decode cX5_reckon 27 = .ok (.invokevirtual 58, 3) := by decide +kernel
theorem dX5_reckon_30 : decode cX5_reckon 30 = .ok (.istore_n 3, 1) := by decide +kernel
theorem dX5_reckon_31 : decode cX5_reckon 31 = .ok (.iload_n 3, 1) := by decide +kernel
theorem dX5_reckon_32 : decode cX5_reckon 32 = .ok (.lookupswitch 191 #[(40, 68), (41, 89), (42, 161), (43, 130), (45, 130), (47, 161), (94, 188)], 68) := by decide +kernel
theorem dX5_reckon_100 : decode cX5_reckon 100 = .ok (.aload_n 0, 1) := by decide +kernel
theorem dX5_reckon_101 : decode cX5_reckon 101 = .ok (.aload_n 0, 1) := by decide +kernel
theorem dX5_reckon_102 : decode cX5_reckon 102 = .ok (.getfield 48, 3) := by decide +kernel
theorem dX5_reckon_105 : decode cX5_reckon 105 = .ok (.iconst 1, 1) := by decide +kernel
theorem dX5_reckon_106 : decode cX5_reckon 106 = .ok (.iadd, 1) := by decide +kernel
theorem dX5_reckon_107 : decode cX5_reckon 107 = .ok (.iconst 5, 1) := by decide +kernel
theorem dX5_reckon_108 : decode cX5_reckon 108 = .ok (.invokestatic 62, 3) := by decide +kernel
theorem dX5_reckon_111 : decode cX5_reckon 111 = .ok (.putfield 48, 3) := by decide +kernel
theorem dX5_reckon_114 : decode cX5_reckon 114 = .ok (.aload_n 0, 1) := by decide +kernel
theorem dX5_reckon_115 : decode cX5_reckon 115 = .ok (.invokevirtual 52, 3) := by decide +kernel
theorem dX5_reckon_118 : decode cX5_reckon 118 = .ok (.goto 130, 3) := by decide +kernel
theorem dX5_reckon_121 : decode cX5_reckon 121 = .ok (.aload_n 0, 1) := by decide +kernel
theorem dX5_reckon_122 : decode cX5_reckon 122 = .ok (.invokevirtual 68, 3) := by decide +kernel
theorem dX5_reckon_125 : decode cX5_reckon 125 = .ok (.aload_n 0, 1) := by decide +kernel
theorem dX5_reckon_126 : decode cX5_reckon 126 = .ok (.invokevirtual 71, 3) := by decide +kernel
theorem dX5_reckon_129 : decode cX5_reckon 129 = .ok (.aload_n 0, 1) := by decide +kernel
theorem dX5_reckon_130 : decode cX5_reckon 130 = .ok (.getfield 44, 3) := by decide +kernel
theorem dX5_reckon_133 : decode cX5_reckon 133 = .ok (.aload_n 0, 1) := by decide +kernel
theorem dX5_reckon_134 : decode cX5_reckon 134 = .ok (.getfield 29, 3) := by decide +kernel
theorem dX5_reckon_137 : decode cX5_reckon 137 = .ok (.aload_n 0, 1) := by decide +kernel
theorem dX5_reckon_138 : decode cX5_reckon 138 = .ok (.getfield 48, 3) := by decide +kernel
theorem dX5_reckon_141 : decode cX5_reckon 141 = .ok (.aaload, 1) := by decide +kernel
theorem dX5_reckon_142 : decode cX5_reckon 142 = .ok (.invokevirtual 74, 3) := by decide +kernel
theorem dX5_reckon_145 : decode cX5_reckon 145 = .ok (.aload_n 0, 1) := by decide +kernel
theorem dX5_reckon_146 : decode cX5_reckon 146 = .ok (.aload_n 0, 1) := by decide +kernel
theorem dX5_reckon_147 : decode cX5_reckon 147 = .ok (.getfield 48, 3) := by decide +kernel
theorem dX5_reckon_150 : decode cX5_reckon 150 = .ok (.iconst 1, 1) := by decide +kernel
theorem dX5_reckon_151 : decode cX5_reckon 151 = .ok (.isub, 1) := by decide +kernel
theorem dX5_reckon_152 : decode cX5_reckon 152 = .ok (.iconst 0, 1) := by decide +kernel
theorem dX5_reckon_153 : decode cX5_reckon 153 = .ok (.invokestatic 78, 3) := by decide +kernel
theorem dX5_reckon_156 : decode cX5_reckon 156 = .ok (.putfield 48, 3) := by decide +kernel
theorem dX5_reckon_159 : decode cX5_reckon 159 = .ok (.goto 89, 3) := by decide +kernel
theorem dX5_reckon_162 : decode cX5_reckon 162 = .ok (.aload_n 0, 1) := by decide +kernel
theorem dX5_reckon_163 : decode cX5_reckon 163 = .ok (.invokevirtual 68, 3) := by decide +kernel
theorem dX5_reckon_166 : decode cX5_reckon 166 = .ok (.aload_n 0, 1) := by decide +kernel
theorem dX5_reckon_167 : decode cX5_reckon 167 = .ok (.invokevirtual 71, 3) := by decide +kernel
theorem dX5_reckon_170 : decode cX5_reckon 170 = .ok (.aload_n 0, 1) := by decide +kernel
theorem dX5_reckon_171 : decode cX5_reckon 171 = .ok (.getfield 37, 3) := by decide +kernel
theorem dX5_reckon_174 : decode cX5_reckon 174 = .ok (.aload_n 0, 1) := by decide +kernel
theorem dX5_reckon_175 : decode cX5_reckon 175 = .ok (.getfield 48, 3) := by decide +kernel
theorem dX5_reckon_178 : decode cX5_reckon 178 = .ok (.iload_n 3, 1) := by decide +kernel
theorem dX5_reckon_179 : decode cX5_reckon 179 = .ok (.bipush 45, 2) := by decide +kernel
theorem dX5_reckon_181 : decode cX5_reckon 181 = .ok (.if_icmp .ne 7, 3) := by decide +kernel
theorem dX5_reckon_184 : decode cX5_reckon 184 = .ok (.iconst 1, 1) := by decide +kernel
theorem dX5_reckon_185 : decode cX5_reckon 185 = .ok (.goto 4, 3) := by decide +kernel
theorem dX5_reckon_188 : decode cX5_reckon 188 = .ok (.iconst 0, 1) := by decide +kernel
theorem dX5_reckon_189 : decode cX5_reckon 189 = .ok (.bastore, 1) := by decide +kernel
theorem dX5_reckon_190 : decode cX5_reckon 190 = .ok (.goto 58, 3) := by decide +kernel
theorem dX5_reckon_193 : decode cX5_reckon 193 = .ok (.aload_n 0, 1) := by decide +kernel
theorem dX5_reckon_194 : decode cX5_reckon 194 = .ok (.invokevirtual 68, 3) := by decide +kernel
theorem dX5_reckon_197 : decode cX5_reckon 197 = .ok (.aload_n 0, 1) := by decide +kernel
theorem dX5_reckon_198 : decode cX5_reckon 198 = .ok (.getfield 41, 3) := by decide +kernel
theorem dX5_reckon_201 : decode cX5_reckon 201 = .ok (.aload_n 0, 1) := by decide +kernel
theorem dX5_reckon_202 : decode cX5_reckon 202 = .ok (.getfield 48, 3) := by decide +kernel
theorem dX5_reckon_205 : decode cX5_reckon 205 = .ok (.iload_n 3, 1) := by decide +kernel
theorem dX5_reckon_206 : decode cX5_reckon 206 = .ok (.bipush 47, 2) := by decide +kernel
theorem dX5_reckon_208 : decode cX5_reckon 208 = .ok (.if_icmp .ne 7, 3) := by decide +kernel
theorem dX5_reckon_211 : decode cX5_reckon 211 = .ok (.iconst 1, 1) := by decide +kernel
theorem dX5_reckon_212 : decode cX5_reckon 212 = .ok (.goto 4, 3) := by decide +kernel
theorem dX5_reckon_215 : decode cX5_reckon 215 = .ok (.iconst 0, 1) := by decide +kernel
theorem dX5_reckon_216 : decode cX5_reckon 216 = .ok (.bastore, 1) := by decide +kernel
theorem dX5_reckon_217 : decode cX5_reckon 217 = .ok (.goto 31, 3) := by decide +kernel
theorem dX5_reckon_220 : decode cX5_reckon 220 = .ok (.goto 28, 3) := by decide +kernel
theorem dX5_reckon_223 : decode cX5_reckon 223 = .ok (.aload_n 0, 1) := by decide +kernel
theorem dX5_reckon_224 : decode cX5_reckon 224 = .ok (.iload_n 3, 1) := by decide +kernel
theorem dX5_reckon_225 : decode cX5_reckon 225 = .ok (.aload_n 0, 1) := by decide +kernel
theorem dX5_reckon_226 : decode cX5_reckon 226 = .ok (.getfield 15, 3) := by decide +kernel
theorem dX5_reckon_229 : decode cX5_reckon 229 = .ok (.iload_n 2, 1) := by decide +kernel
theorem dX5_reckon_230 : decode cX5_reckon 230 = .ok (.iconst 1, 1) := by decide +kernel
theorem dX5_reckon_231 : decode cX5_reckon 231 = .ok (.isub, 1) := by decide +kernel
theorem dX5_reckon_232 : decode cX5_reckon 232 = .ok (.invokevirtual 58, 3) := by decide +kernel
theorem dX5_reckon_235 : decode cX5_reckon 235 = .ok (.bipush 94, 2) := by decide +kernel
theorem dX5_reckon_237 : decode cX5_reckon 237 = .ok (.if_icmp .ne 7, 3) := by decide +kernel
theorem dX5_reckon_240 : decode cX5_reckon 240 = .ok (.iconst 1, 1) := by decide +kernel
theorem dX5_reckon_241 : decode cX5_reckon 241 = .ok (.goto 4, 3) := by decide +kernel
theorem dX5_reckon_244 : decode cX5_reckon 244 = .ok (.iconst 0, 1) := by decide +kernel
theorem dX5_reckon_245 : decode cX5_reckon 245 = .ok (.invokevirtual 81, 3) := by decide +kernel
theorem dX5_reckon_248 : decode cX5_reckon 248 = .ok (.iinc 2 1, 3) := by decide +kernel
theorem dX5_reckon_251 : decode cX5_reckon 251 = .ok (.goto (-240), 3) := by decide +kernel
theorem dX5_reckon_254 : decode cX5_reckon 254 = .ok (.aload_n 0, 1) := by decide +kernel
theorem dX5_reckon_255 : decode cX5_reckon 255 = .ok (.invokevirtual 68, 3) := by decide +kernel
theorem dX5_reckon_258 : decode cX5_reckon 258 = .ok (.aload_n 0, 1) := by decide +kernel
theorem dX5_reckon_259 : decode cX5_reckon 259 = .ok (.invokevirtual 71, 3) := by decide +kernel
theorem dX5_reckon_262 : decode cX5_reckon 262 = .ok (.aload_n 1, 1) := by decide +kernel
theorem dX5_reckon_263 : decode cX5_reckon 263 = .ok (.aload_n 0, 1) := by decide +kernel
theorem dX5_reckon_264 : decode cX5_reckon 264 = .ok (.getfield 29, 3) := by decide +kernel
theorem dX5_reckon_267 : decode cX5_reckon 267 = .ok (.aload_n 0, 1) := by decide +kernel
theorem dX5_reckon_268 : decode cX5_reckon 268 = .ok (.getfield 48, 3) := by decide +kernel
theorem dX5_reckon_271 : decode cX5_reckon 271 = .ok (.aaload, 1) := by decide +kernel
theorem dX5_reckon_272 : decode cX5_reckon 272 = .ok (.invokevirtual 74, 3) := by decide +kernel
theorem dX5_reckon_275 : decode cX5_reckon 275 = .ok (.return_, 1) := by decide +kernel
theorem dX5_startSum_0 : decode cX5_startSum 0 = .ok (.aload_n 0, 1) := by decide +kernel
theorem dX5_startSum_1 : decode cX5_startSum 1 = .ok (.getfield 29, 3) := by decide +kernel
theorem dX5_startSum_4 : decode cX5_startSum 4 = .ok (.aload_n 0, 1) := by decide +kernel
theorem dX5_startSum_5 : decode cX5_startSum 5 = .ok (.getfield 48, 3) := by decide +kernel
theorem dX5_startSum_8 : decode cX5_startSum 8 = .ok (.aaload, 1) := by decide +kernel
theorem dX5_startSum_9 : decode cX5_startSum 9 = .ok (.invokevirtual 85, 3) := by decide +kernel
theorem dX5_startSum_12 : decode cX5_startSum 12 = .ok (.aload_n 0, 1) := by decide +kernel
theorem dX5_startSum_13 : decode cX5_startSum 13 = .ok (.getfield 37, 3) := by decide +kernel
theorem dX5_startSum_16 : decode cX5_startSum 16 = .ok (.aload_n 0, 1) := by decide +kernel
theorem dX5_startSum_17 : decode cX5_startSum 17 = .ok (.getfield 48, 3) := by decide +kernel
theorem dX5_startSum_20 : decode cX5_startSum 20 = .ok (.iconst 0, 1) := by decide +kernel
theorem dX5_startSum_21 : decode cX5_startSum 21 = .ok (.bastore, 1) := by decide +kernel
theorem dX5_startSum_22 : decode cX5_startSum 22 = .ok (.aload_n 0, 1) := by decide +kernel
theorem dX5_startSum_23 : decode cX5_startSum 23 = .ok (.invokevirtual 88, 3) := by decide +kernel
theorem dX5_startSum_26 : decode cX5_startSum 26 = .ok (.return_, 1) := by decide +kernel
theorem dX5_startProduct_0 : decode cX5_startProduct 0 = .ok (.aload_n 0, 1) := by decide +kernel
theorem dX5_startProduct_1 : decode cX5_startProduct 1 = .ok (.getfield 33, 3) := by decide +kernel
theorem dX5_startProduct_4 : decode cX5_startProduct 4 = .ok (.aload_n 0, 1) := by decide +kernel
theorem dX5_startProduct_5 : decode cX5_startProduct 5 = .ok (.getfield 48, 3) := by decide +kernel
theorem dX5_startProduct_8 : decode cX5_startProduct 8 = .ok (.aaload, 1) := by decide +kernel
theorem dX5_startProduct_9 : decode cX5_startProduct 9 = .ok (.iconst 1, 1) := by decide +kernel
theorem dX5_startProduct_10 : decode cX5_startProduct 10 = .ok (.invokevirtual 91, 3) := by decide +kernel
theorem dX5_startProduct_13 : decode cX5_startProduct 13 = .ok (.aload_n 0, 1) := by decide +kernel
theorem dX5_startProduct_14 : decode cX5_startProduct 14 = .ok (.getfield 41, 3) := by decide +kernel
theorem dX5_startProduct_17 : decode cX5_startProduct 17 = .ok (.aload_n 0, 1) := by decide +kernel
theorem dX5_startProduct_18 : decode cX5_startProduct 18 = .ok (.getfield 48, 3) := by decide +kernel
theorem dX5_startProduct_21 : decode cX5_startProduct 21 = .ok (.iconst 0, 1) := by decide +kernel
theorem dX5_startProduct_22 : decode cX5_startProduct 22 = .ok (.bastore, 1) := by decide +kernel
theorem dX5_startProduct_23 : decode cX5_startProduct 23 = .ok (.return_, 1) := by decide +kernel
theorem dX5_endFactor_0 : decode cX5_endFactor 0 = .ok (.aload_n 0, 1) := by decide +kernel
theorem dX5_endFactor_1 : decode cX5_endFactor 1 = .ok (.getfield 33, 3) := by decide +kernel
theorem dX5_endFactor_4 : decode cX5_endFactor 4 = .ok (.aload_n 0, 1) := by decide +kernel
theorem dX5_endFactor_5 : decode cX5_endFactor 5 = .ok (.getfield 48, 3) := by decide +kernel
theorem dX5_endFactor_8 : decode cX5_endFactor 8 = .ok (.aaload, 1) := by decide +kernel
theorem dX5_endFactor_9 : decode cX5_endFactor 9 = .ok (.astore_n 1, 1) := by decide +kernel
theorem dX5_endFactor_10 : decode cX5_endFactor 10 = .ok (.aload_n 0, 1) := by decide +kernel
theorem dX5_endFactor_11 : decode cX5_endFactor 11 = .ok (.getfield 41, 3) := by decide +kernel
theorem dX5_endFactor_14 : decode cX5_endFactor 14 = .ok (.aload_n 0, 1) := by decide +kernel
theorem dX5_endFactor_15 : decode cX5_endFactor 15 = .ok (.getfield 48, 3) := by decide +kernel
theorem dX5_endFactor_18 : decode cX5_endFactor 18 = .ok (.baload, 1) := by decide +kernel
theorem dX5_endFactor_19 : decode cX5_endFactor 19 = .ok (.ifCond .eq 30, 3) := by decide +kernel
theorem dX5_endFactor_22 : decode cX5_endFactor 22 = .ok (.aload_n 0, 1) := by decide +kernel
theorem dX5_endFactor_23 : decode cX5_endFactor 23 = .ok (.getfield 23, 3) := by decide +kernel
theorem dX5_endFactor_26 : decode cX5_endFactor 26 = .ok (.aload_n 0, 1) := by decide +kernel
theorem dX5_endFactor_27 : decode cX5_endFactor 27 = .ok (.getfield 44, 3) := by decide +kernel
theorem dX5_endFactor_30 : decode cX5_endFactor 30 = .ok (.invokevirtual 95, 3) := by decide +kernel
theorem dX5_endFactor_33 : decode cX5_endFactor 33 = .ok (.aload_n 0, 1) := by decide +kernel
theorem dX5_endFactor_34 : decode cX5_endFactor 34 = .ok (.getfield 19, 3) := by decide +kernel
theorem dX5_endFactor_37 : decode cX5_endFactor 37 = .ok (.aload_n 1, 1) := by decide +kernel
theorem dX5_endFactor_38 : decode cX5_endFactor 38 = .ok (.aload_n 1, 1) := by decide +kernel
theorem dX5_endFactor_39 : decode cX5_endFactor 39 = .ok (.aload_n 0, 1) := by decide +kernel
theorem dX5_endFactor_40 : decode cX5_endFactor 40 = .ok (.getfield 44, 3) := by decide +kernel
theorem dX5_endFactor_43 : decode cX5_endFactor 43 = .ok (.invokevirtual 100, 3) := by decide +kernel
theorem dX5_endFactor_46 : decode cX5_endFactor 46 = .ok (.goto 16, 3) := by decide +kernel
theorem dX5_endFactor_49 : decode cX5_endFactor 49 = .ok (.aload_n 0, 1) := by decide +kernel
theorem dX5_endFactor_50 : decode cX5_endFactor 50 = .ok (.getfield 19, 3) := by decide +kernel
theorem dX5_endFactor_53 : decode cX5_endFactor 53 = .ok (.aload_n 1, 1) := by decide +kernel
theorem dX5_endFactor_54 : decode cX5_endFactor 54 = .ok (.aload_n 1, 1) := by decide +kernel
theorem dX5_endFactor_55 : decode cX5_endFactor 55 = .ok (.aload_n 0, 1) := by decide +kernel
theorem dX5_endFactor_56 : decode cX5_endFactor 56 = .ok (.getfield 44, 3) := by decide +kernel
theorem dX5_endFactor_59 : decode cX5_endFactor 59 = .ok (.invokevirtual 106, 3) := by decide +kernel
theorem dX5_endFactor_62 : decode cX5_endFactor 62 = .ok (.return_, 1) := by decide +kernel
theorem dX5_endProduct_0 : decode cX5_endProduct 0 = .ok (.aload_n 0, 1) := by decide +kernel
theorem dX5_endProduct_1 : decode cX5_endProduct 1 = .ok (.getfield 19, 3) := by decide +kernel
theorem dX5_endProduct_4 : decode cX5_endProduct 4 = .ok (.aload_n 0, 1) := by decide +kernel
theorem dX5_endProduct_5 : decode cX5_endProduct 5 = .ok (.getfield 29, 3) := by decide +kernel
theorem dX5_endProduct_8 : decode cX5_endProduct 8 = .ok (.aload_n 0, 1) := by decide +kernel
theorem dX5_endProduct_9 : decode cX5_endProduct 9 = .ok (.getfield 48, 3) := by decide +kernel
theorem dX5_endProduct_12 : decode cX5_endProduct 12 = .ok (.aaload, 1) := by decide +kernel
theorem dX5_endProduct_13 : decode cX5_endProduct 13 = .ok (.aload_n 0, 1) := by decide +kernel
theorem dX5_endProduct_14 : decode cX5_endProduct 14 = .ok (.getfield 33, 3) := by decide +kernel
theorem dX5_endProduct_17 : decode cX5_endProduct 17 = .ok (.aload_n 0, 1) := by decide +kernel
theorem dX5_endProduct_18 : decode cX5_endProduct 18 = .ok (.getfield 48, 3) := by decide +kernel
theorem dX5_endProduct_21 : decode cX5_endProduct 21 = .ok (.aaload, 1) := by decide +kernel
theorem dX5_endProduct_22 : decode cX5_endProduct 22 = .ok (.aload_n 0, 1) := by decide +kernel
theorem dX5_endProduct_23 : decode cX5_endProduct 23 = .ok (.getfield 37, 3) := by decide +kernel
theorem dX5_endProduct_26 : decode cX5_endProduct 26 = .ok (.aload_n 0, 1) := by decide +kernel
theorem dX5_endProduct_27 : decode cX5_endProduct 27 = .ok (.getfield 48, 3) := by decide +kernel
theorem dX5_endProduct_30 : decode cX5_endProduct 30 = .ok (.baload, 1) := by decide +kernel
theorem dX5_endProduct_31 : decode cX5_endProduct 31 = .ok (.invokevirtual 109, 3) := by decide +kernel
theorem dX5_endProduct_34 : decode cX5_endProduct 34 = .ok (.aload_n 0, 1) := by decide +kernel
theorem dX5_endProduct_35 : decode cX5_endProduct 35 = .ok (.invokevirtual 88, 3) := by decide +kernel
theorem dX5_endProduct_38 : decode cX5_endProduct 38 = .ok (.return_, 1) := by decide +kernel
theorem dX5_takeSimpleOrExponent_0 : decode cX5_takeSimpleOrExponent 0 = .ok (.iload_n 2, 1) := by decide +kernel
theorem dX5_takeSimpleOrExponent_1 : decode cX5_takeSimpleOrExponent 1 = .ok (.ifCond .eq 25, 3) := by decide +kernel
theorem dX5_takeSimpleOrExponent_4 : decode cX5_takeSimpleOrExponent 4 = .ok (.aload_n 0, 1) := by decide +kernel
theorem dX5_takeSimpleOrExponent_5 : decode cX5_takeSimpleOrExponent 5 = .ok (.getfield 19, 3) := by decide +kernel
theorem dX5_takeSimpleOrExponent_8 : decode cX5_takeSimpleOrExponent 8 = .ok (.aload_n 0, 1) := by decide +kernel
theorem dX5_takeSimpleOrExponent_9 : decode cX5_takeSimpleOrExponent 9 = .ok (.getfield 44, 3) := by decide +kernel
theorem dX5_takeSimpleOrExponent_12 : decode cX5_takeSimpleOrExponent 12 = .ok (.aload_n 0, 1) := by decide +kernel
theorem dX5_takeSimpleOrExponent_13 : decode cX5_takeSimpleOrExponent 13 = .ok (.getfield 44, 3) := by decide +kernel
theorem dX5_takeSimpleOrExponent_16 : decode cX5_takeSimpleOrExponent 16 = .ok (.iload_n 1, 1) := by decide +kernel
theorem dX5_takeSimpleOrExponent_17 : decode cX5_takeSimpleOrExponent 17 = .ok (.bipush 48, 2) := by decide +kernel
theorem dX5_takeSimpleOrExponent_19 : decode cX5_takeSimpleOrExponent 19 = .ok (.isub, 1) := by decide +kernel
theorem dX5_takeSimpleOrExponent_20 : decode cX5_takeSimpleOrExponent 20 = .ok (.invokevirtual 113, 3) := by decide +kernel
theorem dX5_takeSimpleOrExponent_23 : decode cX5_takeSimpleOrExponent 23 = .ok (.goto 70, 3) := by decide +kernel
theorem dX5_takeSimpleOrExponent_26 : decode cX5_takeSimpleOrExponent 26 = .ok (.iload_n 1, 1) := by decide +kernel
theorem dX5_takeSimpleOrExponent_27 : decode cX5_takeSimpleOrExponent 27 = .ok (.bipush 120, 2) := by decide +kernel
theorem dX5_takeSimpleOrExponent_29 : decode cX5_takeSimpleOrExponent 29 = .ok (.if_icmp .ne 17, 3) := by decide +kernel
theorem dX5_takeSimpleOrExponent_32 : decode cX5_takeSimpleOrExponent 32 = .ok (.aload_n 0, 1) := by decide +kernel
theorem dX5_takeSimpleOrExponent_33 : decode cX5_takeSimpleOrExponent 33 = .ok (.getfield 19, 3) := by decide +kernel
theorem dX5_takeSimpleOrExponent_36 : decode cX5_takeSimpleOrExponent 36 = .ok (.aload_n 0, 1) := by decide +kernel
theorem dX5_takeSimpleOrExponent_37 : decode cX5_takeSimpleOrExponent 37 = .ok (.getfield 44, 3) := by decide +kernel
theorem dX5_takeSimpleOrExponent_40 : decode cX5_takeSimpleOrExponent 40 = .ok (.invokevirtual 117, 3) := by decide +kernel
theorem dX5_takeSimpleOrExponent_43 : decode cX5_takeSimpleOrExponent 43 = .ok (.goto 50, 3) := by decide +kernel
theorem dX5_takeSimpleOrExponent_46 : decode cX5_takeSimpleOrExponent 46 = .ok (.iload_n 1, 1) := by decide +kernel
theorem dX5_takeSimpleOrExponent_47 : decode cX5_takeSimpleOrExponent 47 = .ok (.invokestatic 120, 3) := by decide +kernel
theorem dX5_takeSimpleOrExponent_50 : decode cX5_takeSimpleOrExponent 50 = .ok (.ifCond .eq 25, 3) := by decide +kernel
theorem dX5_takeSimpleOrExponent_53 : decode cX5_takeSimpleOrExponent 53 = .ok (.aload_n 0, 1) := by decide +kernel
theorem dX5_takeSimpleOrExponent_54 : decode cX5_takeSimpleOrExponent 54 = .ok (.getfield 44, 3) := by decide +kernel
theorem dX5_takeSimpleOrExponent_57 : decode cX5_takeSimpleOrExponent 57 = .ok (.aload_n 0, 1) := by decide +kernel
theorem dX5_takeSimpleOrExponent_58 : decode cX5_takeSimpleOrExponent 58 = .ok (.getfield 9, 3) := by decide +kernel
theorem dX5_takeSimpleOrExponent_61 : decode cX5_takeSimpleOrExponent 61 = .ok (.getfield 124, 3) := by decide +kernel
theorem dX5_takeSimpleOrExponent_64 : decode cX5_takeSimpleOrExponent 64 = .ok (.iload_n 1, 1) := by decide +kernel
theorem dX5_takeSimpleOrExponent_65 : decode cX5_takeSimpleOrExponent 65 = .ok (.bipush 97, 2) := by decide +kernel
theorem dX5_takeSimpleOrExponent_67 : decode cX5_takeSimpleOrExponent 67 = .ok (.isub, 1) := by decide +kernel
theorem dX5_takeSimpleOrExponent_68 : decode cX5_takeSimpleOrExponent 68 = .ok (.aaload, 1) := by decide +kernel
theorem dX5_takeSimpleOrExponent_69 : decode cX5_takeSimpleOrExponent 69 = .ok (.invokevirtual 74, 3) := by decide +kernel
theorem dX5_takeSimpleOrExponent_72 : decode cX5_takeSimpleOrExponent 72 = .ok (.goto 21, 3) := by decide +kernel
theorem dX5_takeSimpleOrExponent_75 : decode cX5_takeSimpleOrExponent 75 = .ok (.aload_n 0, 1) := by decide +kernel
theorem dX5_takeSimpleOrExponent_76 : decode cX5_takeSimpleOrExponent 76 = .ok (.getfield 44, 3) := by decide +kernel
theorem dX5_takeSimpleOrExponent_79 : decode cX5_takeSimpleOrExponent 79 = .ok (.aload_n 0, 1) := by decide +kernel
theorem dX5_takeSimpleOrExponent_80 : decode cX5_takeSimpleOrExponent 80 = .ok (.getfield 9, 3) := by decide +kernel
theorem dX5_takeSimpleOrExponent_83 : decode cX5_takeSimpleOrExponent 83 = .ok (.iload_n 1, 1) := by decide +kernel
theorem dX5_takeSimpleOrExponent_84 : decode cX5_takeSimpleOrExponent 84 = .ok (.bipush 48, 2) := by decide +kernel
theorem dX5_takeSimpleOrExponent_86 : decode cX5_takeSimpleOrExponent 86 = .ok (.isub, 1) := by decide +kernel
theorem dX5_takeSimpleOrExponent_87 : decode cX5_takeSimpleOrExponent 87 = .ok (.invokevirtual 129, 3) := by decide +kernel
theorem dX5_takeSimpleOrExponent_90 : decode cX5_takeSimpleOrExponent 90 = .ok (.invokevirtual 91, 3) := by decide +kernel
theorem dX5_takeSimpleOrExponent_93 : decode cX5_takeSimpleOrExponent 93 = .ok (.return_, 1) := by decide +kernel
theorem dX6_init_0 : decode cX6_init 0 = .ok (.aload_n 0, 1) := by decide +kernel
theorem dX6_init_1 : decode cX6_init 1 = .ok (.invokespecial 3, 3) := by decide +kernel
theorem dX6_init_4 : decode cX6_init 4 = .ok (.aload_n 0, 1) := by decide +kernel
theorem dX6_init_5 : decode cX6_init 5 = .ok (.aload_n 1, 1) := by decide +kernel
theorem dX6_init_6 : decode cX6_init 6 = .ok (.putfield 9, 3) := by decide +kernel
theorem dX6_init_9 : decode cX6_init 9 = .ok (.aload_n 0, 1) := by decide +kernel
theorem dX6_init_10 : decode cX6_init 10 = .ok (.aload_n 2, 1) := by decide +kernel
theorem dX6_init_11 : decode cX6_init 11 = .ok (.putfield 15, 3) := by decide +kernel
theorem dX6_init_14 : decode cX6_init 14 = .ok (.aload_n 0, 1) := by decide +kernel
theorem dX6_init_15 : decode cX6_init 15 = .ok (.new 19, 3) := by decide +kernel
theorem dX6_init_18 : decode cX6_init 18 = .ok (.dup, 1) := by decide +kernel
theorem dX6_init_19 : decode cX6_init 19 = .ok (.invokespecial 21, 3) := by decide +kernel
theorem dX6_init_22 : decode cX6_init 22 = .ok (.putfield 22, 3) := by decide +kernel
theorem dX6_init_25 : decode cX6_init 25 = .ok (.aload_n 0, 1) := by decide +kernel
theorem dX6_init_26 : decode cX6_init 26 = .ok (.new 19, 3) := by decide +kernel
theorem dX6_init_29 : decode cX6_init 29 = .ok (.dup, 1) := by decide +kernel
theorem dX6_init_30 : decode cX6_init 30 = .ok (.invokespecial 21, 3) := by decide +kernel
theorem dX6_init_33 : decode cX6_init 33 = .ok (.putfield 26, 3) := by decide +kernel
theorem dX6_init_36 : decode cX6_init 36 = .ok (.aload_n 0, 1) := by decide +kernel
theorem dX6_init_37 : decode cX6_init 37 = .ok (.new 19, 3) := by decide +kernel
theorem dX6_init_40 : decode cX6_init 40 = .ok (.dup, 1) := by decide +kernel
theorem dX6_init_41 : decode cX6_init 41 = .ok (.invokespecial 21, 3) := by decide +kernel
theorem dX6_init_44 : decode cX6_init 44 = .ok (.putfield 29, 3) := by decide +kernel
theorem dX6_init_47 : decode cX6_init 47 = .ok (.aload_n 0, 1) := by decide +kernel
theorem dX6_init_48 : decode cX6_init 48 = .ok (.new 19, 3) := by decide +kernel
theorem dX6_init_51 : decode cX6_init 51 = .ok (.dup, 1) := by decide +kernel
theorem dX6_init_52 : decode cX6_init 52 = .ok (.invokespecial 21, 3) := by decide +kernel
theorem dX6_init_55 : decode cX6_init 55 = .ok (.putfield 32, 3) := by decide +kernel
theorem dX6_init_58 : decode cX6_init 58 = .ok (.aload_n 0, 1) := by decide +kernel
theorem dX6_init_59 : decode cX6_init 59 = .ok (.new 19, 3) := by decide +kernel
theorem dX6_init_62 : decode cX6_init 62 = .ok (.dup, 1) := by decide +kernel
theorem dX6_init_63 : decode cX6_init 63 = .ok (.invokespecial 21, 3) := by decide +kernel
theorem dX6_init_66 : decode cX6_init 66 = .ok (.putfield 35, 3) := by decide +kernel
theorem dX6_init_69 : decode cX6_init 69 = .ok (.aload_n 0, 1) := by decide +kernel
theorem dX6_init_70 : decode cX6_init 70 = .ok (.new 19, 3) := by decide +kernel
theorem dX6_init_73 : decode cX6_init 73 = .ok (.dup, 1) := by decide +kernel
theorem dX6_init_74 : decode cX6_init 74 = .ok (.invokespecial 21, 3) := by decide +kernel
theorem dX6_init_77 : decode cX6_init 77 = .ok (.putfield 38, 3) := by decide +kernel
theorem dX6_init_80 : decode cX6_init 80 = .ok (.aload_n 0, 1) := by decide +kernel
theorem dX6_init_81 : decode cX6_init 81 = .ok (.new 19, 3) := by decide +kernel
theorem dX6_init_84 : decode cX6_init 84 = .ok (.dup, 1) := by decide +kernel
theorem dX6_init_85 : decode cX6_init 85 = .ok (.invokespecial 21, 3) := by decide +kernel
theorem dX6_init_88 : decode cX6_init 88 = .ok (.putfield 41, 3) := by decide +kernel
theorem dX6_init_91 : decode cX6_init 91 = .ok (.aload_n 0, 1) := by decide +kernel
theorem dX6_init_92 : decode cX6_init 92 = .ok (.new 19, 3) := by decide +kernel
theorem dX6_init_95 : decode cX6_init 95 = .ok (.dup, 1) := by decide +kernel
theorem dX6_init_96 : decode cX6_init 96 = .ok (.invokespecial 21, 3) := by decide +kernel
theorem dX6_init_99 : decode cX6_init 99 = .ok (.putfield 44, 3) := by decide +kernel
theorem dX6_init_102 : decode cX6_init 102 = .ok (.aload_n 0, 1) := by decide +kernel
theorem dX6_init_103 : decode cX6_init 103 = .ok (.bipush 6, 2) := by decide +kernel
theorem dX6_init_105 : decode cX6_init 105 = .ok (.anewarray 19, 3) := by decide +kernel
theorem dX6_init_108 : decode cX6_init 108 = .ok (.putfield 47, 3) := by decide +kernel
theorem dX6_init_111 : decode cX6_init 111 = .ok (.aload_n 0, 1) := by decide +kernel
theorem dX6_init_112 : decode cX6_init 112 = .ok (.bipush 6, 2) := by decide +kernel
theorem dX6_init_114 : decode cX6_init 114 = .ok (.anewarray 19, 3) := by decide +kernel
theorem dX6_init_117 : decode cX6_init 117 = .ok (.putfield 51, 3) := by decide +kernel
theorem dX6_init_120 : decode cX6_init 120 = .ok (.iconst 0, 1) := by decide +kernel
theorem dX6_init_121 : decode cX6_init 121 = .ok (.istore_n 3, 1) := by decide +kernel
theorem dX6_init_122 : decode cX6_init 122 = .ok (.iload_n 3, 1) := by decide +kernel
theorem dX6_init_123 : decode cX6_init 123 = .ok (.bipush 6, 2) := by decide +kernel
theorem dX6_init_125 : decode cX6_init 125 = .ok (.if_icmp .ge 35, 3) := by decide +kernel
theorem dX6_init_128 : decode cX6_init 128 = .ok (.aload_n 0, 1) := by decide +kernel
theorem dX6_init_129 : decode cX6_init 129 = .ok (.getfield 47, 3) := by decide +kernel
theorem dX6_init_132 : decode cX6_init 132 = .ok (.iload_n 3, 1) := by decide +kernel
theorem dX6_init_133 : decode cX6_init 133 = .ok (.new 19, 3) := by decide +kernel
theorem dX6_init_136 : decode cX6_init 136 = .ok (.dup, 1) := by decide +kernel
theorem dX6_init_137 : decode cX6_init 137 = .ok (.invokespecial 21, 3) := by decide +kernel
theorem dX6_init_140 : decode cX6_init 140 = .ok (.aastore, 1) := by decide +kernel
theorem dX6_init_141 : decode cX6_init 141 = .ok (.aload_n 0, 1) := by decide +kernel
theorem dX6_init_142 : decode cX6_init 142 = .ok (.getfield 51, 3) := by decide +kernel
theorem dX6_init_145 : decode cX6_init 145 = .ok (.iload_n 3, 1) := by decide +kernel
theorem dX6_init_146 : decode cX6_init 146 = .ok (.new 19, 3) := by decide +kernel
theorem dX6_init_149 : decode cX6_init 149 = .ok (.dup, 1) := by decide +kernel
theorem dX6_init_150 : decode cX6_init 150 = .ok (.invokespecial 21, 3) := by decide +kernel
theorem dX6_init_153 : decode cX6_init 153 = .ok (.aastore, 1) := by decide +kernel
theorem dX6_init_154 : decode cX6_init 154 = .ok (.iinc 3 1, 3) := by decide +kernel
theorem dX6_init_157 : decode cX6_init 157 = .ok (.goto (-35), 3) := by decide +kernel
theorem dX6_init_160 : decode cX6_init 160 = .ok (.return_, 1) := by decide +kernel
theorem dX6_becomeVariable_0 : decode cX6_becomeVariable 0 = .ok (.aload_n 1, 1) := by decide +kernel
theorem dX6_becomeVariable_1 : decode cX6_becomeVariable 1 = .ok (.invokevirtual 54, 3) := by decide +kernel
theorem dX6_becomeVariable_4 : decode cX6_becomeVariable 4 = .ok (.aload_n 0, 1) := by decide +kernel
theorem dX6_becomeVariable_5 : decode cX6_becomeVariable 5 = .ok (.getfield 15, 3) := by decide +kernel
theorem dX6_becomeVariable_8 : decode cX6_becomeVariable 8 = .ok (.aload_n 1, 1) := by decide +kernel
theorem dX6_becomeVariable_9 : decode cX6_becomeVariable 9 = .ok (.aload_n 0, 1) := by decide +kernel
theorem dX6_becomeVariable_10 : decode cX6_becomeVariable 10 = .ok (.getfield 9, 3) := by decide +kernel
theorem dX6_becomeVariable_13 : decode cX6_becomeVariable 13 = .ok (.getfield 57, 3) := by decide +kernel
theorem dX6_becomeVariable_16 : decode cX6_becomeVariable 16 = .ok (.invokevirtual 62, 3) := by decide +kernel
theorem dX6_becomeVariable_19 : decode cX6_becomeVariable 19 = .ok (.return_, 1) := by decide +kernel
theorem dX6_add_0 : decode cX6_add 0 = .ok (.aload_n 1, 1) := by decide +kernel
theorem dX6_add_1 : decode cX6_add 1 = .ok (.iload_n 3, 1) := by decide +kernel
theorem dX6_add_2 : decode cX6_add 2 = .ok (.ifCond .eq 7, 3) := by decide +kernel
theorem dX6_add_5 : decode cX6_add 5 = .ok (.iconst (-1), 1) := by decide +kernel
theorem dX6_add_6 : decode cX6_add 6 = .ok (.goto 4, 3) := by decide +kernel
theorem dX6_add_9 : decode cX6_add 9 = .ok (.iconst 1, 1) := by decide +kernel
theorem dX6_add_10 : decode cX6_add 10 = .ok (.aload_n 2, 1) := by decide +kernel
theorem dX6_add_11 : decode cX6_add 11 = .ok (.iconst 0, 1) := by decide +kernel
theorem dX6_add_12 : decode cX6_add 12 = .ok (.aload_n 0, 1) := by decide +kernel
theorem dX6_add_13 : decode cX6_add 13 = .ok (.getfield 9, 3) := by decide +kernel
theorem dX6_add_16 : decode cX6_add 16 = .ok (.getfield 68, 3) := by decide +kernel
theorem dX6_add_19 : decode cX6_add 19 = .ok (.invokevirtual 72, 3) := by decide +kernel
theorem dX6_add_22 : decode cX6_add 22 = .ok (.return_, 1) := by decide +kernel
theorem dX6_multiply_0 : decode cX6_multiply 0 = .ok (.aload_n 0, 1) := by decide +kernel
theorem dX6_multiply_1 : decode cX6_multiply 1 = .ok (.getfield 15, 3) := by decide +kernel
theorem dX6_multiply_4 : decode cX6_multiply 4 = .ok (.aload_n 1, 1) := by decide +kernel
theorem dX6_multiply_5 : decode cX6_multiply 5 = .ok (.aload_n 2, 1) := by decide +kernel
theorem dX6_multiply_6 : decode cX6_multiply 6 = .ok (.aload_n 3, 1) := by decide +kernel
theorem dX6_multiply_7 : decode cX6_multiply 7 = .ok (.invokevirtual 76, 3) := by decide +kernel
theorem dX6_multiply_10 : decode cX6_multiply 10 = .ok (.aload_n 0, 1) := by decide +kernel
theorem dX6_multiply_11 : decode cX6_multiply 11 = .ok (.getfield 15, 3) := by decide +kernel
theorem dX6_multiply_14 : decode cX6_multiply 14 = .ok (.aload_n 1, 1) := by decide +kernel
theorem dX6_multiply_15 : decode cX6_multiply 15 = .ok (.aload_n 0, 1) := by decide +kernel
theorem dX6_multiply_16 : decode cX6_multiply 16 = .ok (.getfield 9, 3) := by decide +kernel
theorem dX6_multiply_19 : decode cX6_multiply 19 = .ok (.getfield 57, 3) := by decide +kernel
theorem dX6_multiply_22 : decode cX6_multiply 22 = .ok (.aload_n 0, 1) := by decide +kernel
theorem dX6_multiply_23 : decode cX6_multiply 23 = .ok (.getfield 22, 3) := by decide +kernel
theorem dX6_multiply_26 : decode cX6_multiply 26 = .ok (.invokevirtual 80, 3) := by decide +kernel
theorem dX6_multiply_29 : decode cX6_multiply 29 = .ok (.return_, 1) := by decide +kernel
theorem dX6_raise_0 : decode cX6_raise 0 = .ok (.aload_n 0, 1) := by decide +kernel
theorem dX6_raise_1 : decode cX6_raise 1 = .ok (.getfield 26, 3) := by decide +kernel
theorem dX6_raise_4 : decode cX6_raise 4 = .ok (.aload_n 2, 1) := by decide +kernel
theorem dX6_raise_5 : decode cX6_raise 5 = .ok (.invokevirtual 83, 3) := by decide +kernel
theorem dX6_raise_8 : decode cX6_raise 8 = .ok (.aload_n 1, 1) := by decide +kernel
theorem dX6_raise_9 : decode cX6_raise 9 = .ok (.iconst 1, 1) := by decide +kernel
theorem dX6_raise_10 : decode cX6_raise 10 = .ok (.invokevirtual 87, 3) := by decide +kernel
theorem dX6_raise_13 : decode cX6_raise 13 = .ok (.iload_n 3, 1) := by decide +kernel
theorem dX6_raise_14 : decode cX6_raise 14 = .ok (.istore 4, 2) := by decide +kernel
theorem dX6_raise_16 : decode cX6_raise 16 = .ok (.iload 4, 2) := by decide +kernel
theorem dX6_raise_18 : decode cX6_raise 18 = .ok (.ifCond .le 52, 3) := by decide +kernel
theorem dX6_raise_21 : decode cX6_raise 21 = .ok (.iload 4, 2) := by decide +kernel
theorem dX6_raise_23 : decode cX6_raise 23 = .ok (.iconst 1, 1) := by decide +kernel
theorem dX6_raise_24 : decode cX6_raise 24 = .ok (.iand, 1) := by decide +kernel
theorem dX6_raise_25 : decode cX6_raise 25 = .ok (.iconst 1, 1) := by decide +kernel
theorem dX6_raise_26 : decode cX6_raise 26 = .ok (.if_icmp .ne 13, 3) := by decide +kernel
theorem dX6_raise_29 : decode cX6_raise 29 = .ok (.aload_n 0, 1) := by decide +kernel
theorem dX6_raise_30 : decode cX6_raise 30 = .ok (.aload_n 1, 1) := by decide +kernel
theorem dX6_raise_31 : decode cX6_raise 31 = .ok (.aload_n 1, 1) := by decide +kernel
theorem dX6_raise_32 : decode cX6_raise 32 = .ok (.aload_n 0, 1) := by decide +kernel
theorem dX6_raise_33 : decode cX6_raise 33 = .ok (.getfield 26, 3) := by decide +kernel
theorem dX6_raise_36 : decode cX6_raise 36 = .ok (.invokevirtual 91, 3) := by decide +kernel
theorem dX6_raise_39 : decode cX6_raise 39 = .ok (.iload 4, 2) := by decide +kernel
theorem dX6_raise_41 : decode cX6_raise 41 = .ok (.iconst 1, 1) := by decide +kernel
theorem dX6_raise_42 : decode cX6_raise 42 = .ok (.if_icmp .le 19, 3) := by decide +kernel
theorem dX6_raise_45 : decode cX6_raise 45 = .ok (.aload_n 0, 1) := by decide +kernel
theorem dX6_raise_46 : decode cX6_raise 46 = .ok (.aload_n 0, 1) := by decide +kernel
theorem dX6_raise_47 : decode cX6_raise 47 = .ok (.getfield 26, 3) := by decide +kernel
theorem dX6_raise_50 : decode cX6_raise 50 = .ok (.aload_n 0, 1) := by decide +kernel
theorem dX6_raise_51 : decode cX6_raise 51 = .ok (.getfield 26, 3) := by decide +kernel
theorem dX6_raise_54 : decode cX6_raise 54 = .ok (.aload_n 0, 1) := by decide +kernel
theorem dX6_raise_55 : decode cX6_raise 55 = .ok (.getfield 26, 3) := by decide +kernel
theorem dX6_raise_58 : decode cX6_raise 58 = .ok (.invokevirtual 91, 3) := by decide +kernel
theorem dX6_raise_61 : decode cX6_raise 61 = .ok (.iload 4, 2) := by decide +kernel
theorem dX6_raise_63 : decode cX6_raise 63 = .ok (.iconst 1, 1) := by decide +kernel
theorem dX6_raise_64 : decode cX6_raise 64 = .ok (.ishr, 1) := by decide +kernel
theorem dX6_raise_65 : decode cX6_raise 65 = .ok (.istore 4, 2) := by decide +kernel
theorem dX6_raise_67 : decode cX6_raise 67 = .ok (.goto (-51), 3) := by decide +kernel
theorem dX6_raise_70 : decode cX6_raise 70 = .ok (.return_, 1) := by decide +kernel
theorem dX6_divide_0 : decode cX6_divide 0 = .ok (.aload_n 0, 1) := by decide +kernel
theorem dX6_divide_1 : decode cX6_divide 1 = .ok (.getfield 15, 3) := by decide +kernel
theorem dX6_divide_4 : decode cX6_divide 4 = .ok (.aload_n 0, 1) := by decide +kernel
theorem dX6_divide_5 : decode cX6_divide 5 = .ok (.getfield 29, 3) := by decide +kernel
theorem dX6_divide_8 : decode cX6_divide 8 = .ok (.aload_n 0, 1) := by decide +kernel
theorem dX6_divide_9 : decode cX6_divide 9 = .ok (.getfield 9, 3) := by decide +kernel
theorem dX6_divide_12 : decode cX6_divide 12 = .ok (.getfield 57, 3) := by decide +kernel
theorem dX6_divide_15 : decode cX6_divide 15 = .ok (.aload_n 3, 1) := by decide +kernel
theorem dX6_divide_16 : decode cX6_divide 16 = .ok (.invokevirtual 92, 3) := by decide +kernel
theorem dX6_divide_19 : decode cX6_divide 19 = .ok (.aload_n 0, 1) := by decide +kernel
theorem dX6_divide_20 : decode cX6_divide 20 = .ok (.getfield 15, 3) := by decide +kernel
theorem dX6_divide_23 : decode cX6_divide 23 = .ok (.aload_n 0, 1) := by decide +kernel
theorem dX6_divide_24 : decode cX6_divide 24 = .ok (.getfield 32, 3) := by decide +kernel
theorem dX6_divide_27 : decode cX6_divide 27 = .ok (.aload_n 0, 1) := by decide +kernel
theorem dX6_divide_28 : decode cX6_divide 28 = .ok (.getfield 9, 3) := by decide +kernel
theorem dX6_divide_31 : decode cX6_divide 31 = .ok (.getfield 57, 3) := by decide +kernel
theorem dX6_divide_34 : decode cX6_divide 34 = .ok (.aload_n 0, 1) := by decide +kernel
theorem dX6_divide_35 : decode cX6_divide 35 = .ok (.getfield 29, 3) := by decide +kernel
theorem dX6_divide_38 : decode cX6_divide 38 = .ok (.invokevirtual 95, 3) := by decide +kernel
theorem dX6_divide_41 : decode cX6_divide 41 = .ok (.aload_n 0, 1) := by decide +kernel
theorem dX6_divide_42 : decode cX6_divide 42 = .ok (.getfield 15, 3) := by decide +kernel
theorem dX6_divide_45 : decode cX6_divide 45 = .ok (.aload_n 0, 1) := by decide +kernel
theorem dX6_divide_46 : decode cX6_divide 46 = .ok (.getfield 38, 3) := by decide +kernel
theorem dX6_divide_49 : decode cX6_divide 49 = .ok (.aload_n 0, 1) := by decide +kernel
theorem dX6_divide_50 : decode cX6_divide 50 = .ok (.getfield 29, 3) := by decide +kernel
theorem dX6_divide_53 : decode cX6_divide 53 = .ok (.aload_n 3, 1) := by decide +kernel
theorem dX6_divide_54 : decode cX6_divide 54 = .ok (.invokevirtual 76, 3) := by decide +kernel
theorem dX6_divide_57 : decode cX6_divide 57 = .ok (.aload_n 0, 1) := by decide +kernel
theorem dX6_divide_58 : decode cX6_divide 58 = .ok (.getfield 15, 3) := by decide +kernel
theorem dX6_divide_61 : decode cX6_divide 61 = .ok (.aload_n 0, 1) := by decide +kernel
theorem dX6_divide_62 : decode cX6_divide 62 = .ok (.getfield 38, 3) := by decide +kernel
theorem dX6_divide_65 : decode cX6_divide 65 = .ok (.aload_n 0, 1) := by decide +kernel
theorem dX6_divide_66 : decode cX6_divide 66 = .ok (.getfield 32, 3) := by decide +kernel
theorem dX6_divide_69 : decode cX6_divide 69 = .ok (.invokevirtual 62, 3) := by decide +kernel
theorem dX6_divide_72 : decode cX6_divide 72 = .ok (.aload_n 0, 1) := by decide +kernel
theorem dX6_divide_73 : decode cX6_divide 73 = .ok (.getfield 15, 3) := by decide +kernel
theorem dX6_divide_76 : decode cX6_divide 76 = .ok (.aload_n 0, 1) := by decide +kernel
theorem dX6_divide_77 : decode cX6_divide 77 = .ok (.getfield 35, 3) := by decide +kernel
theorem dX6_divide_80 : decode cX6_divide 80 = .ok (.aload_n 0, 1) := by decide +kernel
theorem dX6_divide_81 : decode cX6_divide 81 = .ok (.getfield 38, 3) := by decide +kernel
theorem dX6_divide_84 : decode cX6_divide 84 = .ok (.aload_n 0, 1) := by decide +kernel
theorem dX6_divide_85 : decode cX6_divide 85 = .ok (.getfield 32, 3) := by decide +kernel
theorem dX6_divide_88 : decode cX6_divide 88 = .ok (.invokevirtual 98, 3) := by decide +kernel
theorem dX6_divide_91 : decode cX6_divide 91 = .ok (.aload_n 0, 1) := by decide +kernel
theorem dX6_divide_92 : decode cX6_divide 92 = .ok (.aload_n 0, 1) := by decide +kernel
theorem dX6_divide_93 : decode cX6_divide 93 = .ok (.getfield 38, 3) := by decide +kernel
theorem dX6_divide_96 : decode cX6_divide 96 = .ok (.aload_n 0, 1) := by decide +kernel
theorem dX6_divide_97 : decode cX6_divide 97 = .ok (.getfield 29, 3) := by decide +kernel
theorem dX6_divide_100 : decode cX6_divide 100 = .ok (.aload_n 0, 1) := by decide +kernel
theorem dX6_divide_101 : decode cX6_divide 101 = .ok (.getfield 35, 3) := by decide +kernel
theorem dX6_divide_104 : decode cX6_divide 104 = .ok (.invokevirtual 91, 3) := by decide +kernel
theorem dX6_divide_107 : decode cX6_divide 107 = .ok (.aload_n 0, 1) := by decide +kernel
theorem dX6_divide_108 : decode cX6_divide 108 = .ok (.aload_n 1, 1) := by decide +kernel
theorem dX6_divide_109 : decode cX6_divide 109 = .ok (.aload_n 2, 1) := by decide +kernel
theorem dX6_divide_110 : decode cX6_divide 110 = .ok (.aload_n 0, 1) := by decide +kernel
theorem dX6_divide_111 : decode cX6_divide 111 = .ok (.getfield 38, 3) := by decide +kernel
theorem dX6_divide_114 : decode cX6_divide 114 = .ok (.invokevirtual 91, 3) := by decide +kernel
theorem dX6_divide_117 : decode cX6_divide 117 = .ok (.return_, 1) := by decide +kernel
theorem dX6_unitOf_0 : decode cX6_unitOf 0 = .ok (.aload_n 0, 1) := by decide +kernel
theorem dX6_unitOf_1 : decode cX6_unitOf 1 = .ok (.getfield 15, 3) := by decide +kernel
theorem dX6_unitOf_4 : decode cX6_unitOf 4 = .ok (.aload_n 1, 1) := by decide +kernel
theorem dX6_unitOf_5 : decode cX6_unitOf 5 = .ok (.aload_n 0, 1) := by decide +kernel
theorem dX6_unitOf_6 : decode cX6_unitOf 6 = .ok (.getfield 9, 3) := by decide +kernel
theorem dX6_unitOf_9 : decode cX6_unitOf 9 = .ok (.getfield 57, 3) := by decide +kernel
theorem dX6_unitOf_12 : decode cX6_unitOf 12 = .ok (.aload_n 2, 1) := by decide +kernel
theorem dX6_unitOf_13 : decode cX6_unitOf 13 = .ok (.invokevirtual 95, 3) := by decide +kernel
theorem dX6_unitOf_16 : decode cX6_unitOf 16 = .ok (.aload_n 0, 1) := by decide +kernel
theorem dX6_unitOf_17 : decode cX6_unitOf 17 = .ok (.aload_n 1, 1) := by decide +kernel
theorem dX6_unitOf_18 : decode cX6_unitOf 18 = .ok (.aload_n 1, 1) := by decide +kernel
theorem dX6_unitOf_19 : decode cX6_unitOf 19 = .ok (.aload_n 1, 1) := by decide +kernel
theorem dX6_unitOf_20 : decode cX6_unitOf 20 = .ok (.invokevirtual 101, 3) := by decide +kernel
theorem dX6_unitOf_23 : decode cX6_unitOf 23 = .ok (.return_, 1) := by decide +kernel
theorem dX6_putTogether_0 : decode cX6_putTogether 0 = .ok (.aload_n 0, 1) := by decide +kernel
theorem dX6_putTogether_1 : decode cX6_putTogether 1 = .ok (.getfield 41, 3) := by decide +kernel
theorem dX6_putTogether_4 : decode cX6_putTogether 4 = .ok (.aload_n 2, 1) := by decide +kernel
theorem dX6_putTogether_5 : decode cX6_putTogether 5 = .ok (.invokevirtual 83, 3) := by decide +kernel
theorem dX6_putTogether_8 : decode cX6_putTogether 8 = .ok (.aload_n 0, 1) := by decide +kernel
theorem dX6_putTogether_9 : decode cX6_putTogether 9 = .ok (.aload_n 0, 1) := by decide +kernel
theorem dX6_putTogether_10 : decode cX6_putTogether 10 = .ok (.getfield 41, 3) := by decide +kernel
theorem dX6_putTogether_13 : decode cX6_putTogether 13 = .ok (.aload 4, 2) := by decide +kernel
theorem dX6_putTogether_15 : decode cX6_putTogether 15 = .ok (.iconst 1, 1) := by decide +kernel
theorem dX6_putTogether_16 : decode cX6_putTogether 16 = .ok (.invokevirtual 102, 3) := by decide +kernel
theorem dX6_putTogether_19 : decode cX6_putTogether 19 = .ok (.aload_n 0, 1) := by decide +kernel
theorem dX6_putTogether_20 : decode cX6_putTogether 20 = .ok (.aload_n 1, 1) := by decide +kernel
theorem dX6_putTogether_21 : decode cX6_putTogether 21 = .ok (.aload_n 3, 1) := by decide +kernel
theorem dX6_putTogether_22 : decode cX6_putTogether 22 = .ok (.invokevirtual 106, 3) := by decide +kernel
theorem dX6_putTogether_25 : decode cX6_putTogether 25 = .ok (.aload_n 0, 1) := by decide +kernel
theorem dX6_putTogether_26 : decode cX6_putTogether 26 = .ok (.aload_n 1, 1) := by decide +kernel
theorem dX6_putTogether_27 : decode cX6_putTogether 27 = .ok (.aload_n 1, 1) := by decide +kernel
theorem dX6_putTogether_28 : decode cX6_putTogether 28 = .ok (.aload_n 0, 1) := by decide +kernel
theorem dX6_putTogether_29 : decode cX6_putTogether 29 = .ok (.getfield 41, 3) := by decide +kernel
theorem dX6_putTogether_32 : decode cX6_putTogether 32 = .ok (.invokevirtual 91, 3) := by decide +kernel
theorem dX6_putTogether_35 : decode cX6_putTogether 35 = .ok (.aload_n 0, 1) := by decide +kernel
theorem dX6_putTogether_36 : decode cX6_putTogether 36 = .ok (.aload_n 1, 1) := by decide +kernel
theorem dX6_putTogether_37 : decode cX6_putTogether 37 = .ok (.aload 4, 2) := by decide +kernel
theorem dX6_putTogether_39 : decode cX6_putTogether 39 = .ok (.iconst 0, 1) := by decide +kernel
theorem dX6_putTogether_40 : decode cX6_putTogether 40 = .ok (.invokevirtual 102, 3) := by decide +kernel
theorem dX6_putTogether_43 : decode cX6_putTogether 43 = .ok (.return_, 1) := by decide +kernel
theorem dX6_traceOf_0 : decode cX6_traceOf 0 = .ok (.aload_n 0, 1) := by decide +kernel
theorem dX6_traceOf_1 : decode cX6_traceOf 1 = .ok (.getfield 38, 3) := by decide +kernel
theorem dX6_traceOf_4 : decode cX6_traceOf 4 = .ok (.aload_n 1, 1) := by decide +kernel
theorem dX6_traceOf_5 : decode cX6_traceOf 5 = .ok (.invokevirtual 83, 3) := by decide +kernel
theorem dX6_traceOf_8 : decode cX6_traceOf 8 = .ok (.aload_n 0, 1) := by decide +kernel
theorem dX6_traceOf_9 : decode cX6_traceOf 9 = .ok (.getfield 41, 3) := by decide +kernel
theorem dX6_traceOf_12 : decode cX6_traceOf 12 = .ok (.invokevirtual 54, 3) := by decide +kernel
theorem dX6_traceOf_15 : decode cX6_traceOf 15 = .ok (.iconst 0, 1) := by decide +kernel
theorem dX6_traceOf_16 : decode cX6_traceOf 16 = .ok (.istore_n 2, 1) := by decide +kernel
theorem dX6_traceOf_17 : decode cX6_traceOf 17 = .ok (.iconst 0, 1) := by decide +kernel
theorem dX6_traceOf_18 : decode cX6_traceOf 18 = .ok (.istore_n 3, 1) := by decide +kernel
theorem dX6_traceOf_19 : decode cX6_traceOf 19 = .ok (.iload_n 3, 1) := by decide +kernel
theorem dX6_traceOf_20 : decode cX6_traceOf 20 = .ok (.aload_n 0, 1) := by decide +kernel
theorem dX6_traceOf_21 : decode cX6_traceOf 21 = .ok (.getfield 9, 3) := by decide +kernel
theorem dX6_traceOf_24 : decode cX6_traceOf 24 = .ok (.getfield 57, 3) := by decide +kernel
theorem dX6_traceOf_27 : decode cX6_traceOf 27 = .ok (.getfield 109, 3) := by decide +kernel
theorem dX6_traceOf_30 : decode cX6_traceOf 30 = .ok (.if_icmp .ge 36, 3) := by decide +kernel
theorem dX6_traceOf_33 : decode cX6_traceOf 33 = .ok (.iload_n 2, 1) := by decide +kernel
theorem dX6_traceOf_34 : decode cX6_traceOf 34 = .ok (.aload_n 0, 1) := by decide +kernel
theorem dX6_traceOf_35 : decode cX6_traceOf 35 = .ok (.getfield 38, 3) := by decide +kernel
theorem dX6_traceOf_38 : decode cX6_traceOf 38 = .ok (.iload_n 3, 1) := by decide +kernel
theorem dX6_traceOf_39 : decode cX6_traceOf 39 = .ok (.invokevirtual 112, 3) := by decide +kernel
theorem dX6_traceOf_42 : decode cX6_traceOf 42 = .ok (.iadd, 1) := by decide +kernel
theorem dX6_traceOf_43 : decode cX6_traceOf 43 = .ok (.istore_n 2, 1) := by decide +kernel
theorem dX6_traceOf_44 : decode cX6_traceOf 44 = .ok (.aload_n 0, 1) := by decide +kernel
theorem dX6_traceOf_45 : decode cX6_traceOf 45 = .ok (.aload_n 0, 1) := by decide +kernel
theorem dX6_traceOf_46 : decode cX6_traceOf 46 = .ok (.getfield 38, 3) := by decide +kernel
theorem dX6_traceOf_49 : decode cX6_traceOf 49 = .ok (.aload_n 0, 1) := by decide +kernel
theorem dX6_traceOf_50 : decode cX6_traceOf 50 = .ok (.getfield 38, 3) := by decide +kernel
theorem dX6_traceOf_53 : decode cX6_traceOf 53 = .ok (.aload_n 0, 1) := by decide +kernel
theorem dX6_traceOf_54 : decode cX6_traceOf 54 = .ok (.getfield 41, 3) := by decide +kernel
theorem dX6_traceOf_57 : decode cX6_traceOf 57 = .ok (.invokevirtual 91, 3) := by decide +kernel
theorem dX6_traceOf_60 : decode cX6_traceOf 60 = .ok (.iinc 3 1, 3) := by decide +kernel
theorem dX6_traceOf_63 : decode cX6_traceOf 63 = .ok (.goto (-44), 3) := by decide +kernel
theorem dX6_traceOf_66 : decode cX6_traceOf 66 = .ok (.aload_n 0, 1) := by decide +kernel
theorem dX6_traceOf_67 : decode cX6_traceOf 67 = .ok (.getfield 9, 3) := by decide +kernel
theorem dX6_traceOf_70 : decode cX6_traceOf 70 = .ok (.iload_n 2, 1) := by decide +kernel
theorem dX6_traceOf_71 : decode cX6_traceOf 71 = .ok (.invokevirtual 116, 3) := by decide +kernel
theorem dX6_traceOf_74 : decode cX6_traceOf 74 = .ok (.ireturn, 1) := by decide +kernel
theorem dX6_findLeastPolynomial_0 : decode cX6_findLeastPolynomial 0 = .ok (.iconst 0, 1) := by decide +kernel
theorem dX6_findLeastPolynomial_1 : decode cX6_findLeastPolynomial 1 = .ok (.istore_n 3, 1) := by decide +kernel
theorem dX6_findLeastPolynomial_2 : decode cX6_findLeastPolynomial 2 = .ok (.iload_n 3, 1) := by decide +kernel
theorem dX6_findLeastPolynomial_3 : decode cX6_findLeastPolynomial 3 = .ok (.bipush 6, 2) := by decide +kernel
theorem dX6_findLeastPolynomial_5 : decode cX6_findLeastPolynomial 5 = .ok (.if_icmp .ge 18, 3) := by decide +kernel
theorem dX6_findLeastPolynomial_8 : decode cX6_findLeastPolynomial 8 = .ok (.aload_n 0, 1) := by decide +kernel
theorem dX6_findLeastPolynomial_9 : decode cX6_findLeastPolynomial 9 = .ok (.getfield 47, 3) := by decide +kernel
theorem dX6_findLeastPolynomial_12 : decode cX6_findLeastPolynomial 12 = .ok (.iload_n 3, 1) := by decide +kernel
theorem dX6_findLeastPolynomial_13 : decode cX6_findLeastPolynomial 13 = .ok (.aaload, 1) := by decide +kernel
theorem dX6_findLeastPolynomial_14 : decode cX6_findLeastPolynomial 14 = .ok (.invokevirtual 119, 3) := by decide +kernel
theorem dX6_findLeastPolynomial_17 : decode cX6_findLeastPolynomial 17 = .ok (.iinc 3 1, 3) := by decide +kernel
theorem dX6_findLeastPolynomial_20 : decode cX6_findLeastPolynomial 20 = .ok (.goto (-18), 3) := by decide +kernel
theorem dX6_findLeastPolynomial_23 : decode cX6_findLeastPolynomial 23 = .ok (.aload_n 0, 1) := by decide +kernel
theorem dX6_findLeastPolynomial_24 : decode cX6_findLeastPolynomial 24 = .ok (.getfield 38, 3) := by decide +kernel
theorem dX6_findLeastPolynomial_27 : decode cX6_findLeastPolynomial 27 = .ok (.iconst 1, 1) := by decide +kernel
theorem dX6_findLeastPolynomial_28 : decode cX6_findLeastPolynomial 28 = .ok (.invokevirtual 87, 3) := by decide +kernel
theorem dX6_findLeastPolynomial_31 : decode cX6_findLeastPolynomial 31 = .ok (.iconst 0, 1) := by decide +kernel
theorem dX6_findLeastPolynomial_32 : decode cX6_findLeastPolynomial 32 = .ok (.istore_n 3, 1) := by decide +kernel
theorem dX6_findLeastPolynomial_33 : decode cX6_findLeastPolynomial 33 = .ok (.iload_n 3, 1) := by decide +kernel
theorem dX6_findLeastPolynomial_34 : decode cX6_findLeastPolynomial 34 = .ok (.aload_n 0, 1) := by decide +kernel
theorem dX6_findLeastPolynomial_35 : decode cX6_findLeastPolynomial 35 = .ok (.getfield 9, 3) := by decide +kernel
theorem dX6_findLeastPolynomial_38 : decode cX6_findLeastPolynomial 38 = .ok (.getfield 57, 3) := by decide +kernel
theorem dX6_findLeastPolynomial_41 : decode cX6_findLeastPolynomial 41 = .ok (.getfield 109, 3) := by decide +kernel
theorem dX6_findLeastPolynomial_44 : decode cX6_findLeastPolynomial 44 = .ok (.if_icmp .gt 105, 3) := by decide +kernel
theorem dX6_findLeastPolynomial_47 : decode cX6_findLeastPolynomial 47 = .ok (.aload_n 0, 1) := by decide +kernel
theorem dX6_findLeastPolynomial_48 : decode cX6_findLeastPolynomial 48 = .ok (.getfield 41, 3) := by decide +kernel
theorem dX6_findLeastPolynomial_51 : decode cX6_findLeastPolynomial 51 = .ok (.aload_n 0, 1) := by decide +kernel
theorem dX6_findLeastPolynomial_52 : decode cX6_findLeastPolynomial 52 = .ok (.getfield 38, 3) := by decide +kernel
theorem dX6_findLeastPolynomial_55 : decode cX6_findLeastPolynomial 55 = .ok (.invokevirtual 83, 3) := by decide +kernel
theorem dX6_findLeastPolynomial_58 : decode cX6_findLeastPolynomial 58 = .ok (.aload_n 0, 1) := by decide +kernel
theorem dX6_findLeastPolynomial_59 : decode cX6_findLeastPolynomial 59 = .ok (.getfield 44, 3) := by decide +kernel
theorem dX6_findLeastPolynomial_62 : decode cX6_findLeastPolynomial 62 = .ok (.invokevirtual 119, 3) := by decide +kernel
theorem dX6_findLeastPolynomial_65 : decode cX6_findLeastPolynomial 65 = .ok (.aload_n 0, 1) := by decide +kernel
theorem dX6_findLeastPolynomial_66 : decode cX6_findLeastPolynomial 66 = .ok (.getfield 44, 3) := by decide +kernel
theorem dX6_findLeastPolynomial_69 : decode cX6_findLeastPolynomial 69 = .ok (.iload_n 3, 1) := by decide +kernel
theorem dX6_findLeastPolynomial_70 : decode cX6_findLeastPolynomial 70 = .ok (.iconst 1, 1) := by decide +kernel
theorem dX6_findLeastPolynomial_71 : decode cX6_findLeastPolynomial 71 = .ok (.invokevirtual 122, 3) := by decide +kernel
theorem dX6_findLeastPolynomial_74 : decode cX6_findLeastPolynomial 74 = .ok (.aload_n 0, 1) := by decide +kernel
theorem dX6_findLeastPolynomial_75 : decode cX6_findLeastPolynomial 75 = .ok (.invokevirtual 126, 3) := by decide +kernel
theorem dX6_findLeastPolynomial_78 : decode cX6_findLeastPolynomial 78 = .ok (.aload_n 0, 1) := by decide +kernel
theorem dX6_findLeastPolynomial_79 : decode cX6_findLeastPolynomial 79 = .ok (.getfield 41, 3) := by decide +kernel
theorem dX6_findLeastPolynomial_82 : decode cX6_findLeastPolynomial 82 = .ok (.getfield 109, 3) := by decide +kernel
theorem dX6_findLeastPolynomial_85 : decode cX6_findLeastPolynomial 85 = .ok (.istore 4, 2) := by decide +kernel
theorem dX6_findLeastPolynomial_87 : decode cX6_findLeastPolynomial 87 = .ok (.iload 4, 2) := by decide +kernel
theorem dX6_findLeastPolynomial_89 : decode cX6_findLeastPolynomial 89 = .ok (.ifCond .lt 60, 3) := by decide +kernel
theorem dX6_findLeastPolynomial_92 : decode cX6_findLeastPolynomial 92 = .ok (.iload 4, 2) := by decide +kernel
theorem dX6_findLeastPolynomial_94 : decode cX6_findLeastPolynomial 94 = .ok (.bipush 6, 2) := by decide +kernel
theorem dX6_findLeastPolynomial_96 : decode cX6_findLeastPolynomial 96 = .ok (.if_icmp .lt 6, 3) := by decide +kernel
theorem dX6_findLeastPolynomial_99 : decode cX6_findLeastPolynomial 99 = .ok (.goto 50, 3) := by decide +kernel
theorem dX6_findLeastPolynomial_102 : decode cX6_findLeastPolynomial 102 = .ok (.aload_n 0, 1) := by decide +kernel
theorem dX6_findLeastPolynomial_103 : decode cX6_findLeastPolynomial 103 = .ok (.getfield 47, 3) := by decide +kernel
theorem dX6_findLeastPolynomial_106 : decode cX6_findLeastPolynomial 106 = .ok (.iload 4, 2) := by decide +kernel
theorem dX6_findLeastPolynomial_108 : decode cX6_findLeastPolynomial 108 = .ok (.aaload, 1) := by decide +kernel
theorem dX6_findLeastPolynomial_109 : decode cX6_findLeastPolynomial 109 = .ok (.aload_n 0, 1) := by decide +kernel
theorem dX6_findLeastPolynomial_110 : decode cX6_findLeastPolynomial 110 = .ok (.getfield 41, 3) := by decide +kernel
theorem dX6_findLeastPolynomial_113 : decode cX6_findLeastPolynomial 113 = .ok (.invokevirtual 83, 3) := by decide +kernel
theorem dX6_findLeastPolynomial_116 : decode cX6_findLeastPolynomial 116 = .ok (.aload_n 0, 1) := by decide +kernel
theorem dX6_findLeastPolynomial_117 : decode cX6_findLeastPolynomial 117 = .ok (.getfield 51, 3) := by decide +kernel
theorem dX6_findLeastPolynomial_120 : decode cX6_findLeastPolynomial 120 = .ok (.iload 4, 2) := by decide +kernel
theorem dX6_findLeastPolynomial_122 : decode cX6_findLeastPolynomial 122 = .ok (.aaload, 1) := by decide +kernel
theorem dX6_findLeastPolynomial_123 : decode cX6_findLeastPolynomial 123 = .ok (.aload_n 0, 1) := by decide +kernel
theorem dX6_findLeastPolynomial_124 : decode cX6_findLeastPolynomial 124 = .ok (.getfield 44, 3) := by decide +kernel
theorem dX6_findLeastPolynomial_127 : decode cX6_findLeastPolynomial 127 = .ok (.invokevirtual 83, 3) := by decide +kernel
theorem dX6_findLeastPolynomial_130 : decode cX6_findLeastPolynomial 130 = .ok (.aload_n 0, 1) := by decide +kernel
theorem dX6_findLeastPolynomial_131 : decode cX6_findLeastPolynomial 131 = .ok (.aload_n 0, 1) := by decide +kernel
theorem dX6_findLeastPolynomial_132 : decode cX6_findLeastPolynomial 132 = .ok (.getfield 38, 3) := by decide +kernel
theorem dX6_findLeastPolynomial_135 : decode cX6_findLeastPolynomial 135 = .ok (.aload_n 0, 1) := by decide +kernel
theorem dX6_findLeastPolynomial_136 : decode cX6_findLeastPolynomial 136 = .ok (.getfield 38, 3) := by decide +kernel
theorem dX6_findLeastPolynomial_139 : decode cX6_findLeastPolynomial 139 = .ok (.aload_n 2, 1) := by decide +kernel
theorem dX6_findLeastPolynomial_140 : decode cX6_findLeastPolynomial 140 = .ok (.invokevirtual 91, 3) := by decide +kernel
theorem dX6_findLeastPolynomial_143 : decode cX6_findLeastPolynomial 143 = .ok (.iinc 3 1, 3) := by decide +kernel
theorem dX6_findLeastPolynomial_146 : decode cX6_findLeastPolynomial 146 = .ok (.goto (-113), 3) := by decide +kernel
theorem dX6_findLeastPolynomial_149 : decode cX6_findLeastPolynomial 149 = .ok (.aload_n 1, 1) := by decide +kernel
theorem dX6_findLeastPolynomial_150 : decode cX6_findLeastPolynomial 150 = .ok (.aload_n 0, 1) := by decide +kernel
theorem dX6_findLeastPolynomial_151 : decode cX6_findLeastPolynomial 151 = .ok (.getfield 44, 3) := by decide +kernel
theorem dX6_findLeastPolynomial_154 : decode cX6_findLeastPolynomial 154 = .ok (.invokevirtual 83, 3) := by decide +kernel
theorem dX6_findLeastPolynomial_157 : decode cX6_findLeastPolynomial 157 = .ok (.return_, 1) := by decide +kernel
theorem dX6_reduceByRows_0 : decode cX6_reduceByRows 0 = .ok (.iconst 5, 1) := by decide +kernel
theorem dX6_reduceByRows_1 : decode cX6_reduceByRows 1 = .ok (.istore_n 1, 1) := by decide +kernel
theorem dX6_reduceByRows_2 : decode cX6_reduceByRows 2 = .ok (.iload_n 1, 1) := by decide +kernel
theorem dX6_reduceByRows_3 : decode cX6_reduceByRows 3 = .ok (.ifCond .lt 87, 3) := by decide +kernel
theorem dX6_reduceByRows_6 : decode cX6_reduceByRows 6 = .ok (.aload_n 0, 1) := by decide +kernel
theorem dX6_reduceByRows_7 : decode cX6_reduceByRows 7 = .ok (.getfield 15, 3) := by decide +kernel
theorem dX6_reduceByRows_10 : decode cX6_reduceByRows 10 = .ok (.aload_n 0, 1) := by decide +kernel
theorem dX6_reduceByRows_11 : decode cX6_reduceByRows 11 = .ok (.getfield 47, 3) := by decide +kernel
theorem dX6_reduceByRows_14 : decode cX6_reduceByRows 14 = .ok (.iload_n 1, 1) := by decide +kernel
theorem dX6_reduceByRows_15 : decode cX6_reduceByRows 15 = .ok (.aaload, 1) := by decide +kernel
theorem dX6_reduceByRows_16 : decode cX6_reduceByRows 16 = .ok (.iload_n 1, 1) := by decide +kernel
theorem dX6_reduceByRows_17 : decode cX6_reduceByRows 17 = .ok (.invokevirtual 112, 3) := by decide +kernel
theorem dX6_reduceByRows_20 : decode cX6_reduceByRows 20 = .ok (.invokevirtual 129, 3) := by decide +kernel
theorem dX6_reduceByRows_23 : decode cX6_reduceByRows 23 = .ok (.istore_n 2, 1) := by decide +kernel
theorem dX6_reduceByRows_24 : decode cX6_reduceByRows 24 = .ok (.aload_n 0, 1) := by decide +kernel
theorem dX6_reduceByRows_25 : decode cX6_reduceByRows 25 = .ok (.getfield 41, 3) := by decide +kernel
theorem dX6_reduceByRows_28 : decode cX6_reduceByRows 28 = .ok (.iload_n 1, 1) := by decide +kernel
theorem dX6_reduceByRows_29 : decode cX6_reduceByRows 29 = .ok (.invokevirtual 112, 3) := by decide +kernel
theorem dX6_reduceByRows_32 : decode cX6_reduceByRows 32 = .ok (.ineg, 1) := by decide +kernel
theorem dX6_reduceByRows_33 : decode cX6_reduceByRows 33 = .ok (.iload_n 2, 1) := by decide +kernel
theorem dX6_reduceByRows_34 : decode cX6_reduceByRows 34 = .ok (.imul, 1) := by decide +kernel
theorem dX6_reduceByRows_35 : decode cX6_reduceByRows 35 = .ok (.istore_n 3, 1) := by decide +kernel
theorem dX6_reduceByRows_36 : decode cX6_reduceByRows 36 = .ok (.iload_n 3, 1) := by decide +kernel
theorem dX6_reduceByRows_37 : decode cX6_reduceByRows 37 = .ok (.ifCond .eq 47, 3) := by decide +kernel
theorem dX6_reduceByRows_40 : decode cX6_reduceByRows 40 = .ok (.aload_n 0, 1) := by decide +kernel
theorem dX6_reduceByRows_41 : decode cX6_reduceByRows 41 = .ok (.getfield 41, 3) := by decide +kernel
theorem dX6_reduceByRows_44 : decode cX6_reduceByRows 44 = .ok (.iload_n 3, 1) := by decide +kernel
theorem dX6_reduceByRows_45 : decode cX6_reduceByRows 45 = .ok (.aload_n 0, 1) := by decide +kernel
theorem dX6_reduceByRows_46 : decode cX6_reduceByRows 46 = .ok (.getfield 47, 3) := by decide +kernel
theorem dX6_reduceByRows_49 : decode cX6_reduceByRows 49 = .ok (.iload_n 1, 1) := by decide +kernel
theorem dX6_reduceByRows_50 : decode cX6_reduceByRows 50 = .ok (.aaload, 1) := by decide +kernel
theorem dX6_reduceByRows_51 : decode cX6_reduceByRows 51 = .ok (.iconst 0, 1) := by decide +kernel
theorem dX6_reduceByRows_52 : decode cX6_reduceByRows 52 = .ok (.aload_n 0, 1) := by decide +kernel
theorem dX6_reduceByRows_53 : decode cX6_reduceByRows 53 = .ok (.getfield 9, 3) := by decide +kernel
theorem dX6_reduceByRows_56 : decode cX6_reduceByRows 56 = .ok (.getfield 68, 3) := by decide +kernel
theorem dX6_reduceByRows_59 : decode cX6_reduceByRows 59 = .ok (.invokevirtual 72, 3) := by decide +kernel
theorem dX6_reduceByRows_62 : decode cX6_reduceByRows 62 = .ok (.aload_n 0, 1) := by decide +kernel
theorem dX6_reduceByRows_63 : decode cX6_reduceByRows 63 = .ok (.getfield 44, 3) := by decide +kernel
theorem dX6_reduceByRows_66 : decode cX6_reduceByRows 66 = .ok (.iload_n 3, 1) := by decide +kernel
theorem dX6_reduceByRows_67 : decode cX6_reduceByRows 67 = .ok (.aload_n 0, 1) := by decide +kernel
theorem dX6_reduceByRows_68 : decode cX6_reduceByRows 68 = .ok (.getfield 51, 3) := by decide +kernel
theorem dX6_reduceByRows_71 : decode cX6_reduceByRows 71 = .ok (.iload_n 1, 1) := by decide +kernel
theorem dX6_reduceByRows_72 : decode cX6_reduceByRows 72 = .ok (.aaload, 1) := by decide +kernel
theorem dX6_reduceByRows_73 : decode cX6_reduceByRows 73 = .ok (.iconst 0, 1) := by decide +kernel
theorem dX6_reduceByRows_74 : decode cX6_reduceByRows 74 = .ok (.aload_n 0, 1) := by decide +kernel
theorem dX6_reduceByRows_75 : decode cX6_reduceByRows 75 = .ok (.getfield 9, 3) := by decide +kernel
theorem dX6_reduceByRows_78 : decode cX6_reduceByRows 78 = .ok (.getfield 68, 3) := by decide +kernel
theorem dX6_reduceByRows_81 : decode cX6_reduceByRows 81 = .ok (.invokevirtual 72, 3) := by decide +kernel
theorem dX6_reduceByRows_84 : decode cX6_reduceByRows 84 = .ok (.iinc 1 (-1), 3) := by decide +kernel
theorem dX6_reduceByRows_87 : decode cX6_reduceByRows 87 = .ok (.goto (-85), 3) := by decide +kernel
theorem dX6_reduceByRows_90 : decode cX6_reduceByRows 90 = .ok (.return_, 1) := by decide +kernel
theorem dX6_leastExponent_0 : decode cX6_leastExponent 0 = .ok (.iload_n 2, 1) := by decide +kernel
theorem dX6_leastExponent_1 : decode cX6_leastExponent 1 = .ok (.istore_n 3, 1) := by decide +kernel
theorem dX6_leastExponent_2 : decode cX6_leastExponent 2 = .ok (.iload_n 2, 1) := by decide +kernel
theorem dX6_leastExponent_3 : decode cX6_leastExponent 3 = .ok (.istore 4, 2) := by decide +kernel
theorem dX6_leastExponent_5 : decode cX6_leastExponent 5 = .ok (.iconst 2, 1) := by decide +kernel
theorem dX6_leastExponent_6 : decode cX6_leastExponent 6 = .ok (.istore 5, 2) := by decide +kernel
theorem dX6_leastExponent_8 : decode cX6_leastExponent 8 = .ok (.iload 5, 2) := by decide +kernel
theorem dX6_leastExponent_10 : decode cX6_leastExponent 10 = .ok (.iload_n 2, 1) := by decide +kernel
theorem dX6_leastExponent_11 : decode cX6_leastExponent 11 = .ok (.if_icmp .gt 93, 3) := by decide +kernel
theorem dX6_leastExponent_14 : decode cX6_leastExponent 14 = .ok (.iload 4, 2) := by decide +kernel
theorem dX6_leastExponent_16 : decode cX6_leastExponent 16 = .ok (.iconst 1, 1) := by decide +kernel
theorem dX6_leastExponent_17 : decode cX6_leastExponent 17 = .ok (.if_icmp .le 87, 3) := by decide +kernel
theorem dX6_leastExponent_20 : decode cX6_leastExponent 20 = .ok (.iload 5, 2) := by decide +kernel
theorem dX6_leastExponent_22 : decode cX6_leastExponent 22 = .ok (.iload 4, 2) := by decide +kernel
theorem dX6_leastExponent_24 : decode cX6_leastExponent 24 = .ok (.iload 5, 2) := by decide +kernel
theorem dX6_leastExponent_26 : decode cX6_leastExponent 26 = .ok (.idiv, 1) := by decide +kernel
theorem dX6_leastExponent_27 : decode cX6_leastExponent 27 = .ok (.if_icmp .le 8, 3) := by decide +kernel
theorem dX6_leastExponent_30 : decode cX6_leastExponent 30 = .ok (.iload 4, 2) := by decide +kernel
theorem dX6_leastExponent_32 : decode cX6_leastExponent 32 = .ok (.goto 5, 3) := by decide +kernel
theorem dX6_leastExponent_35 : decode cX6_leastExponent 35 = .ok (.iload 5, 2) := by decide +kernel
theorem dX6_leastExponent_37 : decode cX6_leastExponent 37 = .ok (.istore 6, 2) := by decide +kernel
theorem dX6_leastExponent_39 : decode cX6_leastExponent 39 = .ok (.iconst 0, 1) := by decide +kernel
theorem dX6_leastExponent_40 : decode cX6_leastExponent 40 = .ok (.istore 7, 2) := by decide +kernel
theorem dX6_leastExponent_42 : decode cX6_leastExponent 42 = .ok (.iload 7, 2) := by decide +kernel
theorem dX6_leastExponent_44 : decode cX6_leastExponent 44 = .ok (.bipush 31, 2) := by decide +kernel
theorem dX6_leastExponent_46 : decode cX6_leastExponent 46 = .ok (.if_icmp .ge 52, 3) := by decide +kernel
theorem dX6_leastExponent_49 : decode cX6_leastExponent 49 = .ok (.iload 4, 2) := by decide +kernel
theorem dX6_leastExponent_51 : decode cX6_leastExponent 51 = .ok (.iload 6, 2) := by decide +kernel
theorem dX6_leastExponent_53 : decode cX6_leastExponent 53 = .ok (.irem, 1) := by decide +kernel
theorem dX6_leastExponent_54 : decode cX6_leastExponent 54 = .ok (.ifCond .ne 44, 3) := by decide +kernel
theorem dX6_leastExponent_57 : decode cX6_leastExponent 57 = .ok (.iload 4, 2) := by decide +kernel
theorem dX6_leastExponent_59 : decode cX6_leastExponent 59 = .ok (.iload 6, 2) := by decide +kernel
theorem dX6_leastExponent_61 : decode cX6_leastExponent 61 = .ok (.idiv, 1) := by decide +kernel
theorem dX6_leastExponent_62 : decode cX6_leastExponent 62 = .ok (.istore 4, 2) := by decide +kernel
theorem dX6_leastExponent_64 : decode cX6_leastExponent 64 = .ok (.aload_n 0, 1) := by decide +kernel
theorem dX6_leastExponent_65 : decode cX6_leastExponent 65 = .ok (.aload_n 0, 1) := by decide +kernel
theorem dX6_leastExponent_66 : decode cX6_leastExponent 66 = .ok (.getfield 38, 3) := by decide +kernel
theorem dX6_leastExponent_69 : decode cX6_leastExponent 69 = .ok (.aload_n 1, 1) := by decide +kernel
theorem dX6_leastExponent_70 : decode cX6_leastExponent 70 = .ok (.iload_n 3, 1) := by decide +kernel
theorem dX6_leastExponent_71 : decode cX6_leastExponent 71 = .ok (.iload 6, 2) := by decide +kernel
theorem dX6_leastExponent_73 : decode cX6_leastExponent 73 = .ok (.idiv, 1) := by decide +kernel
theorem dX6_leastExponent_74 : decode cX6_leastExponent 74 = .ok (.invokevirtual 132, 3) := by decide +kernel
theorem dX6_leastExponent_77 : decode cX6_leastExponent 77 = .ok (.aload_n 0, 1) := by decide +kernel
theorem dX6_leastExponent_78 : decode cX6_leastExponent 78 = .ok (.getfield 38, 3) := by decide +kernel
theorem dX6_leastExponent_81 : decode cX6_leastExponent 81 = .ok (.invokevirtual 136, 3) := by decide +kernel
theorem dX6_leastExponent_84 : decode cX6_leastExponent 84 = .ok (.ifCond .eq 8, 3) := by decide +kernel
theorem dX6_leastExponent_87 : decode cX6_leastExponent 87 = .ok (.iload_n 3, 1) := by decide +kernel
theorem dX6_leastExponent_88 : decode cX6_leastExponent 88 = .ok (.iload 6, 2) := by decide +kernel
theorem dX6_leastExponent_90 : decode cX6_leastExponent 90 = .ok (.idiv, 1) := by decide +kernel
theorem dX6_leastExponent_91 : decode cX6_leastExponent 91 = .ok (.istore_n 3, 1) := by decide +kernel
theorem dX6_leastExponent_92 : decode cX6_leastExponent 92 = .ok (.iinc 7 1, 3) := by decide +kernel
theorem dX6_leastExponent_95 : decode cX6_leastExponent 95 = .ok (.goto (-53), 3) := by decide +kernel
theorem dX6_leastExponent_98 : decode cX6_leastExponent 98 = .ok (.iinc 5 1, 3) := by decide +kernel
theorem dX6_leastExponent_101 : decode cX6_leastExponent 101 = .ok (.goto (-93), 3) := by decide +kernel
theorem dX6_leastExponent_104 : decode cX6_leastExponent 104 = .ok (.iload_n 3, 1) := by decide +kernel
theorem dX6_leastExponent_105 : decode cX6_leastExponent 105 = .ok (.ireturn, 1) := by decide +kernel
theorem dX7_init_0 : decode cX7_init 0 = .ok (.aload_n 0, 1) := by decide +kernel
theorem dX7_init_1 : decode cX7_init 1 = .ok (.invokespecial 3, 3) := by decide +kernel
theorem dX7_init_4 : decode cX7_init 4 = .ok (.aload_n 0, 1) := by decide +kernel
theorem dX7_init_5 : decode cX7_init 5 = .ok (.new 9, 3) := by decide +kernel
theorem dX7_init_8 : decode cX7_init 8 = .ok (.dup, 1) := by decide +kernel
theorem dX7_init_9 : decode cX7_init 9 = .ok (.invokespecial 11, 3) := by decide +kernel
theorem dX7_init_12 : decode cX7_init 12 = .ok (.putfield 12, 3) := by decide +kernel
theorem dX7_init_15 : decode cX7_init 15 = .ok (.aload_n 0, 1) := by decide +kernel
theorem dX7_init_16 : decode cX7_init 16 = .ok (.bipush 6, 2) := by decide +kernel
theorem dX7_init_18 : decode cX7_init 18 = .ok (.anewarray 9, 3) := by decide +kernel
theorem dX7_init_21 : decode cX7_init 21 = .ok (.putfield 18, 3) := by decide +kernel
theorem dX7_init_24 : decode cX7_init 24 = .ok (.iconst 0, 1) := by decide +kernel
theorem dX7_init_25 : decode cX7_init 25 = .ok (.istore_n 1, 1) := by decide +kernel
theorem dX7_init_26 : decode cX7_init 26 = .ok (.iload_n 1, 1) := by decide +kernel
theorem dX7_init_27 : decode cX7_init 27 = .ok (.bipush 6, 2) := by decide +kernel
theorem dX7_init_29 : decode cX7_init 29 = .ok (.if_icmp .ge 22, 3) := by decide +kernel
theorem dX7_init_32 : decode cX7_init 32 = .ok (.aload_n 0, 1) := by decide +kernel
theorem dX7_init_33 : decode cX7_init 33 = .ok (.getfield 18, 3) := by decide +kernel
theorem dX7_init_36 : decode cX7_init 36 = .ok (.iload_n 1, 1) := by decide +kernel
theorem dX7_init_37 : decode cX7_init 37 = .ok (.new 9, 3) := by decide +kernel
theorem dX7_init_40 : decode cX7_init 40 = .ok (.dup, 1) := by decide +kernel
theorem dX7_init_41 : decode cX7_init 41 = .ok (.invokespecial 11, 3) := by decide +kernel
theorem dX7_init_44 : decode cX7_init 44 = .ok (.aastore, 1) := by decide +kernel
theorem dX7_init_45 : decode cX7_init 45 = .ok (.iinc 1 1, 3) := by decide +kernel
theorem dX7_init_48 : decode cX7_init 48 = .ok (.goto (-22), 3) := by decide +kernel
theorem dX7_init_51 : decode cX7_init 51 = .ok (.aload_n 0, 1) := by decide +kernel
theorem dX7_init_52 : decode cX7_init 52 = .ok (.bipush 6, 2) := by decide +kernel
theorem dX7_init_54 : decode cX7_init 54 = .ok (.anewarray 9, 3) := by decide +kernel
theorem dX7_init_57 : decode cX7_init 57 = .ok (.putfield 22, 3) := by decide +kernel
theorem dX7_init_60 : decode cX7_init 60 = .ok (.iconst 0, 1) := by decide +kernel
theorem dX7_init_61 : decode cX7_init 61 = .ok (.istore_n 1, 1) := by decide +kernel
theorem dX7_init_62 : decode cX7_init 62 = .ok (.iload_n 1, 1) := by decide +kernel
theorem dX7_init_63 : decode cX7_init 63 = .ok (.bipush 6, 2) := by decide +kernel
theorem dX7_init_65 : decode cX7_init 65 = .ok (.if_icmp .ge 22, 3) := by decide +kernel
theorem dX7_init_68 : decode cX7_init 68 = .ok (.aload_n 0, 1) := by decide +kernel
theorem dX7_init_69 : decode cX7_init 69 = .ok (.getfield 22, 3) := by decide +kernel
theorem dX7_init_72 : decode cX7_init 72 = .ok (.iload_n 1, 1) := by decide +kernel
theorem dX7_init_73 : decode cX7_init 73 = .ok (.new 9, 3) := by decide +kernel
theorem dX7_init_76 : decode cX7_init 76 = .ok (.dup, 1) := by decide +kernel
theorem dX7_init_77 : decode cX7_init 77 = .ok (.invokespecial 11, 3) := by decide +kernel
theorem dX7_init_80 : decode cX7_init 80 = .ok (.aastore, 1) := by decide +kernel
theorem dX7_init_81 : decode cX7_init 81 = .ok (.iinc 1 1, 3) := by decide +kernel
theorem dX7_init_84 : decode cX7_init 84 = .ok (.goto (-22), 3) := by decide +kernel
theorem dX7_init_87 : decode cX7_init 87 = .ok (.aload_n 0, 1) := by decide +kernel
theorem dX7_init_88 : decode cX7_init 88 = .ok (.iconst 5, 1) := by decide +kernel
theorem dX7_init_89 : decode cX7_init 89 = .ok (.invokevirtual 25, 3) := by decide +kernel
theorem dX7_init_92 : decode cX7_init 92 = .ok (.return_, 1) := by decide +kernel
theorem dX7_start_0 : decode cX7_start 0 = .ok (.aload_n 0, 1) := by decide +kernel
theorem dX7_start_1 : decode cX7_start 1 = .ok (.iload_n 1, 1) := by decide +kernel
theorem dX7_start_2 : decode cX7_start 2 = .ok (.putfield 29, 3) := by decide +kernel
theorem dX7_start_5 : decode cX7_start 5 = .ok (.aload_n 0, 1) := by decide +kernel
theorem dX7_start_6 : decode cX7_start 6 = .ok (.getfield 12, 3) := by decide +kernel
theorem dX7_start_9 : decode cX7_start 9 = .ok (.invokevirtual 33, 3) := by decide +kernel
theorem dX7_start_12 : decode cX7_start 12 = .ok (.iconst 0, 1) := by decide +kernel
theorem dX7_start_13 : decode cX7_start 13 = .ok (.istore_n 2, 1) := by decide +kernel
theorem dX7_start_14 : decode cX7_start 14 = .ok (.iload_n 2, 1) := by decide +kernel
theorem dX7_start_15 : decode cX7_start 15 = .ok (.bipush 6, 2) := by decide +kernel
theorem dX7_start_17 : decode cX7_start 17 = .ok (.if_icmp .ge 18, 3) := by decide +kernel
theorem dX7_start_20 : decode cX7_start 20 = .ok (.aload_n 0, 1) := by decide +kernel
theorem dX7_start_21 : decode cX7_start 21 = .ok (.getfield 18, 3) := by decide +kernel
theorem dX7_start_24 : decode cX7_start 24 = .ok (.iload_n 2, 1) := by decide +kernel
theorem dX7_start_25 : decode cX7_start 25 = .ok (.aaload, 1) := by decide +kernel
theorem dX7_start_26 : decode cX7_start 26 = .ok (.invokevirtual 36, 3) := by decide +kernel
theorem dX7_start_29 : decode cX7_start 29 = .ok (.iinc 2 1, 3) := by decide +kernel
theorem dX7_start_32 : decode cX7_start 32 = .ok (.goto (-18), 3) := by decide +kernel
theorem dX7_start_35 : decode cX7_start 35 = .ok (.aload_n 0, 1) := by decide +kernel
theorem dX7_start_36 : decode cX7_start 36 = .ok (.invokevirtual 39, 3) := by decide +kernel
theorem dX7_start_39 : decode cX7_start 39 = .ok (.return_, 1) := by decide +kernel
theorem dX7_takeModulus_0 : decode cX7_takeModulus 0 = .ok (.aload_n 0, 1) := by decide +kernel
theorem dX7_takeModulus_1 : decode cX7_takeModulus 1 = .ok (.getfield 12, 3) := by decide +kernel
theorem dX7_takeModulus_4 : decode cX7_takeModulus 4 = .ok (.aload_n 1, 1) := by decide +kernel
theorem dX7_takeModulus_5 : decode cX7_takeModulus 5 = .ok (.invokevirtual 42, 3) := by decide +kernel
theorem dX7_takeModulus_8 : decode cX7_takeModulus 8 = .ok (.aload_n 0, 1) := by decide +kernel
theorem dX7_takeModulus_9 : decode cX7_takeModulus 9 = .ok (.invokevirtual 39, 3) := by decide +kernel
theorem dX7_takeModulus_12 : decode cX7_takeModulus 12 = .ok (.return_, 1) := by decide +kernel
theorem dX7_copy_0 : decode cX7_copy 0 = .ok (.aload_n 0, 1) := by decide +kernel
theorem dX7_copy_1 : decode cX7_copy 1 = .ok (.aload_n 1, 1) := by decide +kernel
theorem dX7_copy_2 : decode cX7_copy 2 = .ok (.getfield 29, 3) := by decide +kernel
theorem dX7_copy_5 : decode cX7_copy 5 = .ok (.putfield 29, 3) := by decide +kernel
theorem dX7_copy_8 : decode cX7_copy 8 = .ok (.aload_n 0, 1) := by decide +kernel
theorem dX7_copy_9 : decode cX7_copy 9 = .ok (.getfield 12, 3) := by decide +kernel
theorem dX7_copy_12 : decode cX7_copy 12 = .ok (.aload_n 1, 1) := by decide +kernel
theorem dX7_copy_13 : decode cX7_copy 13 = .ok (.getfield 12, 3) := by decide +kernel
theorem dX7_copy_16 : decode cX7_copy 16 = .ok (.invokevirtual 42, 3) := by decide +kernel
theorem dX7_copy_19 : decode cX7_copy 19 = .ok (.iconst 0, 1) := by decide +kernel
theorem dX7_copy_20 : decode cX7_copy 20 = .ok (.istore_n 2, 1) := by decide +kernel
theorem dX7_copy_21 : decode cX7_copy 21 = .ok (.iload_n 2, 1) := by decide +kernel
theorem dX7_copy_22 : decode cX7_copy 22 = .ok (.bipush 6, 2) := by decide +kernel
theorem dX7_copy_24 : decode cX7_copy 24 = .ok (.if_icmp .ge 24, 3) := by decide +kernel
theorem dX7_copy_27 : decode cX7_copy 27 = .ok (.aload_n 0, 1) := by decide +kernel
theorem dX7_copy_28 : decode cX7_copy 28 = .ok (.getfield 18, 3) := by decide +kernel
theorem dX7_copy_31 : decode cX7_copy 31 = .ok (.iload_n 2, 1) := by decide +kernel
theorem dX7_copy_32 : decode cX7_copy 32 = .ok (.aaload, 1) := by decide +kernel
theorem dX7_copy_33 : decode cX7_copy 33 = .ok (.aload_n 1, 1) := by decide +kernel
theorem dX7_copy_34 : decode cX7_copy 34 = .ok (.getfield 18, 3) := by decide +kernel
theorem dX7_copy_37 : decode cX7_copy 37 = .ok (.iload_n 2, 1) := by decide +kernel
theorem dX7_copy_38 : decode cX7_copy 38 = .ok (.aaload, 1) := by decide +kernel
theorem dX7_copy_39 : decode cX7_copy 39 = .ok (.invokevirtual 42, 3) := by decide +kernel
theorem dX7_copy_42 : decode cX7_copy 42 = .ok (.iinc 2 1, 3) := by decide +kernel
theorem dX7_copy_45 : decode cX7_copy 45 = .ok (.goto (-24), 3) := by decide +kernel
theorem dX7_copy_48 : decode cX7_copy 48 = .ok (.iconst 0, 1) := by decide +kernel
theorem dX7_copy_49 : decode cX7_copy 49 = .ok (.istore_n 2, 1) := by decide +kernel
theorem dX7_copy_50 : decode cX7_copy 50 = .ok (.iload_n 2, 1) := by decide +kernel
theorem dX7_copy_51 : decode cX7_copy 51 = .ok (.bipush 6, 2) := by decide +kernel
theorem dX7_copy_53 : decode cX7_copy 53 = .ok (.if_icmp .ge 24, 3) := by decide +kernel
theorem dX7_copy_56 : decode cX7_copy 56 = .ok (.aload_n 0, 1) := by decide +kernel
theorem dX7_copy_57 : decode cX7_copy 57 = .ok (.getfield 22, 3) := by decide +kernel
theorem dX7_copy_60 : decode cX7_copy 60 = .ok (.iload_n 2, 1) := by decide +kernel
theorem dX7_copy_61 : decode cX7_copy 61 = .ok (.aaload, 1) := by decide +kernel
theorem dX7_copy_62 : decode cX7_copy 62 = .ok (.aload_n 1, 1) := by decide +kernel
theorem dX7_copy_63 : decode cX7_copy 63 = .ok (.getfield 22, 3) := by decide +kernel
theorem dX7_copy_66 : decode cX7_copy 66 = .ok (.iload_n 2, 1) := by decide +kernel
theorem dX7_copy_67 : decode cX7_copy 67 = .ok (.aaload, 1) := by decide +kernel
theorem dX7_copy_68 : decode cX7_copy 68 = .ok (.invokevirtual 42, 3) := by decide +kernel
theorem dX7_copy_71 : decode cX7_copy 71 = .ok (.iinc 2 1, 3) := by decide +kernel
theorem dX7_copy_74 : decode cX7_copy 74 = .ok (.goto (-24), 3) := by decide +kernel
theorem dX7_copy_77 : decode cX7_copy 77 = .ok (.aload_n 0, 1) := by decide +kernel
theorem dX7_copy_78 : decode cX7_copy 78 = .ok (.aload_n 1, 1) := by decide +kernel
theorem dX7_copy_79 : decode cX7_copy 79 = .ok (.getfield 46, 3) := by decide +kernel
theorem dX7_copy_82 : decode cX7_copy 82 = .ok (.putfield 46, 3) := by decide +kernel
theorem dX7_copy_85 : decode cX7_copy 85 = .ok (.return_, 1) := by decide +kernel
theorem dX7_reduced_0 : decode cX7_reduced 0 = .ok (.aload_n 0, 1) := by decide +kernel
theorem dX7_reduced_1 : decode cX7_reduced 1 = .ok (.getfield 29, 3) := by decide +kernel
theorem dX7_reduced_4 : decode cX7_reduced 4 = .ok (.iconst 2, 1) := by decide +kernel
theorem dX7_reduced_5 : decode cX7_reduced 5 = .ok (.if_icmp .ge 5, 3) := by decide +kernel
theorem dX7_reduced_8 : decode cX7_reduced 8 = .ok (.iconst 0, 1) := by decide +kernel
theorem dX7_reduced_9 : decode cX7_reduced 9 = .ok (.ireturn, 1) := by decide +kernel
theorem dX7_reduced_10 : decode cX7_reduced 10 = .ok (.iload_n 1, 1) := by decide +kernel
theorem dX7_reduced_11 : decode cX7_reduced 11 = .ok (.aload_n 0, 1) := by decide +kernel
theorem dX7_reduced_12 : decode cX7_reduced 12 = .ok (.getfield 29, 3) := by decide +kernel
theorem dX7_reduced_15 : decode cX7_reduced 15 = .ok (.irem, 1) := by decide +kernel
theorem dX7_reduced_16 : decode cX7_reduced 16 = .ok (.istore_n 2, 1) := by decide +kernel
theorem dX7_reduced_17 : decode cX7_reduced 17 = .ok (.iload_n 2, 1) := by decide +kernel
theorem dX7_reduced_18 : decode cX7_reduced 18 = .ok (.ifCond .ge 12, 3) := by decide +kernel
theorem dX7_reduced_21 : decode cX7_reduced 21 = .ok (.iload_n 2, 1) := by decide +kernel
theorem dX7_reduced_22 : decode cX7_reduced 22 = .ok (.aload_n 0, 1) := by decide +kernel
theorem dX7_reduced_23 : decode cX7_reduced 23 = .ok (.getfield 29, 3) := by decide +kernel
theorem dX7_reduced_26 : decode cX7_reduced 26 = .ok (.iadd, 1) := by decide +kernel
theorem dX7_reduced_27 : decode cX7_reduced 27 = .ok (.goto 4, 3) := by decide +kernel
theorem dX7_reduced_30 : decode cX7_reduced 30 = .ok (.iload_n 2, 1) := by decide +kernel
theorem dX7_reduced_31 : decode cX7_reduced 31 = .ok (.ireturn, 1) := by decide +kernel
theorem dX7_addBranch_0 : decode cX7_addBranch 0 = .ok (.aload_n 0, 1) := by decide +kernel
theorem dX7_addBranch_1 : decode cX7_addBranch 1 = .ok (.getfield 46, 3) := by decide +kernel
theorem dX7_addBranch_4 : decode cX7_addBranch 4 = .ok (.bipush 6, 2) := by decide +kernel
theorem dX7_addBranch_6 : decode cX7_addBranch 6 = .ok (.if_icmp .ge 26, 3) := by decide +kernel
theorem dX7_addBranch_9 : decode cX7_addBranch 9 = .ok (.aload_n 0, 1) := by decide +kernel
theorem dX7_addBranch_10 : decode cX7_addBranch 10 = .ok (.getfield 22, 3) := by decide +kernel
theorem dX7_addBranch_13 : decode cX7_addBranch 13 = .ok (.aload_n 0, 1) := by decide +kernel
theorem dX7_addBranch_14 : decode cX7_addBranch 14 = .ok (.getfield 46, 3) := by decide +kernel
theorem dX7_addBranch_17 : decode cX7_addBranch 17 = .ok (.aaload, 1) := by decide +kernel
theorem dX7_addBranch_18 : decode cX7_addBranch 18 = .ok (.aload_n 1, 1) := by decide +kernel
theorem dX7_addBranch_19 : decode cX7_addBranch 19 = .ok (.invokevirtual 42, 3) := by decide +kernel
theorem dX7_addBranch_22 : decode cX7_addBranch 22 = .ok (.aload_n 0, 1) := by decide +kernel
theorem dX7_addBranch_23 : decode cX7_addBranch 23 = .ok (.dup, 1) := by decide +kernel
theorem dX7_addBranch_24 : decode cX7_addBranch 24 = .ok (.getfield 46, 3) := by decide +kernel
theorem dX7_addBranch_27 : decode cX7_addBranch 27 = .ok (.iconst 1, 1) := by decide +kernel
theorem dX7_addBranch_28 : decode cX7_addBranch 28 = .ok (.iadd, 1) := by decide +kernel
theorem dX7_addBranch_29 : decode cX7_addBranch 29 = .ok (.putfield 46, 3) := by decide +kernel
theorem dX7_addBranch_32 : decode cX7_addBranch 32 = .ok (.return_, 1) := by decide +kernel
theorem dX7_sortBranches_0 : decode cX7_sortBranches 0 = .ok (.aload_n 0, 1) := by decide +kernel
theorem dX7_sortBranches_1 : decode cX7_sortBranches 1 = .ok (.getfield 46, 3) := by decide +kernel
theorem dX7_sortBranches_4 : decode cX7_sortBranches 4 = .ok (.iconst 1, 1) := by decide +kernel
theorem dX7_sortBranches_5 : decode cX7_sortBranches 5 = .ok (.isub, 1) := by decide +kernel
theorem dX7_sortBranches_6 : decode cX7_sortBranches 6 = .ok (.istore_n 1, 1) := by decide +kernel
theorem dX7_sortBranches_7 : decode cX7_sortBranches 7 = .ok (.iload_n 1, 1) := by decide +kernel
theorem dX7_sortBranches_8 : decode cX7_sortBranches 8 = .ok (.ifCond .le 65, 3) := by decide +kernel
theorem dX7_sortBranches_11 : decode cX7_sortBranches 11 = .ok (.iconst 0, 1) := by decide +kernel
theorem dX7_sortBranches_12 : decode cX7_sortBranches 12 = .ok (.istore_n 2, 1) := by decide +kernel
theorem dX7_sortBranches_13 : decode cX7_sortBranches 13 = .ok (.iload_n 2, 1) := by decide +kernel
theorem dX7_sortBranches_14 : decode cX7_sortBranches 14 = .ok (.iload_n 1, 1) := by decide +kernel
theorem dX7_sortBranches_15 : decode cX7_sortBranches 15 = .ok (.if_icmp .ge 52, 3) := by decide +kernel
theorem dX7_sortBranches_18 : decode cX7_sortBranches 18 = .ok (.aload_n 0, 1) := by decide +kernel
theorem dX7_sortBranches_19 : decode cX7_sortBranches 19 = .ok (.getfield 22, 3) := by decide +kernel
theorem dX7_sortBranches_22 : decode cX7_sortBranches 22 = .ok (.iload_n 2, 1) := by decide +kernel
theorem dX7_sortBranches_23 : decode cX7_sortBranches 23 = .ok (.aaload, 1) := by decide +kernel
theorem dX7_sortBranches_24 : decode cX7_sortBranches 24 = .ok (.astore_n 3, 1) := by decide +kernel
theorem dX7_sortBranches_25 : decode cX7_sortBranches 25 = .ok (.aload_n 0, 1) := by decide +kernel
theorem dX7_sortBranches_26 : decode cX7_sortBranches 26 = .ok (.getfield 22, 3) := by decide +kernel
theorem dX7_sortBranches_29 : decode cX7_sortBranches 29 = .ok (.iload_n 2, 1) := by decide +kernel
theorem dX7_sortBranches_30 : decode cX7_sortBranches 30 = .ok (.iconst 1, 1) := by decide +kernel
theorem dX7_sortBranches_31 : decode cX7_sortBranches 31 = .ok (.iadd, 1) := by decide +kernel
theorem dX7_sortBranches_32 : decode cX7_sortBranches 32 = .ok (.aaload, 1) := by decide +kernel
theorem dX7_sortBranches_33 : decode cX7_sortBranches 33 = .ok (.astore 4, 2) := by decide +kernel
theorem dX7_sortBranches_35 : decode cX7_sortBranches 35 = .ok (.aload 4, 2) := by decide +kernel
theorem dX7_sortBranches_37 : decode cX7_sortBranches 37 = .ok (.aload_n 3, 1) := by decide +kernel
theorem dX7_sortBranches_38 : decode cX7_sortBranches 38 = .ok (.invokevirtual 49, 3) := by decide +kernel
theorem dX7_sortBranches_41 : decode cX7_sortBranches 41 = .ok (.ifCond .eq 20, 3) := by decide +kernel
theorem dX7_sortBranches_44 : decode cX7_sortBranches 44 = .ok (.aload_n 0, 1) := by decide +kernel
theorem dX7_sortBranches_45 : decode cX7_sortBranches 45 = .ok (.getfield 22, 3) := by decide +kernel
theorem dX7_sortBranches_48 : decode cX7_sortBranches 48 = .ok (.iload_n 2, 1) := by decide +kernel
theorem dX7_sortBranches_49 : decode cX7_sortBranches 49 = .ok (.aload 4, 2) := by decide +kernel
theorem dX7_sortBranches_51 : decode cX7_sortBranches 51 = .ok (.aastore, 1) := by decide +kernel
theorem dX7_sortBranches_52 : decode cX7_sortBranches 52 = .ok (.aload_n 0, 1) := by decide +kernel
theorem dX7_sortBranches_53 : decode cX7_sortBranches 53 = .ok (.getfield 22, 3) := by decide +kernel
theorem dX7_sortBranches_56 : decode cX7_sortBranches 56 = .ok (.iload_n 2, 1) := by decide +kernel
theorem dX7_sortBranches_57 : decode cX7_sortBranches 57 = .ok (.iconst 1, 1) := by decide +kernel
theorem dX7_sortBranches_58 : decode cX7_sortBranches 58 = .ok (.iadd, 1) := by decide +kernel
theorem dX7_sortBranches_59 : decode cX7_sortBranches 59 = .ok (.aload_n 3, 1) := by decide +kernel
theorem dX7_sortBranches_60 : decode cX7_sortBranches 60 = .ok (.aastore, 1) := by decide +kernel
theorem dX7_sortBranches_61 : decode cX7_sortBranches 61 = .ok (.iinc 2 1, 3) := by decide +kernel
theorem dX7_sortBranches_64 : decode cX7_sortBranches 64 = .ok (.goto (-51), 3) := by decide +kernel
theorem dX7_sortBranches_67 : decode cX7_sortBranches 67 = .ok (.iinc 1 (-1), 3) := by decide +kernel
theorem dX7_sortBranches_70 : decode cX7_sortBranches 70 = .ok (.goto (-63), 3) := by decide +kernel
theorem dX7_sortBranches_73 : decode cX7_sortBranches 73 = .ok (.return_, 1) := by decide +kernel
theorem dX7_greatestBranchDegree_0 : decode cX7_greatestBranchDegree 0 = .ok (.iconst 0, 1) := by decide +kernel
theorem dX7_greatestBranchDegree_1 : decode cX7_greatestBranchDegree 1 = .ok (.istore_n 1, 1) := by decide +kernel
theorem dX7_greatestBranchDegree_2 : decode cX7_greatestBranchDegree 2 = .ok (.iconst 0, 1) := by decide +kernel
theorem dX7_greatestBranchDegree_3 : decode cX7_greatestBranchDegree 3 = .ok (.istore_n 2, 1) := by decide +kernel
theorem dX7_greatestBranchDegree_4 : decode cX7_greatestBranchDegree 4 = .ok (.iload_n 2, 1) := by decide +kernel
theorem dX7_greatestBranchDegree_5 : decode cX7_greatestBranchDegree 5 = .ok (.aload_n 0, 1) := by decide +kernel
theorem dX7_greatestBranchDegree_6 : decode cX7_greatestBranchDegree 6 = .ok (.getfield 46, 3) := by decide +kernel
theorem dX7_greatestBranchDegree_9 : decode cX7_greatestBranchDegree 9 = .ok (.if_icmp .ge 23, 3) := by decide +kernel
theorem dX7_greatestBranchDegree_12 : decode cX7_greatestBranchDegree 12 = .ok (.iload_n 1, 1) := by decide +kernel
theorem dX7_greatestBranchDegree_13 : decode cX7_greatestBranchDegree 13 = .ok (.aload_n 0, 1) := by decide +kernel
theorem dX7_greatestBranchDegree_14 : decode cX7_greatestBranchDegree 14 = .ok (.getfield 22, 3) := by decide +kernel
theorem dX7_greatestBranchDegree_17 : decode cX7_greatestBranchDegree 17 = .ok (.iload_n 2, 1) := by decide +kernel
theorem dX7_greatestBranchDegree_18 : decode cX7_greatestBranchDegree 18 = .ok (.aaload, 1) := by decide +kernel
theorem dX7_greatestBranchDegree_19 : decode cX7_greatestBranchDegree 19 = .ok (.getfield 53, 3) := by decide +kernel
theorem dX7_greatestBranchDegree_22 : decode cX7_greatestBranchDegree 22 = .ok (.invokestatic 56, 3) := by decide +kernel
theorem dX7_greatestBranchDegree_25 : decode cX7_greatestBranchDegree 25 = .ok (.istore_n 1, 1) := by decide +kernel
theorem dX7_greatestBranchDegree_26 : decode cX7_greatestBranchDegree 26 = .ok (.iinc 2 1, 3) := by decide +kernel
theorem dX7_greatestBranchDegree_29 : decode cX7_greatestBranchDegree 29 = .ok (.goto (-25), 3) := by decide +kernel
theorem dX7_greatestBranchDegree_32 : decode cX7_greatestBranchDegree 32 = .ok (.iload_n 1, 1) := by decide +kernel
theorem dX7_greatestBranchDegree_33 : decode cX7_greatestBranchDegree 33 = .ok (.ireturn, 1) := by decide +kernel
theorem dX7_emptyRegisters_0 : decode cX7_emptyRegisters 0 = .ok (.iconst 0, 1) := by decide +kernel
theorem dX7_emptyRegisters_1 : decode cX7_emptyRegisters 1 = .ok (.istore_n 1, 1) := by decide +kernel
theorem dX7_emptyRegisters_2 : decode cX7_emptyRegisters 2 = .ok (.iconst 0, 1) := by decide +kernel
theorem dX7_emptyRegisters_3 : decode cX7_emptyRegisters 3 = .ok (.istore_n 2, 1) := by decide +kernel
theorem dX7_emptyRegisters_4 : decode cX7_emptyRegisters 4 = .ok (.iload_n 2, 1) := by decide +kernel
theorem dX7_emptyRegisters_5 : decode cX7_emptyRegisters 5 = .ok (.bipush 6, 2) := by decide +kernel
theorem dX7_emptyRegisters_7 : decode cX7_emptyRegisters 7 = .ok (.if_icmp .ge 24, 3) := by decide +kernel
theorem dX7_emptyRegisters_10 : decode cX7_emptyRegisters 10 = .ok (.aload_n 0, 1) := by decide +kernel
theorem dX7_emptyRegisters_11 : decode cX7_emptyRegisters 11 = .ok (.getfield 18, 3) := by decide +kernel
theorem dX7_emptyRegisters_14 : decode cX7_emptyRegisters 14 = .ok (.iload_n 2, 1) := by decide +kernel
theorem dX7_emptyRegisters_15 : decode cX7_emptyRegisters 15 = .ok (.aaload, 1) := by decide +kernel
theorem dX7_emptyRegisters_16 : decode cX7_emptyRegisters 16 = .ok (.getfield 53, 3) := by decide +kernel
theorem dX7_emptyRegisters_19 : decode cX7_emptyRegisters 19 = .ok (.ifCond .ge 6, 3) := by decide +kernel
theorem dX7_emptyRegisters_22 : decode cX7_emptyRegisters 22 = .ok (.iinc 1 1, 3) := by decide +kernel
theorem dX7_emptyRegisters_25 : decode cX7_emptyRegisters 25 = .ok (.iinc 2 1, 3) := by decide +kernel
theorem dX7_emptyRegisters_28 : decode cX7_emptyRegisters 28 = .ok (.goto (-24), 3) := by decide +kernel
theorem dX7_emptyRegisters_31 : decode cX7_emptyRegisters 31 = .ok (.iload_n 1, 1) := by decide +kernel
theorem dX7_emptyRegisters_32 : decode cX7_emptyRegisters 32 = .ok (.ireturn, 1) := by decide +kernel
theorem dX7_becomeOneBranch_0 : decode cX7_becomeOneBranch 0 = .ok (.aload_n 0, 1) := by decide +kernel
theorem dX7_becomeOneBranch_1 : decode cX7_becomeOneBranch 1 = .ok (.iconst 0, 1) := by decide +kernel
theorem dX7_becomeOneBranch_2 : decode cX7_becomeOneBranch 2 = .ok (.putfield 46, 3) := by decide +kernel
theorem dX7_becomeOneBranch_5 : decode cX7_becomeOneBranch 5 = .ok (.aload_n 0, 1) := by decide +kernel
theorem dX7_becomeOneBranch_6 : decode cX7_becomeOneBranch 6 = .ok (.aload_n 0, 1) := by decide +kernel
theorem dX7_becomeOneBranch_7 : decode cX7_becomeOneBranch 7 = .ok (.getfield 12, 3) := by decide +kernel
theorem dX7_becomeOneBranch_10 : decode cX7_becomeOneBranch 10 = .ok (.invokevirtual 62, 3) := by decide +kernel
theorem dX7_becomeOneBranch_13 : decode cX7_becomeOneBranch 13 = .ok (.return_, 1) := by decide +kernel
theorem dX8_init_0 : decode cX8_init 0 = .ok (.aload_n 0, 1) := by decide +kernel
theorem dX8_init_1 : decode cX8_init 1 = .ok (.invokespecial 3, 3) := by decide +kernel
theorem dX8_init_4 : decode cX8_init 4 = .ok (.aload_n 0, 1) := by decide +kernel
theorem dX8_init_5 : decode cX8_init 5 = .ok (.bipush 60, 2) := by decide +kernel
theorem dX8_init_7 : decode cX8_init 7 = .ok (.newarray .int, 2) := by decide +kernel
theorem dX8_init_9 : decode cX8_init 9 = .ok (.putfield 11, 3) := by decide +kernel
theorem dX8_init_12 : decode cX8_init 12 = .ok (.aload_n 0, 1) := by decide +kernel
theorem dX8_init_13 : decode cX8_init 13 = .ok (.iconst 0, 1) := by decide +kernel
theorem dX8_init_14 : decode cX8_init 14 = .ok (.putfield 15, 3) := by decide +kernel
theorem dX8_init_17 : decode cX8_init 17 = .ok (.aload_n 0, 1) := by decide +kernel
theorem dX8_init_18 : decode cX8_init 18 = .ok (.bipush 7, 2) := by decide +kernel
theorem dX8_init_20 : decode cX8_init 20 = .ok (.newarray .int, 2) := by decide +kernel
theorem dX8_init_22 : decode cX8_init 22 = .ok (.putfield 19, 3) := by decide +kernel
theorem dX8_init_25 : decode cX8_init 25 = .ok (.aload_n 0, 1) := by decide +kernel
theorem dX8_init_26 : decode cX8_init 26 = .ok (.iconst 0, 1) := by decide +kernel
theorem dX8_init_27 : decode cX8_init 27 = .ok (.putfield 22, 3) := by decide +kernel
theorem dX8_init_30 : decode cX8_init 30 = .ok (.return_, 1) := by decide +kernel
theorem dX8_add_0 : decode cX8_add 0 = .ok (.aload_n 0, 1) := by decide +kernel
theorem dX8_add_1 : decode cX8_add 1 = .ok (.getfield 15, 3) := by decide +kernel
theorem dX8_add_4 : decode cX8_add 4 = .ok (.bipush 60, 2) := by decide +kernel
theorem dX8_add_6 : decode cX8_add 6 = .ok (.if_icmp .lt 5, 3) := by decide +kernel
theorem dX8_add_9 : decode cX8_add 9 = .ok (.iconst 0, 1) := by decide +kernel
theorem dX8_add_10 : decode cX8_add 10 = .ok (.ireturn, 1) := by decide +kernel
theorem dX8_add_11 : decode cX8_add 11 = .ok (.aload_n 0, 1) := by decide +kernel
theorem dX8_add_12 : decode cX8_add 12 = .ok (.getfield 11, 3) := by decide +kernel
theorem dX8_add_15 : decode cX8_add 15 = .ok (.aload_n 0, 1) := by decide +kernel
theorem dX8_add_16 : decode cX8_add 16 = .ok (.getfield 15, 3) := by decide +kernel
theorem dX8_add_19 : decode cX8_add 19 = .ok (.iload_n 1, 1) := by decide +kernel
theorem dX8_add_20 : decode cX8_add 20 = .ok (.iastore, 1) := by decide +kernel
theorem dX8_add_21 : decode cX8_add 21 = .ok (.aload_n 0, 1) := by decide +kernel
theorem dX8_add_22 : decode cX8_add 22 = .ok (.dup, 1) := by decide +kernel
theorem dX8_add_23 : decode cX8_add 23 = .ok (.getfield 15, 3) := by decide +kernel
theorem dX8_add_26 : decode cX8_add 26 = .ok (.iconst 1, 1) := by decide +kernel
theorem dX8_add_27 : decode cX8_add 27 = .ok (.iadd, 1) := by decide +kernel
theorem dX8_add_28 : decode cX8_add 28 = .ok (.putfield 15, 3) := by decide +kernel
theorem dX8_add_31 : decode cX8_add 31 = .ok (.iconst 1, 1) := by decide +kernel
theorem dX8_add_32 : decode cX8_add 32 = .ok (.ireturn, 1) := by decide +kernel
theorem dX8_at_0 : decode cX8_at 0 = .ok (.iload_n 1, 1) := by decide +kernel
theorem dX8_at_1 : decode cX8_at 1 = .ok (.ifCond .lt 20, 3) := by decide +kernel
theorem dX8_at_4 : decode cX8_at 4 = .ok (.iload_n 1, 1) := by decide +kernel
theorem dX8_at_5 : decode cX8_at 5 = .ok (.aload_n 0, 1) := by decide +kernel
theorem dX8_at_6 : decode cX8_at 6 = .ok (.getfield 15, 3) := by decide +kernel
theorem dX8_at_9 : decode cX8_at 9 = .ok (.if_icmp .ge 12, 3) := by decide +kernel
theorem dX8_at_12 : decode cX8_at 12 = .ok (.aload_n 0, 1) := by decide +kernel
theorem dX8_at_13 : decode cX8_at 13 = .ok (.getfield 11, 3) := by decide +kernel
theorem dX8_at_16 : decode cX8_at 16 = .ok (.iload_n 1, 1) := by decide +kernel
theorem dX8_at_17 : decode cX8_at 17 = .ok (.iaload, 1) := by decide +kernel
theorem dX8_at_18 : decode cX8_at 18 = .ok (.goto 4, 3) := by decide +kernel
theorem dX8_at_21 : decode cX8_at 21 = .ok (.iconst 0, 1) := by decide +kernel
theorem dX8_at_22 : decode cX8_at 22 = .ok (.ireturn, 1) := by decide +kernel
theorem dX8_isDigit_0 : decode cX8_isDigit 0 = .ok (.iload_n 0, 1) := by decide +kernel
theorem dX8_isDigit_1 : decode cX8_isDigit 1 = .ok (.bipush 48, 2) := by decide +kernel
theorem dX8_isDigit_3 : decode cX8_isDigit 3 = .ok (.if_icmp .lt 13, 3) := by decide +kernel
theorem dX8_isDigit_6 : decode cX8_isDigit 6 = .ok (.iload_n 0, 1) := by decide +kernel
theorem dX8_isDigit_7 : decode cX8_isDigit 7 = .ok (.bipush 57, 2) := by decide +kernel
theorem dX8_isDigit_9 : decode cX8_isDigit 9 = .ok (.if_icmp .gt 7, 3) := by decide +kernel
theorem dX8_isDigit_12 : decode cX8_isDigit 12 = .ok (.iconst 1, 1) := by decide +kernel
theorem dX8_isDigit_13 : decode cX8_isDigit 13 = .ok (.goto 4, 3) := by decide +kernel
theorem dX8_isDigit_16 : decode cX8_isDigit 16 = .ok (.iconst 0, 1) := by decide +kernel
theorem dX8_isDigit_17 : decode cX8_isDigit 17 = .ok (.ireturn, 1) := by decide +kernel
theorem dX8_isRegisterLetter_0 : decode cX8_isRegisterLetter 0 = .ok (.iload_n 0, 1) := by decide +kernel
theorem dX8_isRegisterLetter_1 : decode cX8_isRegisterLetter 1 = .ok (.bipush 97, 2) := by decide +kernel
theorem dX8_isRegisterLetter_3 : decode cX8_isRegisterLetter 3 = .ok (.if_icmp .lt 13, 3) := by decide +kernel
theorem dX8_isRegisterLetter_6 : decode cX8_isRegisterLetter 6 = .ok (.iload_n 0, 1) := by decide +kernel
theorem dX8_isRegisterLetter_7 : decode cX8_isRegisterLetter 7 = .ok (.bipush 102, 2) := by decide +kernel
theorem dX8_isRegisterLetter_9 : decode cX8_isRegisterLetter 9 = .ok (.if_icmp .gt 7, 3) := by decide +kernel
theorem dX8_isRegisterLetter_12 : decode cX8_isRegisterLetter 12 = .ok (.iconst 1, 1) := by decide +kernel
theorem dX8_isRegisterLetter_13 : decode cX8_isRegisterLetter 13 = .ok (.goto 4, 3) := by decide +kernel
theorem dX8_isRegisterLetter_16 : decode cX8_isRegisterLetter 16 = .ok (.iconst 0, 1) := by decide +kernel
theorem dX8_isRegisterLetter_17 : decode cX8_isRegisterLetter 17 = .ok (.ireturn, 1) := by decide +kernel
theorem dX8_polynomialFault_0 : decode cX8_polynomialFault 0 = .ok (.aload_n 0, 1) := by decide +kernel
theorem dX8_polynomialFault_1 : decode cX8_polynomialFault 1 = .ok (.iconst 0, 1) := by decide +kernel
theorem dX8_polynomialFault_2 : decode cX8_polynomialFault 2 = .ok (.putfield 22, 3) := by decide +kernel
theorem dX8_polynomialFault_5 : decode cX8_polynomialFault 5 = .ok (.iconst (-1), 1) := by decide +kernel
theorem dX8_polynomialFault_6 : decode cX8_polynomialFault 6 = .ok (.istore_n 1, 1) := by decide +kernel
theorem dX8_polynomialFault_7 : decode cX8_polynomialFault 7 = .ok (.iconst 0, 1) := by decide +kernel
theorem dX8_polynomialFault_8 : decode cX8_polynomialFault 8 = .ok (.istore_n 2, 1) := by decide +kernel
theorem dX8_polynomialFault_9 : decode cX8_polynomialFault 9 = .ok (.iload_n 2, 1) := by decide +kernel
theorem dX8_polynomialFault_10 : decode cX8_polynomialFault 10 = .ok (.aload_n 0, 1) := by decide +kernel
theorem dX8_polynomialFault_11 : decode cX8_polynomialFault 11 = .ok (.getfield 15, 3) := by decide +kernel
theorem dX8_polynomialFault_14 : decode cX8_polynomialFault 14 = .ok (.if_icmp .ge 88, 3) := by decide +kernel
theorem dX8_polynomialFault_17 : decode cX8_polynomialFault 17 = .ok (.aload_n 0, 1) := by decide +kernel
theorem dX8_polynomialFault_18 : decode cX8_polynomialFault 18 = .ok (.getfield 11, 3) := by decide +kernel
theorem dX8_polynomialFault_21 : decode cX8_polynomialFault 21 = .ok (.iload_n 2, 1) := by decide +kernel
theorem dX8_polynomialFault_22 : decode cX8_polynomialFault 22 = .ok (.iaload, 1) := by decide +kernel
theorem dX8_polynomialFault_23 : decode cX8_polynomialFault 23 = .ok (.istore_n 3, 1) := by decide +kernel
theorem dX8_polynomialFault_24 : decode cX8_polynomialFault 24 = .ok (.iload_n 3, 1) := by decide +kernel
theorem dX8_polynomialFault_25 : decode cX8_polynomialFault 25 = .ok (.invokestatic 25, 3) := by decide +kernel
theorem dX8_polynomialFault_28 : decode cX8_polynomialFault 28 = .ok (.ifCond .eq 37, 3) := by decide +kernel
theorem dX8_polynomialFault_31 : decode cX8_polynomialFault 31 = .ok (.iload_n 1, 1) := by decide +kernel
theorem dX8_polynomialFault_32 : decode cX8_polynomialFault 32 = .ok (.iconst 0, 1) := by decide +kernel
theorem dX8_polynomialFault_33 : decode cX8_polynomialFault 33 = .ok (.invokestatic 29, 3) := by decide +kernel
theorem dX8_polynomialFault_36 : decode cX8_polynomialFault 36 = .ok (.bipush 10, 2) := by decide +kernel
theorem dX8_polynomialFault_38 : decode cX8_polynomialFault 38 = .ok (.imul, 1) := by decide +kernel
theorem dX8_polynomialFault_39 : decode cX8_polynomialFault 39 = .ok (.iload_n 3, 1) := by decide +kernel
theorem dX8_polynomialFault_40 : decode cX8_polynomialFault 40 = .ok (.iadd, 1) := by decide +kernel
theorem dX8_polynomialFault_41 : decode cX8_polynomialFault 41 = .ok (.bipush 48, 2) := by decide +kernel
theorem dX8_polynomialFault_43 : decode cX8_polynomialFault 43 = .ok (.isub, 1) := by decide +kernel
theorem dX8_polynomialFault_44 : decode cX8_polynomialFault 44 = .ok (.istore 4, 2) := by decide +kernel
theorem dX8_polynomialFault_46 : decode cX8_polynomialFault 46 = .ok (.iload_n 1, 1) := by decide +kernel
theorem dX8_polynomialFault_47 : decode cX8_polynomialFault 47 = .ok (.ifCond .eq 10, 3) := by decide +kernel
theorem dX8_polynomialFault_50 : decode cX8_polynomialFault 50 = .ok (.iload 4, 2) := by decide +kernel
theorem dX8_polynomialFault_52 : decode cX8_polynomialFault 52 = .ok (.bipush 12, 2) := by decide +kernel
theorem dX8_polynomialFault_54 : decode cX8_polynomialFault 54 = .ok (.if_icmp .le 5, 3) := by decide +kernel
theorem dX8_polynomialFault_57 : decode cX8_polynomialFault 57 = .ok (.iload_n 2, 1) := by decide +kernel
theorem dX8_polynomialFault_58 : decode cX8_polynomialFault 58 = .ok (.ireturn, 1) := by decide +kernel
theorem dX8_polynomialFault_59 : decode cX8_polynomialFault 59 = .ok (.iload 4, 2) := by decide +kernel
theorem dX8_polynomialFault_61 : decode cX8_polynomialFault 61 = .ok (.istore_n 1, 1) := by decide +kernel
theorem dX8_polynomialFault_62 : decode cX8_polynomialFault 62 = .ok (.goto 34, 3) := by decide +kernel
theorem dX8_polynomialFault_65 : decode cX8_polynomialFault 65 = .ok (.iload_n 3, 1) := by decide +kernel
theorem dX8_polynomialFault_66 : decode cX8_polynomialFault 66 = .ok (.bipush 44, 2) := by decide +kernel
theorem dX8_polynomialFault_68 : decode cX8_polynomialFault 68 = .ok (.if_icmp .ne 26, 3) := by decide +kernel
theorem dX8_polynomialFault_71 : decode cX8_polynomialFault 71 = .ok (.iload_n 1, 1) := by decide +kernel
theorem dX8_polynomialFault_72 : decode cX8_polynomialFault 72 = .ok (.ifCond .lt 22, 3) := by decide +kernel
theorem dX8_polynomialFault_75 : decode cX8_polynomialFault 75 = .ok (.aload_n 0, 1) := by decide +kernel
theorem dX8_polynomialFault_76 : decode cX8_polynomialFault 76 = .ok (.getfield 22, 3) := by decide +kernel
theorem dX8_polynomialFault_79 : decode cX8_polynomialFault 79 = .ok (.bipush 6, 2) := by decide +kernel
theorem dX8_polynomialFault_81 : decode cX8_polynomialFault 81 = .ok (.if_icmp .ge 13, 3) := by decide +kernel
theorem dX8_polynomialFault_84 : decode cX8_polynomialFault 84 = .ok (.aload_n 0, 1) := by decide +kernel
theorem dX8_polynomialFault_85 : decode cX8_polynomialFault 85 = .ok (.iload_n 1, 1) := by decide +kernel
theorem dX8_polynomialFault_86 : decode cX8_polynomialFault 86 = .ok (.invokevirtual 35, 3) := by decide +kernel
theorem dX8_polynomialFault_89 : decode cX8_polynomialFault 89 = .ok (.iconst (-1), 1) := by decide +kernel
theorem dX8_polynomialFault_90 : decode cX8_polynomialFault 90 = .ok (.istore_n 1, 1) := by decide +kernel
theorem dX8_polynomialFault_91 : decode cX8_polynomialFault 91 = .ok (.goto 5, 3) := by decide +kernel
theorem dX8_polynomialFault_94 : decode cX8_polynomialFault 94 = .ok (.iload_n 2, 1) := by decide +kernel
theorem dX8_polynomialFault_95 : decode cX8_polynomialFault 95 = .ok (.ireturn, 1) := by decide +kernel
theorem dX8_polynomialFault_96 : decode cX8_polynomialFault 96 = .ok (.iinc 2 1, 3) := by decide +kernel
theorem dX8_polynomialFault_99 : decode cX8_polynomialFault 99 = .ok (.goto (-90), 3) := by decide +kernel
theorem dX8_polynomialFault_102 : decode cX8_polynomialFault 102 = .ok (.iload_n 1, 1) := by decide +kernel
theorem dX8_polynomialFault_103 : decode cX8_polynomialFault 103 = .ok (.ifCond .ge 8, 3) := by decide +kernel
theorem dX8_polynomialFault_106 : decode cX8_polynomialFault 106 = .ok (.aload_n 0, 1) := by decide +kernel
theorem dX8_polynomialFault_107 : decode cX8_polynomialFault 107 = .ok (.getfield 15, 3) := by decide +kernel
theorem dX8_polynomialFault_110 : decode cX8_polynomialFault 110 = .ok (.ireturn, 1) := by decide +kernel
theorem dX8_polynomialFault_111 : decode cX8_polynomialFault 111 = .ok (.aload_n 0, 1) := by decide +kernel
theorem dX8_polynomialFault_112 : decode cX8_polynomialFault 112 = .ok (.iload_n 1, 1) := by decide +kernel
theorem dX8_polynomialFault_113 : decode cX8_polynomialFault 113 = .ok (.invokevirtual 35, 3) := by decide +kernel
theorem dX8_polynomialFault_116 : decode cX8_polynomialFault 116 = .ok (.iconst (-1), 1) := by decide +kernel
theorem dX8_polynomialFault_117 : decode cX8_polynomialFault 117 = .ok (.ireturn, 1) := by decide +kernel
theorem dX8_copyPolynomial_0 : decode cX8_copyPolynomial 0 = .ok (.aload_n 1, 1) := by decide +kernel
theorem dX8_copyPolynomial_1 : decode cX8_copyPolynomial 1 = .ok (.invokevirtual 39, 3) := by decide +kernel
theorem dX8_copyPolynomial_4 : decode cX8_copyPolynomial 4 = .ok (.iconst 0, 1) := by decide +kernel
theorem dX8_copyPolynomial_5 : decode cX8_copyPolynomial 5 = .ok (.istore_n 2, 1) := by decide +kernel
theorem dX8_copyPolynomial_6 : decode cX8_copyPolynomial 6 = .ok (.iload_n 2, 1) := by decide +kernel
theorem dX8_copyPolynomial_7 : decode cX8_copyPolynomial 7 = .ok (.aload_n 0, 1) := by decide +kernel
theorem dX8_copyPolynomial_8 : decode cX8_copyPolynomial 8 = .ok (.getfield 22, 3) := by decide +kernel
theorem dX8_copyPolynomial_11 : decode cX8_copyPolynomial 11 = .ok (.if_icmp .ge 20, 3) := by decide +kernel
theorem dX8_copyPolynomial_14 : decode cX8_copyPolynomial 14 = .ok (.aload_n 1, 1) := by decide +kernel
theorem dX8_copyPolynomial_15 : decode cX8_copyPolynomial 15 = .ok (.iload_n 2, 1) := by decide +kernel
theorem dX8_copyPolynomial_16 : decode cX8_copyPolynomial 16 = .ok (.aload_n 0, 1) := by decide +kernel
theorem dX8_copyPolynomial_17 : decode cX8_copyPolynomial 17 = .ok (.getfield 19, 3) := by decide +kernel
theorem dX8_copyPolynomial_20 : decode cX8_copyPolynomial 20 = .ok (.iload_n 2, 1) := by decide +kernel
theorem dX8_copyPolynomial_21 : decode cX8_copyPolynomial 21 = .ok (.iaload, 1) := by decide +kernel
theorem dX8_copyPolynomial_22 : decode cX8_copyPolynomial 22 = .ok (.invokevirtual 44, 3) := by decide +kernel
theorem dX8_copyPolynomial_25 : decode cX8_copyPolynomial 25 = .ok (.iinc 2 1, 3) := by decide +kernel
theorem dX8_copyPolynomial_28 : decode cX8_copyPolynomial 28 = .ok (.goto (-22), 3) := by decide +kernel
theorem dX8_copyPolynomial_31 : decode cX8_copyPolynomial 31 = .ok (.return_, 1) := by decide +kernel
theorem dX8_assignmentFault_0 : decode cX8_assignmentFault 0 = .ok (.aload_n 0, 1) := by decide +kernel
theorem dX8_assignmentFault_1 : decode cX8_assignmentFault 1 = .ok (.iconst 0, 1) := by decide +kernel
theorem dX8_assignmentFault_2 : decode cX8_assignmentFault 2 = .ok (.invokevirtual 48, 3) := by decide +kernel
theorem dX8_assignmentFault_5 : decode cX8_assignmentFault 5 = .ok (.invokestatic 52, 3) := by decide +kernel
theorem dX8_assignmentFault_8 : decode cX8_assignmentFault 8 = .ok (.ifCond .ne 5, 3) := by decide +kernel
theorem dX8_assignmentFault_11 : decode cX8_assignmentFault 11 = .ok (.iconst 0, 1) := by decide +kernel
theorem dX8_assignmentFault_12 : decode cX8_assignmentFault 12 = .ok (.ireturn, 1) := by decide +kernel
theorem dX8_assignmentFault_13 : decode cX8_assignmentFault 13 = .ok (.aload_n 0, 1) := by decide +kernel
theorem dX8_assignmentFault_14 : decode cX8_assignmentFault 14 = .ok (.iconst 1, 1) := by decide +kernel
theorem dX8_assignmentFault_15 : decode cX8_assignmentFault 15 = .ok (.invokevirtual 48, 3) := by decide +kernel
theorem dX8_assignmentFault_18 : decode cX8_assignmentFault 18 = .ok (.bipush 61, 2) := by decide +kernel
theorem dX8_assignmentFault_20 : decode cX8_assignmentFault 20 = .ok (.if_icmp .eq 5, 3) := by decide +kernel
theorem dX8_assignmentFault_23 : decode cX8_assignmentFault 23 = .ok (.iconst 1, 1) := by decide +kernel
theorem dX8_assignmentFault_24 : decode cX8_assignmentFault 24 = .ok (.ireturn, 1) := by decide +kernel
theorem dX8_assignmentFault_25 : decode cX8_assignmentFault 25 = .ok (.iconst 0, 1) := by decide +kernel
theorem dX8_assignmentFault_26 : decode cX8_assignmentFault 26 = .ok (.istore_n 1, 1) := by decide +kernel
theorem dX8_assignmentFault_27 : decode cX8_assignmentFault 27 = .ok (.iconst 0, 1) := by decide +kernel
theorem dX8_assignmentFault_28 : decode cX8_assignmentFault 28 = .ok (.istore_n 2, 1) := by decide +kernel
theorem dX8_assignmentFault_29 : decode cX8_assignmentFault 29 = .ok (.iconst 2, 1) := by decide +kernel
theorem dX8_assignmentFault_30 : decode cX8_assignmentFault 30 = .ok (.istore_n 3, 1) := by decide +kernel
theorem dX8_assignmentFault_31 : decode cX8_assignmentFault 31 = .ok (.iload_n 3, 1) := by decide +kernel
theorem dX8_assignmentFault_32 : decode cX8_assignmentFault 32 = .ok (.aload_n 0, 1) := by decide +kernel
theorem dX8_assignmentFault_33 : decode cX8_assignmentFault 33 = .ok (.getfield 15, 3) := by decide +kernel
theorem dX8_assignmentFault_36 : decode cX8_assignmentFault 36 = .ok (.if_icmp .ge 65, 3) := by decide +kernel
theorem dX8_assignmentFault_39 : decode cX8_assignmentFault 39 = .ok (.aload_n 0, 1) := by decide +kernel
theorem dX8_assignmentFault_40 : decode cX8_assignmentFault 40 = .ok (.getfield 11, 3) := by decide +kernel
theorem dX8_assignmentFault_43 : decode cX8_assignmentFault 43 = .ok (.iload_n 3, 1) := by decide +kernel
theorem dX8_assignmentFault_44 : decode cX8_assignmentFault 44 = .ok (.iaload, 1) := by decide +kernel
theorem dX8_assignmentFault_45 : decode cX8_assignmentFault 45 = .ok (.istore 4, 2) := by decide +kernel
theorem dX8_assignmentFault_47 : decode cX8_assignmentFault 47 = .ok (.iload 4, 2) := by decide +kernel
theorem dX8_assignmentFault_49 : decode cX8_assignmentFault 49 = .ok (.iload_n 2, 1) := by decide +kernel
theorem dX8_assignmentFault_50 : decode cX8_assignmentFault 50 = .ok (.invokestatic 55, 3) := by decide +kernel
theorem dX8_assignmentFault_53 : decode cX8_assignmentFault 53 = .ok (.istore_n 2, 1) := by decide +kernel
theorem dX8_assignmentFault_54 : decode cX8_assignmentFault 54 = .ok (.iload_n 1, 1) := by decide +kernel
theorem dX8_assignmentFault_55 : decode cX8_assignmentFault 55 = .ok (.iload 4, 2) := by decide +kernel
theorem dX8_assignmentFault_57 : decode cX8_assignmentFault 57 = .ok (.bipush 40, 2) := by decide +kernel
theorem dX8_assignmentFault_59 : decode cX8_assignmentFault 59 = .ok (.if_icmp .ne 7, 3) := by decide +kernel
theorem dX8_assignmentFault_62 : decode cX8_assignmentFault 62 = .ok (.iconst 1, 1) := by decide +kernel
theorem dX8_assignmentFault_63 : decode cX8_assignmentFault 63 = .ok (.goto 15, 3) := by decide +kernel
theorem dX8_assignmentFault_66 : decode cX8_assignmentFault 66 = .ok (.iload 4, 2) := by decide +kernel
theorem dX8_assignmentFault_68 : decode cX8_assignmentFault 68 = .ok (.bipush 41, 2) := by decide +kernel
theorem dX8_assignmentFault_70 : decode cX8_assignmentFault 70 = .ok (.if_icmp .ne 7, 3) := by decide +kernel
theorem dX8_assignmentFault_73 : decode cX8_assignmentFault 73 = .ok (.iconst (-1), 1) := by decide +kernel
theorem dX8_assignmentFault_74 : decode cX8_assignmentFault 74 = .ok (.goto 4, 3) := by decide +kernel
theorem dX8_assignmentFault_77 : decode cX8_assignmentFault 77 = .ok (.iconst 0, 1) := by decide +kernel
theorem dX8_assignmentFault_78 : decode cX8_assignmentFault 78 = .ok (.iadd, 1) := by decide +kernel
theorem dX8_assignmentFault_79 : decode cX8_assignmentFault 79 = .ok (.istore_n 1, 1) := by decide +kernel
theorem dX8_assignmentFault_80 : decode cX8_assignmentFault 80 = .ok (.iload_n 2, 1) := by decide +kernel
theorem dX8_assignmentFault_81 : decode cX8_assignmentFault 81 = .ok (.ifCond .lt 12, 3) := by decide +kernel
theorem dX8_assignmentFault_84 : decode cX8_assignmentFault 84 = .ok (.iload_n 1, 1) := by decide +kernel
theorem dX8_assignmentFault_85 : decode cX8_assignmentFault 85 = .ok (.ifCond .lt 8, 3) := by decide +kernel
theorem dX8_assignmentFault_88 : decode cX8_assignmentFault 88 = .ok (.iload_n 1, 1) := by decide +kernel
theorem dX8_assignmentFault_89 : decode cX8_assignmentFault 89 = .ok (.iconst 5, 1) := by decide +kernel
theorem dX8_assignmentFault_90 : decode cX8_assignmentFault 90 = .ok (.if_icmp .le 5, 3) := by decide +kernel
theorem dX8_assignmentFault_93 : decode cX8_assignmentFault 93 = .ok (.iload_n 3, 1) := by decide +kernel
theorem dX8_assignmentFault_94 : decode cX8_assignmentFault 94 = .ok (.ireturn, 1) := by decide +kernel
theorem dX8_assignmentFault_95 : decode cX8_assignmentFault 95 = .ok (.iinc 3 1, 3) := by decide +kernel
theorem dX8_assignmentFault_98 : decode cX8_assignmentFault 98 = .ok (.goto (-67), 3) := by decide +kernel
theorem dX8_assignmentFault_101 : decode cX8_assignmentFault 101 = .ok (.iload_n 1, 1) := by decide +kernel
theorem dX8_assignmentFault_102 : decode cX8_assignmentFault 102 = .ok (.ifCond .ne 17, 3) := by decide +kernel
theorem dX8_assignmentFault_105 : decode cX8_assignmentFault 105 = .ok (.iload_n 2, 1) := by decide +kernel
theorem dX8_assignmentFault_106 : decode cX8_assignmentFault 106 = .ok (.iconst 1, 1) := by decide +kernel
theorem dX8_assignmentFault_107 : decode cX8_assignmentFault 107 = .ok (.if_icmp .eq 8, 3) := by decide +kernel
theorem dX8_assignmentFault_110 : decode cX8_assignmentFault 110 = .ok (.iload_n 2, 1) := by decide +kernel
theorem dX8_assignmentFault_111 : decode cX8_assignmentFault 111 = .ok (.iconst 3, 1) := by decide +kernel
theorem dX8_assignmentFault_112 : decode cX8_assignmentFault 112 = .ok (.if_icmp .ne 7, 3) := by decide +kernel
theorem dX8_assignmentFault_115 : decode cX8_assignmentFault 115 = .ok (.iconst 1, 1) := by decide +kernel
theorem dX8_assignmentFault_116 : decode cX8_assignmentFault 116 = .ok (.goto 4, 3) := by decide +kernel
theorem dX8_assignmentFault_119 : decode cX8_assignmentFault 119 = .ok (.iconst 0, 1) := by decide +kernel
theorem dX8_assignmentFault_120 : decode cX8_assignmentFault 120 = .ok (.istore_n 3, 1) := by decide +kernel
theorem dX8_assignmentFault_121 : decode cX8_assignmentFault 121 = .ok (.iload_n 3, 1) := by decide +kernel
theorem dX8_assignmentFault_122 : decode cX8_assignmentFault 122 = .ok (.ifCond .eq 7, 3) := by decide +kernel
theorem dX8_assignmentFault_125 : decode cX8_assignmentFault 125 = .ok (.iconst (-1), 1) := by decide +kernel
theorem dX8_assignmentFault_126 : decode cX8_assignmentFault 126 = .ok (.goto 7, 3) := by decide +kernel
theorem dX8_assignmentFault_129 : decode cX8_assignmentFault 129 = .ok (.aload_n 0, 1) := by decide +kernel
theorem dX8_assignmentFault_130 : decode cX8_assignmentFault 130 = .ok (.getfield 15, 3) := by decide +kernel
theorem dX8_assignmentFault_133 : decode cX8_assignmentFault 133 = .ok (.ireturn, 1) := by decide +kernel
theorem dX8_expectedBehind_0 : decode cX8_expectedBehind 0 = .ok (.iload_n 1, 1) := by decide +kernel
theorem dX8_expectedBehind_1 : decode cX8_expectedBehind 1 = .ok (.ifCond .ne 49, 3) := by decide +kernel
theorem dX8_expectedBehind_4 : decode cX8_expectedBehind 4 = .ok (.iload_n 0, 1) := by decide +kernel
theorem dX8_expectedBehind_5 : decode cX8_expectedBehind 5 = .ok (.invokestatic 52, 3) := by decide +kernel
theorem dX8_expectedBehind_8 : decode cX8_expectedBehind 8 = .ok (.ifCond .ne 16, 3) := by decide +kernel
theorem dX8_expectedBehind_11 : decode cX8_expectedBehind 11 = .ok (.iload_n 0, 1) := by decide +kernel
theorem dX8_expectedBehind_12 : decode cX8_expectedBehind 12 = .ok (.invokestatic 25, 3) := by decide +kernel
theorem dX8_expectedBehind_15 : decode cX8_expectedBehind 15 = .ok (.ifCond .ne 9, 3) := by decide +kernel
theorem dX8_expectedBehind_18 : decode cX8_expectedBehind 18 = .ok (.iload_n 0, 1) := by decide +kernel
theorem dX8_expectedBehind_19 : decode cX8_expectedBehind 19 = .ok (.bipush 120, 2) := by decide +kernel
theorem dX8_expectedBehind_21 : decode cX8_expectedBehind 21 = .ok (.if_icmp .ne 7, 3) := by decide +kernel
theorem dX8_expectedBehind_24 : decode cX8_expectedBehind 24 = .ok (.iconst 1, 1) := by decide +kernel
theorem dX8_expectedBehind_25 : decode cX8_expectedBehind 25 = .ok (.goto 4, 3) := by decide +kernel
theorem dX8_expectedBehind_28 : decode cX8_expectedBehind 28 = .ok (.iconst 0, 1) := by decide +kernel
theorem dX8_expectedBehind_29 : decode cX8_expectedBehind 29 = .ok (.istore_n 2, 1) := by decide +kernel
theorem dX8_expectedBehind_30 : decode cX8_expectedBehind 30 = .ok (.iload_n 2, 1) := by decide +kernel
theorem dX8_expectedBehind_31 : decode cX8_expectedBehind 31 = .ok (.ifCond .eq 7, 3) := by decide +kernel
theorem dX8_expectedBehind_34 : decode cX8_expectedBehind 34 = .ok (.iconst 1, 1) := by decide +kernel
theorem dX8_expectedBehind_35 : decode cX8_expectedBehind 35 = .ok (.goto 14, 3) := by decide +kernel
theorem dX8_expectedBehind_38 : decode cX8_expectedBehind 38 = .ok (.iload_n 0, 1) := by decide +kernel
theorem dX8_expectedBehind_39 : decode cX8_expectedBehind 39 = .ok (.bipush 40, 2) := by decide +kernel
theorem dX8_expectedBehind_41 : decode cX8_expectedBehind 41 = .ok (.if_icmp .ne 7, 3) := by decide +kernel
theorem dX8_expectedBehind_44 : decode cX8_expectedBehind 44 = .ok (.iconst 0, 1) := by decide +kernel
theorem dX8_expectedBehind_45 : decode cX8_expectedBehind 45 = .ok (.goto 4, 3) := by decide +kernel
theorem dX8_expectedBehind_48 : decode cX8_expectedBehind 48 = .ok (.iconst (-1), 1) := by decide +kernel
theorem dX8_expectedBehind_49 : decode cX8_expectedBehind 49 = .ok (.ireturn, 1) := by decide +kernel
theorem dX8_expectedBehind_50 : decode cX8_expectedBehind 50 = .ok (.iload_n 1, 1) := by decide +kernel
theorem dX8_expectedBehind_51 : decode cX8_expectedBehind 51 = .ok (.iconst 2, 1) := by decide +kernel
theorem dX8_expectedBehind_52 : decode cX8_expectedBehind 52 = .ok (.if_icmp .ne 16, 3) := by decide +kernel
theorem dX8_expectedBehind_55 : decode cX8_expectedBehind 55 = .ok (.iload_n 0, 1) := by decide +kernel
theorem dX8_expectedBehind_56 : decode cX8_expectedBehind 56 = .ok (.invokestatic 25, 3) := by decide +kernel
theorem dX8_expectedBehind_59 : decode cX8_expectedBehind 59 = .ok (.ifCond .eq 7, 3) := by decide +kernel
theorem dX8_expectedBehind_62 : decode cX8_expectedBehind 62 = .ok (.iconst 3, 1) := by decide +kernel
theorem dX8_expectedBehind_63 : decode cX8_expectedBehind 63 = .ok (.goto 4, 3) := by decide +kernel
theorem dX8_expectedBehind_66 : decode cX8_expectedBehind 66 = .ok (.iconst (-1), 1) := by decide +kernel
theorem dX8_expectedBehind_67 : decode cX8_expectedBehind 67 = .ok (.ireturn, 1) := by decide +kernel
theorem dX8_expectedBehind_68 : decode cX8_expectedBehind 68 = .ok (.iload_n 0, 1) := by decide +kernel
theorem dX8_expectedBehind_69 : decode cX8_expectedBehind 69 = .ok (.lookupswitch 74 #[(41, 61), (42, 59), (43, 59), (45, 59), (47, 59), (94, 63)], 59) := by decide +kernel
theorem dX8_expectedBehind_128 : decode cX8_expectedBehind 128 = .ok (.iconst 0, 1) := by decide +kernel
theorem dX8_expectedBehind_129 : decode cX8_expectedBehind 129 = .ok (.ireturn, 1) := by decide +kernel
theorem dX8_expectedBehind_130 : decode cX8_expectedBehind 130 = .ok (.iconst 1, 1) := by decide +kernel
theorem dX8_expectedBehind_131 : decode cX8_expectedBehind 131 = .ok (.ireturn, 1) := by decide +kernel
theorem dX8_expectedBehind_132 : decode cX8_expectedBehind 132 = .ok (.iload_n 1, 1) := by decide +kernel
theorem dX8_expectedBehind_133 : decode cX8_expectedBehind 133 = .ok (.iconst 1, 1) := by decide +kernel
theorem dX8_expectedBehind_134 : decode cX8_expectedBehind 134 = .ok (.if_icmp .ne 7, 3) := by decide +kernel
theorem dX8_expectedBehind_137 : decode cX8_expectedBehind 137 = .ok (.iconst 2, 1) := by decide +kernel
theorem dX8_expectedBehind_138 : decode cX8_expectedBehind 138 = .ok (.goto 4, 3) := by decide +kernel
theorem dX8_expectedBehind_141 : decode cX8_expectedBehind 141 = .ok (.iconst (-1), 1) := by decide +kernel
theorem dX8_expectedBehind_142 : decode cX8_expectedBehind 142 = .ok (.ireturn, 1) := by decide +kernel
theorem dX8_expectedBehind_143 : decode cX8_expectedBehind 143 = .ok (.iconst (-1), 1) := by decide +kernel
theorem dX8_expectedBehind_144 : decode cX8_expectedBehind 144 = .ok (.ireturn, 1) := by decide +kernel
theorem dX8_tell_0 : decode cX8_tell 0 = .ok (.aload_n 0, 1) := by decide +kernel
theorem dX8_tell_1 : decode cX8_tell 1 = .ok (.getfield 22, 3) := by decide +kernel
theorem dX8_tell_4 : decode cX8_tell 4 = .ok (.bipush 7, 2) := by decide +kernel
theorem dX8_tell_6 : decode cX8_tell 6 = .ok (.if_icmp .ge 23, 3) := by decide +kernel
theorem dX8_tell_9 : decode cX8_tell 9 = .ok (.aload_n 0, 1) := by decide +kernel
theorem dX8_tell_10 : decode cX8_tell 10 = .ok (.getfield 19, 3) := by decide +kernel
theorem dX8_tell_13 : decode cX8_tell 13 = .ok (.aload_n 0, 1) := by decide +kernel
theorem dX8_tell_14 : decode cX8_tell 14 = .ok (.getfield 22, 3) := by decide +kernel
theorem dX8_tell_17 : decode cX8_tell 17 = .ok (.iload_n 1, 1) := by decide +kernel
theorem dX8_tell_18 : decode cX8_tell 18 = .ok (.iastore, 1) := by decide +kernel
theorem dX8_tell_19 : decode cX8_tell 19 = .ok (.aload_n 0, 1) := by decide +kernel
theorem dX8_tell_20 : decode cX8_tell 20 = .ok (.dup, 1) := by decide +kernel
theorem dX8_tell_21 : decode cX8_tell 21 = .ok (.getfield 22, 3) := by decide +kernel
theorem dX8_tell_24 : decode cX8_tell 24 = .ok (.iconst 1, 1) := by decide +kernel
theorem dX8_tell_25 : decode cX8_tell 25 = .ok (.iadd, 1) := by decide +kernel
theorem dX8_tell_26 : decode cX8_tell 26 = .ok (.putfield 22, 3) := by decide +kernel
theorem dX8_tell_29 : decode cX8_tell 29 = .ok (.return_, 1) := by decide +kernel
theorem dX9_init_0 : decode cX9_init 0 = .ok (.aload_n 0, 1) := by decide +kernel
theorem dX9_init_1 : decode cX9_init 1 = .ok (.invokespecial 1, 3) := by decide +kernel
theorem dX9_init_4 : decode cX9_init 4 = .ok (.new 7, 3) := by decide +kernel
theorem dX9_init_7 : decode cX9_init 7 = .ok (.dup, 1) := by decide +kernel
theorem dX9_init_8 : decode cX9_init 8 = .ok (.invokespecial 9, 3) := by decide +kernel
theorem dX9_init_11 : decode cX9_init 11 = .ok (.astore_n 1, 1) := by decide +kernel
theorem dX9_init_12 : decode cX9_init 12 = .ok (.new 10, 3) := by decide +kernel
theorem dX9_init_15 : decode cX9_init 15 = .ok (.dup, 1) := by decide +kernel
theorem dX9_init_16 : decode cX9_init 16 = .ok (.invokespecial 12, 3) := by decide +kernel
theorem dX9_init_19 : decode cX9_init 19 = .ok (.astore_n 2, 1) := by decide +kernel
theorem dX9_init_20 : decode cX9_init 20 = .ok (.new 13, 3) := by decide +kernel
theorem dX9_init_23 : decode cX9_init 23 = .ok (.dup, 1) := by decide +kernel
theorem dX9_init_24 : decode cX9_init 24 = .ok (.aload_n 1, 1) := by decide +kernel
theorem dX9_init_25 : decode cX9_init 25 = .ok (.invokespecial 15, 3) := by decide +kernel
theorem dX9_init_28 : decode cX9_init 28 = .ok (.astore_n 3, 1) := by decide +kernel
theorem dX9_init_29 : decode cX9_init 29 = .ok (.new 18, 3) := by decide +kernel
theorem dX9_init_32 : decode cX9_init 32 = .ok (.dup, 1) := by decide +kernel
theorem dX9_init_33 : decode cX9_init 33 = .ok (.aload_n 1, 1) := by decide +kernel
theorem dX9_init_34 : decode cX9_init 34 = .ok (.aload_n 3, 1) := by decide +kernel
theorem dX9_init_35 : decode cX9_init 35 = .ok (.invokespecial 20, 3) := by decide +kernel
theorem dX9_init_38 : decode cX9_init 38 = .ok (.astore 4, 2) := by decide +kernel
theorem dX9_init_40 : decode cX9_init 40 = .ok (.new 23, 3) := by decide +kernel
theorem dX9_init_43 : decode cX9_init 43 = .ok (.dup, 1) := by decide +kernel
theorem dX9_init_44 : decode cX9_init 44 = .ok (.aload_n 1, 1) := by decide +kernel
theorem dX9_init_45 : decode cX9_init 45 = .ok (.aload_n 3, 1) := by decide +kernel
theorem dX9_init_46 : decode cX9_init 46 = .ok (.invokespecial 25, 3) := by decide +kernel
theorem dX9_init_49 : decode cX9_init 49 = .ok (.astore 5, 2) := by decide +kernel
theorem dX9_init_51 : decode cX9_init 51 = .ok (.aload_n 0, 1) := by decide +kernel
theorem dX9_init_52 : decode cX9_init 52 = .ok (.new 26, 3) := by decide +kernel
theorem dX9_init_55 : decode cX9_init 55 = .ok (.dup, 1) := by decide +kernel
theorem dX9_init_56 : decode cX9_init 56 = .ok (.aload_n 1, 1) := by decide +kernel
theorem dX9_init_57 : decode cX9_init 57 = .ok (.aload_n 3, 1) := by decide +kernel
theorem dX9_init_58 : decode cX9_init 58 = .ok (.aload 4, 2) := by decide +kernel
theorem dX9_init_60 : decode cX9_init 60 = .ok (.invokespecial 28, 3) := by decide +kernel
theorem dX9_init_63 : decode cX9_init 63 = .ok (.putfield 31, 3) := by decide +kernel
theorem dX9_init_66 : decode cX9_init 66 = .ok (.aload_n 0, 1) := by decide +kernel
theorem dX9_init_67 : decode cX9_init 67 = .ok (.new 37, 3) := by decide +kernel
theorem dX9_init_70 : decode cX9_init 70 = .ok (.dup, 1) := by decide +kernel
theorem dX9_init_71 : decode cX9_init 71 = .ok (.aload_n 1, 1) := by decide +kernel
theorem dX9_init_72 : decode cX9_init 72 = .ok (.aload_n 2, 1) := by decide +kernel
theorem dX9_init_73 : decode cX9_init 73 = .ok (.aload 4, 2) := by decide +kernel
theorem dX9_init_75 : decode cX9_init 75 = .ok (.aload 5, 2) := by decide +kernel
theorem dX9_init_77 : decode cX9_init 77 = .ok (.invokespecial 39, 3) := by decide +kernel
theorem dX9_init_80 : decode cX9_init 80 = .ok (.putfield 42, 3) := by decide +kernel
theorem dX9_init_83 : decode cX9_init 83 = .ok (.aload_n 0, 1) := by decide +kernel
theorem dX9_init_84 : decode cX9_init 84 = .ok (.aload_n 1, 1) := by decide +kernel
theorem dX9_init_85 : decode cX9_init 85 = .ok (.putfield 46, 3) := by decide +kernel
theorem dX9_init_88 : decode cX9_init 88 = .ok (.aload_n 0, 1) := by decide +kernel
theorem dX9_init_89 : decode cX9_init 89 = .ok (.aload_n 2, 1) := by decide +kernel
theorem dX9_init_90 : decode cX9_init 90 = .ok (.putfield 50, 3) := by decide +kernel
theorem dX9_init_93 : decode cX9_init 93 = .ok (.aload_n 0, 1) := by decide +kernel
theorem dX9_init_94 : decode cX9_init 94 = .ok (.aload_n 3, 1) := by decide +kernel
theorem dX9_init_95 : decode cX9_init 95 = .ok (.putfield 54, 3) := by decide +kernel
theorem dX9_init_98 : decode cX9_init 98 = .ok (.aload_n 0, 1) := by decide +kernel
theorem dX9_init_99 : decode cX9_init 99 = .ok (.aload 4, 2) := by decide +kernel
theorem dX9_init_101 : decode cX9_init 101 = .ok (.putfield 58, 3) := by decide +kernel
theorem dX9_init_104 : decode cX9_init 104 = .ok (.aload_n 0, 1) := by decide +kernel
theorem dX9_init_105 : decode cX9_init 105 = .ok (.aload 5, 2) := by decide +kernel
theorem dX9_init_107 : decode cX9_init 107 = .ok (.putfield 62, 3) := by decide +kernel
theorem dX9_init_110 : decode cX9_init 110 = .ok (.aload_n 0, 1) := by decide +kernel
theorem dX9_init_111 : decode cX9_init 111 = .ok (.new 7, 3) := by decide +kernel
theorem dX9_init_114 : decode cX9_init 114 = .ok (.dup, 1) := by decide +kernel
theorem dX9_init_115 : decode cX9_init 115 = .ok (.invokespecial 9, 3) := by decide +kernel
theorem dX9_init_118 : decode cX9_init 118 = .ok (.putfield 66, 3) := by decide +kernel
theorem dX9_init_121 : decode cX9_init 121 = .ok (.aload_n 0, 1) := by decide +kernel
theorem dX9_init_122 : decode cX9_init 122 = .ok (.iconst 0, 1) := by decide +kernel
theorem dX9_init_123 : decode cX9_init 123 = .ok (.putfield 69, 3) := by decide +kernel
theorem dX9_init_126 : decode cX9_init 126 = .ok (.aload_n 0, 1) := by decide +kernel
theorem dX9_init_127 : decode cX9_init 127 = .ok (.new 73, 3) := by decide +kernel
theorem dX9_init_130 : decode cX9_init 130 = .ok (.dup, 1) := by decide +kernel
theorem dX9_init_131 : decode cX9_init 131 = .ok (.invokespecial 75, 3) := by decide +kernel
theorem dX9_init_134 : decode cX9_init 134 = .ok (.putfield 76, 3) := by decide +kernel
theorem dX9_init_137 : decode cX9_init 137 = .ok (.aload_n 0, 1) := by decide +kernel
theorem dX9_init_138 : decode cX9_init 138 = .ok (.new 80, 3) := by decide +kernel
theorem dX9_init_141 : decode cX9_init 141 = .ok (.dup, 1) := by decide +kernel
theorem dX9_init_142 : decode cX9_init 142 = .ok (.invokespecial 82, 3) := by decide +kernel
theorem dX9_init_145 : decode cX9_init 145 = .ok (.putfield 83, 3) := by decide +kernel
theorem dX9_init_148 : decode cX9_init 148 = .ok (.return_, 1) := by decide +kernel
theorem dX9_setPrime_0 : decode cX9_setPrime 0 = .ok (.iload_n 1, 1) := by decide +kernel
theorem dX9_setPrime_1 : decode cX9_setPrime 1 = .ok (.invokestatic 87, 3) := by decide +kernel
theorem dX9_setPrime_4 : decode cX9_setPrime 4 = .ok (.ifCond .ne 6, 3) := by decide +kernel
theorem dX9_setPrime_7 : decode cX9_setPrime 7 = .ok (.bipush (-2), 2) := by decide +kernel
theorem dX9_setPrime_9 : decode cX9_setPrime 9 = .ok (.ireturn, 1) := by decide +kernel
theorem dX9_setPrime_10 : decode cX9_setPrime 10 = .ok (.aload_n 0, 1) := by decide +kernel
theorem dX9_setPrime_11 : decode cX9_setPrime 11 = .ok (.getfield 46, 3) := by decide +kernel
theorem dX9_setPrime_14 : decode cX9_setPrime 14 = .ok (.getfield 91, 3) := by decide +kernel
theorem dX9_setPrime_17 : decode cX9_setPrime 17 = .ok (.istore_n 2, 1) := by decide +kernel
theorem dX9_setPrime_18 : decode cX9_setPrime 18 = .ok (.iload_n 1, 1) := by decide +kernel
theorem dX9_setPrime_19 : decode cX9_setPrime 19 = .ok (.iload_n 2, 1) := by decide +kernel
theorem dX9_setPrime_20 : decode cX9_setPrime 20 = .ok (.if_icmp .ne 6, 3) := by decide +kernel
theorem dX9_setPrime_23 : decode cX9_setPrime 23 = .ok (.bipush (-5), 2) := by decide +kernel
theorem dX9_setPrime_25 : decode cX9_setPrime 25 = .ok (.ireturn, 1) := by decide +kernel
theorem dX9_setPrime_26 : decode cX9_setPrime 26 = .ok (.aload_n 0, 1) := by decide +kernel
theorem dX9_setPrime_27 : decode cX9_setPrime 27 = .ok (.getfield 76, 3) := by decide +kernel
theorem dX9_setPrime_30 : decode cX9_setPrime 30 = .ok (.aload_n 0, 1) := by decide +kernel
theorem dX9_setPrime_31 : decode cX9_setPrime 31 = .ok (.getfield 46, 3) := by decide +kernel
theorem dX9_setPrime_34 : decode cX9_setPrime 34 = .ok (.invokevirtual 95, 3) := by decide +kernel
theorem dX9_setPrime_37 : decode cX9_setPrime 37 = .ok (.aload_n 0, 1) := by decide +kernel
theorem dX9_setPrime_38 : decode cX9_setPrime 38 = .ok (.getfield 46, 3) := by decide +kernel
theorem dX9_setPrime_41 : decode cX9_setPrime 41 = .ok (.iload_n 1, 1) := by decide +kernel
theorem dX9_setPrime_42 : decode cX9_setPrime 42 = .ok (.invokevirtual 98, 3) := by decide +kernel
theorem dX9_setPrime_45 : decode cX9_setPrime 45 = .ok (.iload_n 2, 1) := by decide +kernel
theorem dX9_setPrime_46 : decode cX9_setPrime 46 = .ok (.ireturn, 1) := by decide +kernel
theorem dX9_readModulus_0 : decode cX9_readModulus 0 = .ok (.aload_n 0, 1) := by decide +kernel
theorem dX9_readModulus_1 : decode cX9_readModulus 1 = .ok (.getfield 50, 3) := by decide +kernel
theorem dX9_readModulus_4 : decode cX9_readModulus 4 = .ok (.invokevirtual 102, 3) := by decide +kernel
theorem dX9_readModulus_7 : decode cX9_readModulus 7 = .ok (.istore_n 1, 1) := by decide +kernel
theorem dX9_readModulus_8 : decode cX9_readModulus 8 = .ok (.iload_n 1, 1) := by decide +kernel
theorem dX9_readModulus_9 : decode cX9_readModulus 9 = .ok (.ifCond .lt 8, 3) := by decide +kernel
theorem dX9_readModulus_12 : decode cX9_readModulus 12 = .ok (.bipush (-100), 2) := by decide +kernel
theorem dX9_readModulus_14 : decode cX9_readModulus 14 = .ok (.iload_n 1, 1) := by decide +kernel
theorem dX9_readModulus_15 : decode cX9_readModulus 15 = .ok (.isub, 1) := by decide +kernel
theorem dX9_readModulus_16 : decode cX9_readModulus 16 = .ok (.ireturn, 1) := by decide +kernel
theorem dX9_readModulus_17 : decode cX9_readModulus 17 = .ok (.aload_n 0, 1) := by decide +kernel
theorem dX9_readModulus_18 : decode cX9_readModulus 18 = .ok (.invokevirtual 106, 3) := by decide +kernel
theorem dX9_readModulus_21 : decode cX9_readModulus 21 = .ok (.ifCond .ne 6, 3) := by decide +kernel
theorem dX9_readModulus_24 : decode cX9_readModulus 24 = .ok (.bipush (-2), 2) := by decide +kernel
theorem dX9_readModulus_26 : decode cX9_readModulus 26 = .ok (.ireturn, 1) := by decide +kernel
theorem dX9_readModulus_27 : decode cX9_readModulus 27 = .ok (.aload_n 0, 1) := by decide +kernel
theorem dX9_readModulus_28 : decode cX9_readModulus 28 = .ok (.getfield 50, 3) := by decide +kernel
theorem dX9_readModulus_31 : decode cX9_readModulus 31 = .ok (.aload_n 0, 1) := by decide +kernel
theorem dX9_readModulus_32 : decode cX9_readModulus 32 = .ok (.getfield 83, 3) := by decide +kernel
theorem dX9_readModulus_35 : decode cX9_readModulus 35 = .ok (.invokevirtual 110, 3) := by decide +kernel
theorem dX9_readModulus_38 : decode cX9_readModulus 38 = .ok (.aload_n 0, 1) := by decide +kernel
theorem dX9_readModulus_39 : decode cX9_readModulus 39 = .ok (.getfield 54, 3) := by decide +kernel
theorem dX9_readModulus_42 : decode cX9_readModulus 42 = .ok (.aload_n 0, 1) := by decide +kernel
theorem dX9_readModulus_43 : decode cX9_readModulus 43 = .ok (.getfield 83, 3) := by decide +kernel
theorem dX9_readModulus_46 : decode cX9_readModulus 46 = .ok (.invokevirtual 114, 3) := by decide +kernel
theorem dX9_readModulus_49 : decode cX9_readModulus 49 = .ok (.ifCond .eq 6, 3) := by decide +kernel
theorem dX9_readModulus_52 : decode cX9_readModulus 52 = .ok (.bipush (-4), 2) := by decide +kernel
theorem dX9_readModulus_54 : decode cX9_readModulus 54 = .ok (.ireturn, 1) := by decide +kernel
theorem dX9_readModulus_55 : decode cX9_readModulus 55 = .ok (.aload_n 0, 1) := by decide +kernel
theorem dX9_readModulus_56 : decode cX9_readModulus 56 = .ok (.getfield 83, 3) := by decide +kernel
theorem dX9_readModulus_59 : decode cX9_readModulus 59 = .ok (.aload_n 0, 1) := by decide +kernel
theorem dX9_readModulus_60 : decode cX9_readModulus 60 = .ok (.getfield 46, 3) := by decide +kernel
theorem dX9_readModulus_63 : decode cX9_readModulus 63 = .ok (.getfield 118, 3) := by decide +kernel
theorem dX9_readModulus_66 : decode cX9_readModulus 66 = .ok (.invokevirtual 121, 3) := by decide +kernel
theorem dX9_readModulus_69 : decode cX9_readModulus 69 = .ok (.ifCond .eq 6, 3) := by decide +kernel
theorem dX9_readModulus_72 : decode cX9_readModulus 72 = .ok (.bipush (-5), 2) := by decide +kernel
theorem dX9_readModulus_74 : decode cX9_readModulus 74 = .ok (.ireturn, 1) := by decide +kernel
theorem dX9_readModulus_75 : decode cX9_readModulus 75 = .ok (.aload_n 0, 1) := by decide +kernel
theorem dX9_readModulus_76 : decode cX9_readModulus 76 = .ok (.getfield 76, 3) := by decide +kernel
theorem dX9_readModulus_79 : decode cX9_readModulus 79 = .ok (.aload_n 0, 1) := by decide +kernel
theorem dX9_readModulus_80 : decode cX9_readModulus 80 = .ok (.getfield 46, 3) := by decide +kernel
theorem dX9_readModulus_83 : decode cX9_readModulus 83 = .ok (.invokevirtual 95, 3) := by decide +kernel
theorem dX9_readModulus_86 : decode cX9_readModulus 86 = .ok (.aload_n 0, 1) := by decide +kernel
theorem dX9_readModulus_87 : decode cX9_readModulus 87 = .ok (.getfield 46, 3) := by decide +kernel
theorem dX9_readModulus_90 : decode cX9_readModulus 90 = .ok (.aload_n 0, 1) := by decide +kernel
theorem dX9_readModulus_91 : decode cX9_readModulus 91 = .ok (.getfield 83, 3) := by decide +kernel
theorem dX9_readModulus_94 : decode cX9_readModulus 94 = .ok (.invokevirtual 124, 3) := by decide +kernel
theorem dX9_readModulus_97 : decode cX9_readModulus 97 = .ok (.iconst 0, 1) := by decide +kernel
theorem dX9_readModulus_98 : decode cX9_readModulus 98 = .ok (.istore_n 2, 1) := by decide +kernel
theorem dX9_readModulus_99 : decode cX9_readModulus 99 = .ok (.iload_n 2, 1) := by decide +kernel
theorem dX9_readModulus_100 : decode cX9_readModulus 100 = .ok (.bipush 6, 2) := by decide +kernel
theorem dX9_readModulus_102 : decode cX9_readModulus 102 = .ok (.if_icmp .ge 32, 3) := by decide +kernel
theorem dX9_readModulus_105 : decode cX9_readModulus 105 = .ok (.aload_n 0, 1) := by decide +kernel
theorem dX9_readModulus_106 : decode cX9_readModulus 106 = .ok (.getfield 54, 3) := by decide +kernel
theorem dX9_readModulus_109 : decode cX9_readModulus 109 = .ok (.aload_n 0, 1) := by decide +kernel
theorem dX9_readModulus_110 : decode cX9_readModulus 110 = .ok (.getfield 46, 3) := by decide +kernel
theorem dX9_readModulus_113 : decode cX9_readModulus 113 = .ok (.getfield 127, 3) := by decide +kernel
theorem dX9_readModulus_116 : decode cX9_readModulus 116 = .ok (.iload_n 2, 1) := by decide +kernel
theorem dX9_readModulus_117 : decode cX9_readModulus 117 = .ok (.aaload, 1) := by decide +kernel
theorem dX9_readModulus_118 : decode cX9_readModulus 118 = .ok (.aload_n 0, 1) := by decide +kernel
theorem dX9_readModulus_119 : decode cX9_readModulus 119 = .ok (.getfield 46, 3) := by decide +kernel
theorem dX9_readModulus_122 : decode cX9_readModulus 122 = .ok (.getfield 118, 3) := by decide +kernel
theorem dX9_readModulus_125 : decode cX9_readModulus 125 = .ok (.invokevirtual 131, 3) := by decide +kernel
theorem dX9_readModulus_128 : decode cX9_readModulus 128 = .ok (.iinc 2 1, 3) := by decide +kernel
theorem dX9_readModulus_131 : decode cX9_readModulus 131 = .ok (.goto (-32), 3) := by decide +kernel
theorem dX9_readModulus_134 : decode cX9_readModulus 134 = .ok (.aload_n 0, 1) := by decide +kernel
theorem dX9_readModulus_135 : decode cX9_readModulus 135 = .ok (.getfield 46, 3) := by decide +kernel
theorem dX9_readModulus_138 : decode cX9_readModulus 138 = .ok (.getfield 118, 3) := by decide +kernel
theorem dX9_readModulus_141 : decode cX9_readModulus 141 = .ok (.getfield 135, 3) := by decide +kernel
theorem dX9_readModulus_144 : decode cX9_readModulus 144 = .ok (.ireturn, 1) := by decide +kernel
theorem dX9_setNumber_0 : decode cX9_setNumber 0 = .ok (.iload_n 1, 1) := by decide +kernel
theorem dX9_setNumber_1 : decode cX9_setNumber 1 = .ok (.invokestatic 138, 3) := by decide +kernel
theorem dX9_setNumber_4 : decode cX9_setNumber 4 = .ok (.ifCond .ne 5, 3) := by decide +kernel
theorem dX9_setNumber_7 : decode cX9_setNumber 7 = .ok (.iconst (-1), 1) := by decide +kernel
theorem dX9_setNumber_8 : decode cX9_setNumber 8 = .ok (.ireturn, 1) := by decide +kernel
theorem dX9_setNumber_9 : decode cX9_setNumber 9 = .ok (.aload_n 0, 1) := by decide +kernel
theorem dX9_setNumber_10 : decode cX9_setNumber 10 = .ok (.iload_n 2, 1) := by decide +kernel
theorem dX9_setNumber_11 : decode cX9_setNumber 11 = .ok (.invokevirtual 141, 3) := by decide +kernel
theorem dX9_setNumber_14 : decode cX9_setNumber 14 = .ok (.ifCond .eq 18, 3) := by decide +kernel
theorem dX9_setNumber_17 : decode cX9_setNumber 17 = .ok (.iload_n 3, 1) := by decide +kernel
theorem dX9_setNumber_18 : decode cX9_setNumber 18 = .ok (.ifCond .lt 14, 3) := by decide +kernel
theorem dX9_setNumber_21 : decode cX9_setNumber 21 = .ok (.iload_n 3, 1) := by decide +kernel
theorem dX9_setNumber_22 : decode cX9_setNumber 22 = .ok (.aload_n 0, 1) := by decide +kernel
theorem dX9_setNumber_23 : decode cX9_setNumber 23 = .ok (.getfield 46, 3) := by decide +kernel
theorem dX9_setNumber_26 : decode cX9_setNumber 26 = .ok (.getfield 91, 3) := by decide +kernel
theorem dX9_setNumber_29 : decode cX9_setNumber 29 = .ok (.if_icmp .lt 6, 3) := by decide +kernel
theorem dX9_setNumber_32 : decode cX9_setNumber 32 = .ok (.bipush (-2), 2) := by decide +kernel
theorem dX9_setNumber_34 : decode cX9_setNumber 34 = .ok (.ireturn, 1) := by decide +kernel
theorem dX9_setNumber_35 : decode cX9_setNumber 35 = .ok (.aload_n 0, 1) := by decide +kernel
theorem dX9_setNumber_36 : decode cX9_setNumber 36 = .ok (.getfield 46, 3) := by decide +kernel
theorem dX9_setNumber_39 : decode cX9_setNumber 39 = .ok (.getfield 127, 3) := by decide +kernel
theorem dX9_setNumber_42 : decode cX9_setNumber 42 = .ok (.iload_n 1, 1) := by decide +kernel
theorem dX9_setNumber_43 : decode cX9_setNumber 43 = .ok (.aaload, 1) := by decide +kernel
theorem dX9_setNumber_44 : decode cX9_setNumber 44 = .ok (.iload_n 2, 1) := by decide +kernel
theorem dX9_setNumber_45 : decode cX9_setNumber 45 = .ok (.invokevirtual 144, 3) := by decide +kernel
theorem dX9_setNumber_48 : decode cX9_setNumber 48 = .ok (.istore 4, 2) := by decide +kernel
theorem dX9_setNumber_50 : decode cX9_setNumber 50 = .ok (.iload_n 3, 1) := by decide +kernel
theorem dX9_setNumber_51 : decode cX9_setNumber 51 = .ok (.iload 4, 2) := by decide +kernel
theorem dX9_setNumber_53 : decode cX9_setNumber 53 = .ok (.if_icmp .ne 6, 3) := by decide +kernel
theorem dX9_setNumber_56 : decode cX9_setNumber 56 = .ok (.bipush (-5), 2) := by decide +kernel
theorem dX9_setNumber_58 : decode cX9_setNumber 58 = .ok (.ireturn, 1) := by decide +kernel
theorem dX9_setNumber_59 : decode cX9_setNumber 59 = .ok (.aload_n 0, 1) := by decide +kernel
theorem dX9_setNumber_60 : decode cX9_setNumber 60 = .ok (.getfield 76, 3) := by decide +kernel
theorem dX9_setNumber_63 : decode cX9_setNumber 63 = .ok (.aload_n 0, 1) := by decide +kernel
theorem dX9_setNumber_64 : decode cX9_setNumber 64 = .ok (.getfield 46, 3) := by decide +kernel
theorem dX9_setNumber_67 : decode cX9_setNumber 67 = .ok (.invokevirtual 95, 3) := by decide +kernel
theorem dX9_setNumber_70 : decode cX9_setNumber 70 = .ok (.aload_n 0, 1) := by decide +kernel
theorem dX9_setNumber_71 : decode cX9_setNumber 71 = .ok (.getfield 46, 3) := by decide +kernel
theorem dX9_setNumber_74 : decode cX9_setNumber 74 = .ok (.getfield 127, 3) := by decide +kernel
theorem dX9_setNumber_77 : decode cX9_setNumber 77 = .ok (.iload_n 1, 1) := by decide +kernel
theorem dX9_setNumber_78 : decode cX9_setNumber 78 = .ok (.aaload, 1) := by decide +kernel
theorem dX9_setNumber_79 : decode cX9_setNumber 79 = .ok (.iload_n 2, 1) := by decide +kernel
theorem dX9_setNumber_80 : decode cX9_setNumber 80 = .ok (.iload_n 3, 1) := by decide +kernel
theorem dX9_setNumber_81 : decode cX9_setNumber 81 = .ok (.invokevirtual 148, 3) := by decide +kernel
theorem dX9_setNumber_84 : decode cX9_setNumber 84 = .ok (.iload 4, 2) := by decide +kernel
theorem dX9_setNumber_86 : decode cX9_setNumber 86 = .ok (.ireturn, 1) := by decide +kernel
theorem dX9_assign_0 : decode cX9_assign 0 = .ok (.aload_n 0, 1) := by decide +kernel
theorem dX9_assign_1 : decode cX9_assign 1 = .ok (.getfield 50, 3) := by decide +kernel
theorem dX9_assign_4 : decode cX9_assign 4 = .ok (.invokevirtual 152, 3) := by decide +kernel
theorem dX9_assign_7 : decode cX9_assign 7 = .ok (.istore_n 1, 1) := by decide +kernel
theorem dX9_assign_8 : decode cX9_assign 8 = .ok (.iload_n 1, 1) := by decide +kernel
theorem dX9_assign_9 : decode cX9_assign 9 = .ok (.ifCond .lt 8, 3) := by decide +kernel
theorem dX9_assign_12 : decode cX9_assign 12 = .ok (.bipush (-100), 2) := by decide +kernel
theorem dX9_assign_14 : decode cX9_assign 14 = .ok (.iload_n 1, 1) := by decide +kernel
theorem dX9_assign_15 : decode cX9_assign 15 = .ok (.isub, 1) := by decide +kernel
theorem dX9_assign_16 : decode cX9_assign 16 = .ok (.ireturn, 1) := by decide +kernel
theorem dX9_assign_17 : decode cX9_assign 17 = .ok (.aload_n 0, 1) := by decide +kernel
theorem dX9_assign_18 : decode cX9_assign 18 = .ok (.getfield 50, 3) := by decide +kernel
theorem dX9_assign_21 : decode cX9_assign 21 = .ok (.iconst 0, 1) := by decide +kernel
theorem dX9_assign_22 : decode cX9_assign 22 = .ok (.invokevirtual 155, 3) := by decide +kernel
theorem dX9_assign_25 : decode cX9_assign 25 = .ok (.bipush 97, 2) := by decide +kernel
theorem dX9_assign_27 : decode cX9_assign 27 = .ok (.isub, 1) := by decide +kernel
theorem dX9_assign_28 : decode cX9_assign 28 = .ok (.istore_n 2, 1) := by decide +kernel
theorem dX9_assign_29 : decode cX9_assign 29 = .ok (.iload_n 2, 1) := by decide +kernel
theorem dX9_assign_30 : decode cX9_assign 30 = .ok (.invokestatic 138, 3) := by decide +kernel
theorem dX9_assign_33 : decode cX9_assign 33 = .ok (.ifCond .ne 6, 3) := by decide +kernel
theorem dX9_assign_36 : decode cX9_assign 36 = .ok (.bipush (-100), 2) := by decide +kernel
theorem dX9_assign_38 : decode cX9_assign 38 = .ok (.ireturn, 1) := by decide +kernel
theorem dX9_assign_39 : decode cX9_assign 39 = .ok (.aload_n 0, 1) := by decide +kernel
theorem dX9_assign_40 : decode cX9_assign 40 = .ok (.getfield 76, 3) := by decide +kernel
theorem dX9_assign_43 : decode cX9_assign 43 = .ok (.aload_n 0, 1) := by decide +kernel
theorem dX9_assign_44 : decode cX9_assign 44 = .ok (.getfield 46, 3) := by decide +kernel
theorem dX9_assign_47 : decode cX9_assign 47 = .ok (.invokevirtual 95, 3) := by decide +kernel
theorem dX9_assign_50 : decode cX9_assign 50 = .ok (.aload_n 0, 1) := by decide +kernel
theorem dX9_assign_51 : decode cX9_assign 51 = .ok (.getfield 42, 3) := by decide +kernel
theorem dX9_assign_54 : decode cX9_assign 54 = .ok (.aload_n 0, 1) := by decide +kernel
theorem dX9_assign_55 : decode cX9_assign 55 = .ok (.getfield 46, 3) := by decide +kernel
theorem dX9_assign_58 : decode cX9_assign 58 = .ok (.getfield 127, 3) := by decide +kernel
theorem dX9_assign_61 : decode cX9_assign 61 = .ok (.iload_n 2, 1) := by decide +kernel
theorem dX9_assign_62 : decode cX9_assign 62 = .ok (.aaload, 1) := by decide +kernel
theorem dX9_assign_63 : decode cX9_assign 63 = .ok (.invokevirtual 156, 3) := by decide +kernel
theorem dX9_assign_66 : decode cX9_assign 66 = .ok (.aload_n 0, 1) := by decide +kernel
theorem dX9_assign_67 : decode cX9_assign 67 = .ok (.getfield 46, 3) := by decide +kernel
theorem dX9_assign_70 : decode cX9_assign 70 = .ok (.getfield 159, 3) := by decide +kernel
theorem dX9_assign_73 : decode cX9_assign 73 = .ok (.ireturn, 1) := by decide +kernel
theorem dX9_put_0 : decode cX9_put 0 = .ok (.iload_n 1, 1) := by decide +kernel
theorem dX9_put_1 : decode cX9_put 1 = .ok (.invokestatic 138, 3) := by decide +kernel
theorem dX9_put_4 : decode cX9_put 4 = .ok (.ifCond .eq 18, 3) := by decide +kernel
theorem dX9_put_7 : decode cX9_put 7 = .ok (.aload_n 0, 1) := by decide +kernel
theorem dX9_put_8 : decode cX9_put 8 = .ok (.iload_n 2, 1) := by decide +kernel
theorem dX9_put_9 : decode cX9_put 9 = .ok (.invokevirtual 162, 3) := by decide +kernel
theorem dX9_put_12 : decode cX9_put 12 = .ok (.ifCond .eq 10, 3) := by decide +kernel
theorem dX9_put_15 : decode cX9_put 15 = .ok (.iload_n 3, 1) := by decide +kernel
theorem dX9_put_16 : decode cX9_put 16 = .ok (.invokestatic 138, 3) := by decide +kernel
theorem dX9_put_19 : decode cX9_put 19 = .ok (.ifCond .ne 5, 3) := by decide +kernel
theorem dX9_put_22 : decode cX9_put 22 = .ok (.iconst (-1), 1) := by decide +kernel
theorem dX9_put_23 : decode cX9_put 23 = .ok (.ireturn, 1) := by decide +kernel
theorem dX9_put_24 : decode cX9_put 24 = .ok (.iload_n 1, 1) := by decide +kernel
theorem dX9_put_25 : decode cX9_put 25 = .ok (.iload_n 3, 1) := by decide +kernel
theorem dX9_put_26 : decode cX9_put 26 = .ok (.if_icmp .ne 6, 3) := by decide +kernel
theorem dX9_put_29 : decode cX9_put 29 = .ok (.bipush (-2), 2) := by decide +kernel
theorem dX9_put_31 : decode cX9_put 31 = .ok (.ireturn, 1) := by decide +kernel
theorem dX9_put_32 : decode cX9_put 32 = .ok (.aload_n 0, 1) := by decide +kernel
theorem dX9_put_33 : decode cX9_put 33 = .ok (.getfield 46, 3) := by decide +kernel
theorem dX9_put_36 : decode cX9_put 36 = .ok (.getfield 127, 3) := by decide +kernel
theorem dX9_put_39 : decode cX9_put 39 = .ok (.iload_n 1, 1) := by decide +kernel
theorem dX9_put_40 : decode cX9_put 40 = .ok (.aaload, 1) := by decide +kernel
theorem dX9_put_41 : decode cX9_put 41 = .ok (.astore 4, 2) := by decide +kernel
theorem dX9_put_43 : decode cX9_put 43 = .ok (.aload_n 0, 1) := by decide +kernel
theorem dX9_put_44 : decode cX9_put 44 = .ok (.getfield 58, 3) := by decide +kernel
theorem dX9_put_47 : decode cX9_put 47 = .ok (.aload_n 0, 1) := by decide +kernel
theorem dX9_put_48 : decode cX9_put 48 = .ok (.getfield 83, 3) := by decide +kernel
theorem dX9_put_51 : decode cX9_put 51 = .ok (.aload 4, 2) := by decide +kernel
theorem dX9_put_53 : decode cX9_put 53 = .ok (.aload_n 0, 1) := by decide +kernel
theorem dX9_put_54 : decode cX9_put 54 = .ok (.getfield 46, 3) := by decide +kernel
theorem dX9_put_57 : decode cX9_put 57 = .ok (.getfield 165, 3) := by decide +kernel
theorem dX9_put_60 : decode cX9_put 60 = .ok (.iload_n 2, 1) := by decide +kernel
theorem dX9_put_61 : decode cX9_put 61 = .ok (.aaload, 1) := by decide +kernel
theorem dX9_put_62 : decode cX9_put 62 = .ok (.aload_n 0, 1) := by decide +kernel
theorem dX9_put_63 : decode cX9_put 63 = .ok (.getfield 46, 3) := by decide +kernel
theorem dX9_put_66 : decode cX9_put 66 = .ok (.getfield 127, 3) := by decide +kernel
theorem dX9_put_69 : decode cX9_put 69 = .ok (.iload_n 3, 1) := by decide +kernel
theorem dX9_put_70 : decode cX9_put 70 = .ok (.aaload, 1) := by decide +kernel
theorem dX9_put_71 : decode cX9_put 71 = .ok (.invokevirtual 168, 3) := by decide +kernel
theorem dX9_put_74 : decode cX9_put 74 = .ok (.aload_n 0, 1) := by decide +kernel
theorem dX9_put_75 : decode cX9_put 75 = .ok (.getfield 62, 3) := by decide +kernel
theorem dX9_put_78 : decode cX9_put 78 = .ok (.aload 4, 2) := by decide +kernel
theorem dX9_put_80 : decode cX9_put 80 = .ok (.aload_n 0, 1) := by decide +kernel
theorem dX9_put_81 : decode cX9_put 81 = .ok (.getfield 83, 3) := by decide +kernel
theorem dX9_put_84 : decode cX9_put 84 = .ok (.invokevirtual 172, 3) := by decide +kernel
theorem dX9_put_87 : decode cX9_put 87 = .ok (.istore 5, 2) := by decide +kernel
theorem dX9_put_89 : decode cX9_put 89 = .ok (.iload 5, 2) := by decide +kernel
theorem dX9_put_91 : decode cX9_put 91 = .ok (.ifCond .ne 6, 3) := by decide +kernel
theorem dX9_put_94 : decode cX9_put 94 = .ok (.bipush (-5), 2) := by decide +kernel
theorem dX9_put_96 : decode cX9_put 96 = .ok (.ireturn, 1) := by decide +kernel
theorem dX9_put_97 : decode cX9_put 97 = .ok (.aload_n 0, 1) := by decide +kernel
theorem dX9_put_98 : decode cX9_put 98 = .ok (.getfield 76, 3) := by decide +kernel
theorem dX9_put_101 : decode cX9_put 101 = .ok (.aload_n 0, 1) := by decide +kernel
theorem dX9_put_102 : decode cX9_put 102 = .ok (.getfield 46, 3) := by decide +kernel
theorem dX9_put_105 : decode cX9_put 105 = .ok (.invokevirtual 95, 3) := by decide +kernel
theorem dX9_put_108 : decode cX9_put 108 = .ok (.aload 4, 2) := by decide +kernel
theorem dX9_put_110 : decode cX9_put 110 = .ok (.aload_n 0, 1) := by decide +kernel
theorem dX9_put_111 : decode cX9_put 111 = .ok (.getfield 83, 3) := by decide +kernel
theorem dX9_put_114 : decode cX9_put 114 = .ok (.invokevirtual 176, 3) := by decide +kernel
theorem dX9_put_117 : decode cX9_put 117 = .ok (.iload 5, 2) := by decide +kernel
theorem dX9_put_119 : decode cX9_put 119 = .ok (.ireturn, 1) := by decide +kernel
theorem dX9_part_0 : decode cX9_part 0 = .ok (.iload_n 1, 1) := by decide +kernel
theorem dX9_part_1 : decode cX9_part 1 = .ok (.invokestatic 138, 3) := by decide +kernel
theorem dX9_part_4 : decode cX9_part 4 = .ok (.ifCond .ne 5, 3) := by decide +kernel
theorem dX9_part_7 : decode cX9_part 7 = .ok (.iconst (-1), 1) := by decide +kernel
theorem dX9_part_8 : decode cX9_part 8 = .ok (.ireturn, 1) := by decide +kernel
theorem dX9_part_9 : decode cX9_part 9 = .ok (.aload_n 0, 1) := by decide +kernel
theorem dX9_part_10 : decode cX9_part 10 = .ok (.getfield 46, 3) := by decide +kernel
theorem dX9_part_13 : decode cX9_part 13 = .ok (.getfield 127, 3) := by decide +kernel
theorem dX9_part_16 : decode cX9_part 16 = .ok (.iload_n 1, 1) := by decide +kernel
theorem dX9_part_17 : decode cX9_part 17 = .ok (.aaload, 1) := by decide +kernel
theorem dX9_part_18 : decode cX9_part 18 = .ok (.astore_n 2, 1) := by decide +kernel
theorem dX9_part_19 : decode cX9_part 19 = .ok (.aload_n 0, 1) := by decide +kernel
theorem dX9_part_20 : decode cX9_part 20 = .ok (.getfield 62, 3) := by decide +kernel
theorem dX9_part_23 : decode cX9_part 23 = .ok (.aload_n 2, 1) := by decide +kernel
theorem dX9_part_24 : decode cX9_part 24 = .ok (.iconst 2, 1) := by decide +kernel
theorem dX9_part_25 : decode cX9_part 25 = .ok (.invokevirtual 179, 3) := by decide +kernel
theorem dX9_part_28 : decode cX9_part 28 = .ok (.ifCond .ne 6, 3) := by decide +kernel
theorem dX9_part_31 : decode cX9_part 31 = .ok (.bipush (-5), 2) := by decide +kernel
theorem dX9_part_33 : decode cX9_part 33 = .ok (.ireturn, 1) := by decide +kernel
theorem dX9_part_34 : decode cX9_part 34 = .ok (.aload_n 0, 1) := by decide +kernel
theorem dX9_part_35 : decode cX9_part 35 = .ok (.getfield 76, 3) := by decide +kernel
theorem dX9_part_38 : decode cX9_part 38 = .ok (.aload_n 0, 1) := by decide +kernel
theorem dX9_part_39 : decode cX9_part 39 = .ok (.getfield 46, 3) := by decide +kernel
theorem dX9_part_42 : decode cX9_part 42 = .ok (.invokevirtual 95, 3) := by decide +kernel
theorem dX9_part_45 : decode cX9_part 45 = .ok (.aload_n 0, 1) := by decide +kernel
theorem dX9_part_46 : decode cX9_part 46 = .ok (.getfield 62, 3) := by decide +kernel
theorem dX9_part_49 : decode cX9_part 49 = .ok (.aload_n 2, 1) := by decide +kernel
theorem dX9_part_50 : decode cX9_part 50 = .ok (.invokevirtual 183, 3) := by decide +kernel
theorem dX9_part_53 : decode cX9_part 53 = .ok (.aload_n 0, 1) := by decide +kernel
theorem dX9_part_54 : decode cX9_part 54 = .ok (.getfield 62, 3) := by decide +kernel
theorem dX9_part_57 : decode cX9_part 57 = .ok (.aload_n 2, 1) := by decide +kernel
theorem dX9_part_58 : decode cX9_part 58 = .ok (.iconst 0, 1) := by decide +kernel
theorem dX9_part_59 : decode cX9_part 59 = .ok (.invokevirtual 179, 3) := by decide +kernel
theorem dX9_part_62 : decode cX9_part 62 = .ok (.ireturn, 1) := by decide +kernel
theorem dX9_partByDegrees_0 : decode cX9_partByDegrees 0 = .ok (.aload_n 0, 1) := by decide +kernel
theorem dX9_partByDegrees_1 : decode cX9_partByDegrees 1 = .ok (.getfield 31, 3) := by decide +kernel
theorem dX9_partByDegrees_4 : decode cX9_partByDegrees 4 = .ok (.invokevirtual 186, 3) := by decide +kernel
theorem dX9_partByDegrees_7 : decode cX9_partByDegrees 7 = .ok (.iconst 0, 1) := by decide +kernel
theorem dX9_partByDegrees_8 : decode cX9_partByDegrees 8 = .ok (.istore_n 1, 1) := by decide +kernel
theorem dX9_partByDegrees_9 : decode cX9_partByDegrees 9 = .ok (.iconst 1, 1) := by decide +kernel
theorem dX9_partByDegrees_10 : decode cX9_partByDegrees 10 = .ok (.istore_n 2, 1) := by decide +kernel
theorem dX9_partByDegrees_11 : decode cX9_partByDegrees 11 = .ok (.iload_n 2, 1) := by decide +kernel
theorem dX9_partByDegrees_12 : decode cX9_partByDegrees 12 = .ok (.bipush 6, 2) := by decide +kernel
theorem dX9_partByDegrees_14 : decode cX9_partByDegrees 14 = .ok (.if_icmp .gt 39, 3) := by decide +kernel
theorem dX9_partByDegrees_17 : decode cX9_partByDegrees 17 = .ok (.iload_n 1, 1) := by decide +kernel
theorem dX9_partByDegrees_18 : decode cX9_partByDegrees 18 = .ok (.ifCond .ne 23, 3) := by decide +kernel
theorem dX9_partByDegrees_21 : decode cX9_partByDegrees 21 = .ok (.aload_n 0, 1) := by decide +kernel
theorem dX9_partByDegrees_22 : decode cX9_partByDegrees 22 = .ok (.getfield 62, 3) := by decide +kernel
theorem dX9_partByDegrees_25 : decode cX9_partByDegrees 25 = .ok (.aload_n 0, 1) := by decide +kernel
theorem dX9_partByDegrees_26 : decode cX9_partByDegrees 26 = .ok (.getfield 31, 3) := by decide +kernel
theorem dX9_partByDegrees_29 : decode cX9_partByDegrees 29 = .ok (.getfield 189, 3) := by decide +kernel
theorem dX9_partByDegrees_32 : decode cX9_partByDegrees 32 = .ok (.iload_n 2, 1) := by decide +kernel
theorem dX9_partByDegrees_33 : decode cX9_partByDegrees 33 = .ok (.aaload, 1) := by decide +kernel
theorem dX9_partByDegrees_34 : decode cX9_partByDegrees 34 = .ok (.iconst 2, 1) := by decide +kernel
theorem dX9_partByDegrees_35 : decode cX9_partByDegrees 35 = .ok (.invokevirtual 179, 3) := by decide +kernel
theorem dX9_partByDegrees_38 : decode cX9_partByDegrees 38 = .ok (.ifCond .le 7, 3) := by decide +kernel
theorem dX9_partByDegrees_41 : decode cX9_partByDegrees 41 = .ok (.iconst 1, 1) := by decide +kernel
theorem dX9_partByDegrees_42 : decode cX9_partByDegrees 42 = .ok (.goto 4, 3) := by decide +kernel
theorem dX9_partByDegrees_45 : decode cX9_partByDegrees 45 = .ok (.iconst 0, 1) := by decide +kernel
theorem dX9_partByDegrees_46 : decode cX9_partByDegrees 46 = .ok (.istore_n 1, 1) := by decide +kernel
theorem dX9_partByDegrees_47 : decode cX9_partByDegrees 47 = .ok (.iinc 2 1, 3) := by decide +kernel
theorem dX9_partByDegrees_50 : decode cX9_partByDegrees 50 = .ok (.goto (-39), 3) := by decide +kernel
theorem dX9_partByDegrees_53 : decode cX9_partByDegrees 53 = .ok (.iload_n 1, 1) := by decide +kernel
theorem dX9_partByDegrees_54 : decode cX9_partByDegrees 54 = .ok (.ifCond .ne 6, 3) := by decide +kernel
theorem dX9_partByDegrees_57 : decode cX9_partByDegrees 57 = .ok (.bipush (-5), 2) := by decide +kernel
theorem dX9_partByDegrees_59 : decode cX9_partByDegrees 59 = .ok (.ireturn, 1) := by decide +kernel
theorem dX9_partByDegrees_60 : decode cX9_partByDegrees 60 = .ok (.aload_n 0, 1) := by decide +kernel
theorem dX9_partByDegrees_61 : decode cX9_partByDegrees 61 = .ok (.getfield 76, 3) := by decide +kernel
theorem dX9_partByDegrees_64 : decode cX9_partByDegrees 64 = .ok (.aload_n 0, 1) := by decide +kernel
theorem dX9_partByDegrees_65 : decode cX9_partByDegrees 65 = .ok (.getfield 46, 3) := by decide +kernel
theorem dX9_partByDegrees_68 : decode cX9_partByDegrees 68 = .ok (.invokevirtual 95, 3) := by decide +kernel
theorem dX9_partByDegrees_71 : decode cX9_partByDegrees 71 = .ok (.iconst 1, 1) := by decide +kernel
theorem dX9_partByDegrees_72 : decode cX9_partByDegrees 72 = .ok (.istore_n 2, 1) := by decide +kernel
theorem dX9_partByDegrees_73 : decode cX9_partByDegrees 73 = .ok (.iload_n 2, 1) := by decide +kernel
theorem dX9_partByDegrees_74 : decode cX9_partByDegrees 74 = .ok (.bipush 6, 2) := by decide +kernel
theorem dX9_partByDegrees_76 : decode cX9_partByDegrees 76 = .ok (.if_icmp .gt 25, 3) := by decide +kernel
theorem dX9_partByDegrees_79 : decode cX9_partByDegrees 79 = .ok (.aload_n 0, 1) := by decide +kernel
theorem dX9_partByDegrees_80 : decode cX9_partByDegrees 80 = .ok (.getfield 62, 3) := by decide +kernel
theorem dX9_partByDegrees_83 : decode cX9_partByDegrees 83 = .ok (.aload_n 0, 1) := by decide +kernel
theorem dX9_partByDegrees_84 : decode cX9_partByDegrees 84 = .ok (.getfield 31, 3) := by decide +kernel
theorem dX9_partByDegrees_87 : decode cX9_partByDegrees 87 = .ok (.getfield 189, 3) := by decide +kernel
theorem dX9_partByDegrees_90 : decode cX9_partByDegrees 90 = .ok (.iload_n 2, 1) := by decide +kernel
theorem dX9_partByDegrees_91 : decode cX9_partByDegrees 91 = .ok (.aaload, 1) := by decide +kernel
theorem dX9_partByDegrees_92 : decode cX9_partByDegrees 92 = .ok (.invokevirtual 183, 3) := by decide +kernel
theorem dX9_partByDegrees_95 : decode cX9_partByDegrees 95 = .ok (.iinc 2 1, 3) := by decide +kernel
theorem dX9_partByDegrees_98 : decode cX9_partByDegrees 98 = .ok (.goto (-25), 3) := by decide +kernel
theorem dX9_partByDegrees_101 : decode cX9_partByDegrees 101 = .ok (.aload_n 0, 1) := by decide +kernel
theorem dX9_partByDegrees_102 : decode cX9_partByDegrees 102 = .ok (.getfield 46, 3) := by decide +kernel
theorem dX9_partByDegrees_105 : decode cX9_partByDegrees 105 = .ok (.getfield 159, 3) := by decide +kernel
theorem dX9_partByDegrees_108 : decode cX9_partByDegrees 108 = .ok (.ireturn, 1) := by decide +kernel
theorem dX9_join_0 : decode cX9_join 0 = .ok (.aload_n 0, 1) := by decide +kernel
theorem dX9_join_1 : decode cX9_join 1 = .ok (.iload_n 1, 1) := by decide +kernel
theorem dX9_join_2 : decode cX9_join 2 = .ok (.invokevirtual 162, 3) := by decide +kernel
theorem dX9_join_5 : decode cX9_join 5 = .ok (.ifCond .eq 11, 3) := by decide +kernel
theorem dX9_join_8 : decode cX9_join 8 = .ok (.aload_n 0, 1) := by decide +kernel
theorem dX9_join_9 : decode cX9_join 9 = .ok (.iload_n 2, 1) := by decide +kernel
theorem dX9_join_10 : decode cX9_join 10 = .ok (.invokevirtual 162, 3) := by decide +kernel
theorem dX9_join_13 : decode cX9_join 13 = .ok (.ifCond .ne 5, 3) := by decide +kernel
theorem dX9_join_16 : decode cX9_join 16 = .ok (.iconst (-1), 1) := by decide +kernel
theorem dX9_join_17 : decode cX9_join 17 = .ok (.ireturn, 1) := by decide +kernel
theorem dX9_join_18 : decode cX9_join 18 = .ok (.iload_n 1, 1) := by decide +kernel
theorem dX9_join_19 : decode cX9_join 19 = .ok (.iload_n 2, 1) := by decide +kernel
theorem dX9_join_20 : decode cX9_join 20 = .ok (.if_icmp .ne 6, 3) := by decide +kernel
theorem dX9_join_23 : decode cX9_join 23 = .ok (.bipush (-2), 2) := by decide +kernel
theorem dX9_join_25 : decode cX9_join 25 = .ok (.ireturn, 1) := by decide +kernel
theorem dX9_join_26 : decode cX9_join 26 = .ok (.aload_n 0, 1) := by decide +kernel
theorem dX9_join_27 : decode cX9_join 27 = .ok (.getfield 76, 3) := by decide +kernel
theorem dX9_join_30 : decode cX9_join 30 = .ok (.aload_n 0, 1) := by decide +kernel
theorem dX9_join_31 : decode cX9_join 31 = .ok (.getfield 46, 3) := by decide +kernel
theorem dX9_join_34 : decode cX9_join 34 = .ok (.invokevirtual 95, 3) := by decide +kernel
theorem dX9_join_37 : decode cX9_join 37 = .ok (.aload_n 0, 1) := by decide +kernel
theorem dX9_join_38 : decode cX9_join 38 = .ok (.getfield 62, 3) := by decide +kernel
theorem dX9_join_41 : decode cX9_join 41 = .ok (.iload_n 1, 1) := by decide +kernel
theorem dX9_join_42 : decode cX9_join 42 = .ok (.iload_n 2, 1) := by decide +kernel
theorem dX9_join_43 : decode cX9_join 43 = .ok (.invokevirtual 192, 3) := by decide +kernel
theorem dX9_join_46 : decode cX9_join 46 = .ok (.ireturn, 1) := by decide +kernel
theorem dX9_joinAlike_0 : decode cX9_joinAlike 0 = .ok (.iload_n 1, 1) := by decide +kernel
theorem dX9_joinAlike_1 : decode cX9_joinAlike 1 = .ok (.invokestatic 138, 3) := by decide +kernel
theorem dX9_joinAlike_4 : decode cX9_joinAlike 4 = .ok (.ifCond .ne 5, 3) := by decide +kernel
theorem dX9_joinAlike_7 : decode cX9_joinAlike 7 = .ok (.iconst (-1), 1) := by decide +kernel
theorem dX9_joinAlike_8 : decode cX9_joinAlike 8 = .ok (.ireturn, 1) := by decide +kernel
theorem dX9_joinAlike_9 : decode cX9_joinAlike 9 = .ok (.aload_n 0, 1) := by decide +kernel
theorem dX9_joinAlike_10 : decode cX9_joinAlike 10 = .ok (.getfield 46, 3) := by decide +kernel
theorem dX9_joinAlike_13 : decode cX9_joinAlike 13 = .ok (.getfield 127, 3) := by decide +kernel
theorem dX9_joinAlike_16 : decode cX9_joinAlike 16 = .ok (.iload_n 1, 1) := by decide +kernel
theorem dX9_joinAlike_17 : decode cX9_joinAlike 17 = .ok (.aaload, 1) := by decide +kernel
theorem dX9_joinAlike_18 : decode cX9_joinAlike 18 = .ok (.astore_n 2, 1) := by decide +kernel
theorem dX9_joinAlike_19 : decode cX9_joinAlike 19 = .ok (.aload_n 0, 1) := by decide +kernel
theorem dX9_joinAlike_20 : decode cX9_joinAlike 20 = .ok (.getfield 62, 3) := by decide +kernel
theorem dX9_joinAlike_23 : decode cX9_joinAlike 23 = .ok (.aload_n 2, 1) := by decide +kernel
theorem dX9_joinAlike_24 : decode cX9_joinAlike 24 = .ok (.iconst 2, 1) := by decide +kernel
theorem dX9_joinAlike_25 : decode cX9_joinAlike 25 = .ok (.invokevirtual 179, 3) := by decide +kernel
theorem dX9_joinAlike_28 : decode cX9_joinAlike 28 = .ok (.ifCond .le 6, 3) := by decide +kernel
theorem dX9_joinAlike_31 : decode cX9_joinAlike 31 = .ok (.bipush (-4), 2) := by decide +kernel
theorem dX9_joinAlike_33 : decode cX9_joinAlike 33 = .ok (.ireturn, 1) := by decide +kernel
theorem dX9_joinAlike_34 : decode cX9_joinAlike 34 = .ok (.aload_n 0, 1) := by decide +kernel
theorem dX9_joinAlike_35 : decode cX9_joinAlike 35 = .ok (.getfield 62, 3) := by decide +kernel
theorem dX9_joinAlike_38 : decode cX9_joinAlike 38 = .ok (.aload_n 2, 1) := by decide +kernel
theorem dX9_joinAlike_39 : decode cX9_joinAlike 39 = .ok (.iconst 0, 1) := by decide +kernel
theorem dX9_joinAlike_40 : decode cX9_joinAlike 40 = .ok (.invokevirtual 179, 3) := by decide +kernel
theorem dX9_joinAlike_43 : decode cX9_joinAlike 43 = .ok (.iconst 2, 1) := by decide +kernel
theorem dX9_joinAlike_44 : decode cX9_joinAlike 44 = .ok (.if_icmp .ge 19, 3) := by decide +kernel
theorem dX9_joinAlike_47 : decode cX9_joinAlike 47 = .ok (.aload_n 0, 1) := by decide +kernel
theorem dX9_joinAlike_48 : decode cX9_joinAlike 48 = .ok (.getfield 62, 3) := by decide +kernel
theorem dX9_joinAlike_51 : decode cX9_joinAlike 51 = .ok (.aload_n 2, 1) := by decide +kernel
theorem dX9_joinAlike_52 : decode cX9_joinAlike 52 = .ok (.iconst 1, 1) := by decide +kernel
theorem dX9_joinAlike_53 : decode cX9_joinAlike 53 = .ok (.invokevirtual 179, 3) := by decide +kernel
theorem dX9_joinAlike_56 : decode cX9_joinAlike 56 = .ok (.iconst 2, 1) := by decide +kernel
theorem dX9_joinAlike_57 : decode cX9_joinAlike 57 = .ok (.if_icmp .ge 6, 3) := by decide +kernel
theorem dX9_joinAlike_60 : decode cX9_joinAlike 60 = .ok (.bipush (-5), 2) := by decide +kernel
theorem dX9_joinAlike_62 : decode cX9_joinAlike 62 = .ok (.ireturn, 1) := by decide +kernel
theorem dX9_joinAlike_63 : decode cX9_joinAlike 63 = .ok (.aload_n 0, 1) := by decide +kernel
theorem dX9_joinAlike_64 : decode cX9_joinAlike 64 = .ok (.getfield 76, 3) := by decide +kernel
theorem dX9_joinAlike_67 : decode cX9_joinAlike 67 = .ok (.aload_n 0, 1) := by decide +kernel
theorem dX9_joinAlike_68 : decode cX9_joinAlike 68 = .ok (.getfield 46, 3) := by decide +kernel
theorem dX9_joinAlike_71 : decode cX9_joinAlike 71 = .ok (.invokevirtual 95, 3) := by decide +kernel
theorem dX9_joinAlike_74 : decode cX9_joinAlike 74 = .ok (.aload_n 0, 1) := by decide +kernel
theorem dX9_joinAlike_75 : decode cX9_joinAlike 75 = .ok (.getfield 62, 3) := by decide +kernel
theorem dX9_joinAlike_78 : decode cX9_joinAlike 78 = .ok (.aload_n 2, 1) := by decide +kernel
theorem dX9_joinAlike_79 : decode cX9_joinAlike 79 = .ok (.invokevirtual 196, 3) := by decide +kernel
theorem dX9_joinAlike_82 : decode cX9_joinAlike 82 = .ok (.aload_n 0, 1) := by decide +kernel
theorem dX9_joinAlike_83 : decode cX9_joinAlike 83 = .ok (.getfield 46, 3) := by decide +kernel
theorem dX9_joinAlike_86 : decode cX9_joinAlike 86 = .ok (.getfield 159, 3) := by decide +kernel
theorem dX9_joinAlike_89 : decode cX9_joinAlike 89 = .ok (.ireturn, 1) := by decide +kernel
theorem dX9_type_0 : decode cX9_type 0 = .ok (.aload_n 0, 1) := by decide +kernel
theorem dX9_type_1 : decode cX9_type 1 = .ok (.getfield 50, 3) := by decide +kernel
theorem dX9_type_4 : decode cX9_type 4 = .ok (.iload_n 1, 1) := by decide +kernel
theorem dX9_type_5 : decode cX9_type 5 = .ok (.invokevirtual 199, 3) := by decide +kernel
theorem dX9_type_8 : decode cX9_type 8 = .ok (.ifCond .eq 13, 3) := by decide +kernel
theorem dX9_type_11 : decode cX9_type 11 = .ok (.aload_n 0, 1) := by decide +kernel
theorem dX9_type_12 : decode cX9_type 12 = .ok (.getfield 50, 3) := by decide +kernel
theorem dX9_type_15 : decode cX9_type 15 = .ok (.getfield 203, 3) := by decide +kernel
theorem dX9_type_18 : decode cX9_type 18 = .ok (.goto 5, 3) := by decide +kernel
theorem dX9_type_21 : decode cX9_type 21 = .ok (.bipush (-3), 2) := by decide +kernel
theorem dX9_type_23 : decode cX9_type 23 = .ok (.ireturn, 1) := by decide +kernel
theorem dX9_clearText_0 : decode cX9_clearText 0 = .ok (.aload_n 0, 1) := by decide +kernel
theorem dX9_clearText_1 : decode cX9_clearText 1 = .ok (.getfield 50, 3) := by decide +kernel
theorem dX9_clearText_4 : decode cX9_clearText 4 = .ok (.getfield 203, 3) := by decide +kernel
theorem dX9_clearText_7 : decode cX9_clearText 7 = .ok (.istore_n 1, 1) := by decide +kernel
theorem dX9_clearText_8 : decode cX9_clearText 8 = .ok (.aload_n 0, 1) := by decide +kernel
theorem dX9_clearText_9 : decode cX9_clearText 9 = .ok (.getfield 50, 3) := by decide +kernel
theorem dX9_clearText_12 : decode cX9_clearText 12 = .ok (.iconst 0, 1) := by decide +kernel
theorem dX9_clearText_13 : decode cX9_clearText 13 = .ok (.putfield 203, 3) := by decide +kernel
theorem dX9_clearText_16 : decode cX9_clearText 16 = .ok (.iload_n 1, 1) := by decide +kernel
theorem dX9_clearText_17 : decode cX9_clearText 17 = .ok (.ireturn, 1) := by decide +kernel
theorem dX9_undo_0 : decode cX9_undo 0 = .ok (.aload_n 0, 1) := by decide +kernel
theorem dX9_undo_1 : decode cX9_undo 1 = .ok (.getfield 76, 3) := by decide +kernel
theorem dX9_undo_4 : decode cX9_undo 4 = .ok (.getfield 206, 3) := by decide +kernel
theorem dX9_undo_7 : decode cX9_undo 7 = .ok (.ifCond .ne 6, 3) := by decide +kernel
theorem dX9_undo_10 : decode cX9_undo 10 = .ok (.bipush (-5), 2) := by decide +kernel
theorem dX9_undo_12 : decode cX9_undo 12 = .ok (.ireturn, 1) := by decide +kernel
theorem dX9_undo_13 : decode cX9_undo 13 = .ok (.aload_n 0, 1) := by decide +kernel
theorem dX9_undo_14 : decode cX9_undo 14 = .ok (.getfield 76, 3) := by decide +kernel
theorem dX9_undo_17 : decode cX9_undo 17 = .ok (.aload_n 0, 1) := by decide +kernel
theorem dX9_undo_18 : decode cX9_undo 18 = .ok (.getfield 46, 3) := by decide +kernel
theorem dX9_undo_21 : decode cX9_undo 21 = .ok (.invokevirtual 207, 3) := by decide +kernel
theorem dX9_undo_24 : decode cX9_undo 24 = .ok (.aload_n 0, 1) := by decide +kernel
theorem dX9_undo_25 : decode cX9_undo 25 = .ok (.getfield 76, 3) := by decide +kernel
theorem dX9_undo_28 : decode cX9_undo 28 = .ok (.getfield 206, 3) := by decide +kernel
theorem dX9_undo_31 : decode cX9_undo 31 = .ok (.ireturn, 1) := by decide +kernel
theorem dX9_keep_0 : decode cX9_keep 0 = .ok (.aload_n 0, 1) := by decide +kernel
theorem dX9_keep_1 : decode cX9_keep 1 = .ok (.getfield 66, 3) := by decide +kernel
theorem dX9_keep_4 : decode cX9_keep 4 = .ok (.aload_n 0, 1) := by decide +kernel
theorem dX9_keep_5 : decode cX9_keep 5 = .ok (.getfield 46, 3) := by decide +kernel
theorem dX9_keep_8 : decode cX9_keep 8 = .ok (.invokevirtual 210, 3) := by decide +kernel
theorem dX9_keep_11 : decode cX9_keep 11 = .ok (.aload_n 0, 1) := by decide +kernel
theorem dX9_keep_12 : decode cX9_keep 12 = .ok (.iconst 1, 1) := by decide +kernel
theorem dX9_keep_13 : decode cX9_keep 13 = .ok (.putfield 69, 3) := by decide +kernel
theorem dX9_keep_16 : decode cX9_keep 16 = .ok (.aload_n 0, 1) := by decide +kernel
theorem dX9_keep_17 : decode cX9_keep 17 = .ok (.getfield 46, 3) := by decide +kernel
theorem dX9_keep_20 : decode cX9_keep 20 = .ok (.getfield 159, 3) := by decide +kernel
theorem dX9_keep_23 : decode cX9_keep 23 = .ok (.ireturn, 1) := by decide +kernel
theorem dX9_restore_0 : decode cX9_restore 0 = .ok (.aload_n 0, 1) := by decide +kernel
theorem dX9_restore_1 : decode cX9_restore 1 = .ok (.getfield 69, 3) := by decide +kernel
theorem dX9_restore_4 : decode cX9_restore 4 = .ok (.ifCond .ne 6, 3) := by decide +kernel
theorem dX9_restore_7 : decode cX9_restore 7 = .ok (.bipush (-5), 2) := by decide +kernel
theorem dX9_restore_9 : decode cX9_restore 9 = .ok (.ireturn, 1) := by decide +kernel
theorem dX9_restore_10 : decode cX9_restore 10 = .ok (.aload_n 0, 1) := by decide +kernel
theorem dX9_restore_11 : decode cX9_restore 11 = .ok (.getfield 76, 3) := by decide +kernel
theorem dX9_restore_14 : decode cX9_restore 14 = .ok (.aload_n 0, 1) := by decide +kernel
theorem dX9_restore_15 : decode cX9_restore 15 = .ok (.getfield 46, 3) := by decide +kernel
theorem dX9_restore_18 : decode cX9_restore 18 = .ok (.invokevirtual 95, 3) := by decide +kernel
theorem dX9_restore_21 : decode cX9_restore 21 = .ok (.aload_n 0, 1) := by decide +kernel
theorem dX9_restore_22 : decode cX9_restore 22 = .ok (.getfield 46, 3) := by decide +kernel
theorem dX9_restore_25 : decode cX9_restore 25 = .ok (.aload_n 0, 1) := by decide +kernel
theorem dX9_restore_26 : decode cX9_restore 26 = .ok (.getfield 66, 3) := by decide +kernel
theorem dX9_restore_29 : decode cX9_restore 29 = .ok (.invokevirtual 210, 3) := by decide +kernel
theorem dX9_restore_32 : decode cX9_restore 32 = .ok (.aload_n 0, 1) := by decide +kernel
theorem dX9_restore_33 : decode cX9_restore 33 = .ok (.getfield 46, 3) := by decide +kernel
theorem dX9_restore_36 : decode cX9_restore 36 = .ok (.getfield 159, 3) := by decide +kernel
theorem dX9_restore_39 : decode cX9_restore 39 = .ok (.ireturn, 1) := by decide +kernel
theorem dX9_modulus_0 : decode cX9_modulus 0 = .ok (.aload_n 0, 1) := by decide +kernel
theorem dX9_modulus_1 : decode cX9_modulus 1 = .ok (.getfield 46, 3) := by decide +kernel
theorem dX9_modulus_4 : decode cX9_modulus 4 = .ok (.getfield 118, 3) := by decide +kernel
theorem dX9_modulus_7 : decode cX9_modulus 7 = .ok (.iload_n 1, 1) := by decide +kernel
theorem dX9_modulus_8 : decode cX9_modulus 8 = .ok (.invokestatic 212, 3) := by decide +kernel
theorem dX9_modulus_11 : decode cX9_modulus 11 = .ok (.ireturn, 1) := by decide +kernel
theorem dX9_number_0 : decode cX9_number 0 = .ok (.iload_n 1, 1) := by decide +kernel
theorem dX9_number_1 : decode cX9_number 1 = .ok (.invokestatic 138, 3) := by decide +kernel
theorem dX9_number_4 : decode cX9_number 4 = .ok (.ifCond .ne 5, 3) := by decide +kernel
theorem dX9_number_7 : decode cX9_number 7 = .ok (.iconst (-1), 1) := by decide +kernel
theorem dX9_number_8 : decode cX9_number 8 = .ok (.ireturn, 1) := by decide +kernel
theorem dX9_number_9 : decode cX9_number 9 = .ok (.aload_n 0, 1) := by decide +kernel
theorem dX9_number_10 : decode cX9_number 10 = .ok (.iload_n 2, 1) := by decide +kernel
theorem dX9_number_11 : decode cX9_number 11 = .ok (.invokevirtual 141, 3) := by decide +kernel
theorem dX9_number_14 : decode cX9_number 14 = .ok (.ifCond .eq 19, 3) := by decide +kernel
theorem dX9_number_17 : decode cX9_number 17 = .ok (.aload_n 0, 1) := by decide +kernel
theorem dX9_number_18 : decode cX9_number 18 = .ok (.getfield 46, 3) := by decide +kernel
theorem dX9_number_21 : decode cX9_number 21 = .ok (.getfield 127, 3) := by decide +kernel
theorem dX9_number_24 : decode cX9_number 24 = .ok (.iload_n 1, 1) := by decide +kernel
theorem dX9_number_25 : decode cX9_number 25 = .ok (.aaload, 1) := by decide +kernel
theorem dX9_number_26 : decode cX9_number 26 = .ok (.iload_n 2, 1) := by decide +kernel
theorem dX9_number_27 : decode cX9_number 27 = .ok (.invokevirtual 144, 3) := by decide +kernel
theorem dX9_number_30 : decode cX9_number 30 = .ok (.goto 5, 3) := by decide +kernel
theorem dX9_number_33 : decode cX9_number 33 = .ok (.bipush (-2), 2) := by decide +kernel
theorem dX9_number_35 : decode cX9_number 35 = .ok (.ireturn, 1) := by decide +kernel
theorem dX9_branch_0 : decode cX9_branch 0 = .ok (.aload_n 0, 1) := by decide +kernel
theorem dX9_branch_1 : decode cX9_branch 1 = .ok (.iload_n 1, 1) := by decide +kernel
theorem dX9_branch_2 : decode cX9_branch 2 = .ok (.invokevirtual 162, 3) := by decide +kernel
theorem dX9_branch_5 : decode cX9_branch 5 = .ok (.ifCond .eq 19, 3) := by decide +kernel
theorem dX9_branch_8 : decode cX9_branch 8 = .ok (.aload_n 0, 1) := by decide +kernel
theorem dX9_branch_9 : decode cX9_branch 9 = .ok (.getfield 46, 3) := by decide +kernel
theorem dX9_branch_12 : decode cX9_branch 12 = .ok (.getfield 165, 3) := by decide +kernel
theorem dX9_branch_15 : decode cX9_branch 15 = .ok (.iload_n 1, 1) := by decide +kernel
theorem dX9_branch_16 : decode cX9_branch 16 = .ok (.aaload, 1) := by decide +kernel
theorem dX9_branch_17 : decode cX9_branch 17 = .ok (.iload_n 2, 1) := by decide +kernel
theorem dX9_branch_18 : decode cX9_branch 18 = .ok (.invokestatic 212, 3) := by decide +kernel
theorem dX9_branch_21 : decode cX9_branch 21 = .ok (.goto 4, 3) := by decide +kernel
theorem dX9_branch_24 : decode cX9_branch 24 = .ok (.iconst (-1), 1) := by decide +kernel
theorem dX9_branch_25 : decode cX9_branch 25 = .ok (.ireturn, 1) := by decide +kernel
theorem dX9_seen_0 : decode cX9_seen 0 = .ok (.iload_n 1, 1) := by decide +kernel
theorem dX9_seen_1 : decode cX9_seen 1 = .ok (.invokestatic 138, 3) := by decide +kernel
theorem dX9_seen_4 : decode cX9_seen 4 = .ok (.ifCond .eq 11, 3) := by decide +kernel
theorem dX9_seen_7 : decode cX9_seen 7 = .ok (.aload_n 0, 1) := by decide +kernel
theorem dX9_seen_8 : decode cX9_seen 8 = .ok (.iload_n 2, 1) := by decide +kernel
theorem dX9_seen_9 : decode cX9_seen 9 = .ok (.invokevirtual 162, 3) := by decide +kernel
theorem dX9_seen_12 : decode cX9_seen 12 = .ok (.ifCond .ne 5, 3) := by decide +kernel
theorem dX9_seen_15 : decode cX9_seen 15 = .ok (.iconst (-1), 1) := by decide +kernel
theorem dX9_seen_16 : decode cX9_seen 16 = .ok (.ireturn, 1) := by decide +kernel
theorem dX9_seen_17 : decode cX9_seen 17 = .ok (.aload_n 0, 1) := by decide +kernel
theorem dX9_seen_18 : decode cX9_seen 18 = .ok (.getfield 46, 3) := by decide +kernel
theorem dX9_seen_21 : decode cX9_seen 21 = .ok (.getfield 165, 3) := by decide +kernel
theorem dX9_seen_24 : decode cX9_seen 24 = .ok (.iload_n 2, 1) := by decide +kernel
theorem dX9_seen_25 : decode cX9_seen 25 = .ok (.aaload, 1) := by decide +kernel
theorem dX9_seen_26 : decode cX9_seen 26 = .ok (.astore 4, 2) := by decide +kernel
theorem dX9_seen_28 : decode cX9_seen 28 = .ok (.iload_n 3, 1) := by decide +kernel
theorem dX9_seen_29 : decode cX9_seen 29 = .ok (.ifCond .lt 12, 3) := by decide +kernel
theorem dX9_seen_32 : decode cX9_seen 32 = .ok (.iload_n 3, 1) := by decide +kernel
theorem dX9_seen_33 : decode cX9_seen 33 = .ok (.aload 4, 2) := by decide +kernel
theorem dX9_seen_35 : decode cX9_seen 35 = .ok (.getfield 135, 3) := by decide +kernel
theorem dX9_seen_38 : decode cX9_seen 38 = .ok (.if_icmp .lt 6, 3) := by decide +kernel
theorem dX9_seen_41 : decode cX9_seen 41 = .ok (.bipush (-2), 2) := by decide +kernel
theorem dX9_seen_43 : decode cX9_seen 43 = .ok (.ireturn, 1) := by decide +kernel
theorem dX9_seen_44 : decode cX9_seen 44 = .ok (.aload_n 0, 1) := by decide +kernel
theorem dX9_seen_45 : decode cX9_seen 45 = .ok (.getfield 83, 3) := by decide +kernel
theorem dX9_seen_48 : decode cX9_seen 48 = .ok (.aload_n 0, 1) := by decide +kernel
theorem dX9_seen_49 : decode cX9_seen 49 = .ok (.getfield 46, 3) := by decide +kernel
theorem dX9_seen_52 : decode cX9_seen 52 = .ok (.getfield 127, 3) := by decide +kernel
theorem dX9_seen_55 : decode cX9_seen 55 = .ok (.iload_n 1, 1) := by decide +kernel
theorem dX9_seen_56 : decode cX9_seen 56 = .ok (.aaload, 1) := by decide +kernel
theorem dX9_seen_57 : decode cX9_seen 57 = .ok (.invokevirtual 176, 3) := by decide +kernel
theorem dX9_seen_60 : decode cX9_seen 60 = .ok (.aload_n 0, 1) := by decide +kernel
theorem dX9_seen_61 : decode cX9_seen 61 = .ok (.getfield 54, 3) := by decide +kernel
theorem dX9_seen_64 : decode cX9_seen 64 = .ok (.aload_n 0, 1) := by decide +kernel
theorem dX9_seen_65 : decode cX9_seen 65 = .ok (.getfield 83, 3) := by decide +kernel
theorem dX9_seen_68 : decode cX9_seen 68 = .ok (.aload 4, 2) := by decide +kernel
theorem dX9_seen_70 : decode cX9_seen 70 = .ok (.invokevirtual 131, 3) := by decide +kernel
theorem dX9_seen_73 : decode cX9_seen 73 = .ok (.aload_n 0, 1) := by decide +kernel
theorem dX9_seen_74 : decode cX9_seen 74 = .ok (.getfield 83, 3) := by decide +kernel
theorem dX9_seen_77 : decode cX9_seen 77 = .ok (.iload_n 3, 1) := by decide +kernel
theorem dX9_seen_78 : decode cX9_seen 78 = .ok (.invokevirtual 144, 3) := by decide +kernel
theorem dX9_seen_81 : decode cX9_seen 81 = .ok (.ireturn, 1) := by decide +kernel
theorem dX9_kind_0 : decode cX9_kind 0 = .ok (.iload_n 1, 1) := by decide +kernel
theorem dX9_kind_1 : decode cX9_kind 1 = .ok (.invokestatic 138, 3) := by decide +kernel
theorem dX9_kind_4 : decode cX9_kind 4 = .ok (.ifCond .eq 11, 3) := by decide +kernel
theorem dX9_kind_7 : decode cX9_kind 7 = .ok (.aload_n 0, 1) := by decide +kernel
theorem dX9_kind_8 : decode cX9_kind 8 = .ok (.iload_n 2, 1) := by decide +kernel
theorem dX9_kind_9 : decode cX9_kind 9 = .ok (.invokevirtual 162, 3) := by decide +kernel
theorem dX9_kind_12 : decode cX9_kind 12 = .ok (.ifCond .ne 5, 3) := by decide +kernel
theorem dX9_kind_15 : decode cX9_kind 15 = .ok (.iconst (-1), 1) := by decide +kernel
theorem dX9_kind_16 : decode cX9_kind 16 = .ok (.ireturn, 1) := by decide +kernel
theorem dX9_kind_17 : decode cX9_kind 17 = .ok (.aload_n 0, 1) := by decide +kernel
theorem dX9_kind_18 : decode cX9_kind 18 = .ok (.getfield 62, 3) := by decide +kernel
theorem dX9_kind_21 : decode cX9_kind 21 = .ok (.aload_n 0, 1) := by decide +kernel
theorem dX9_kind_22 : decode cX9_kind 22 = .ok (.getfield 46, 3) := by decide +kernel
theorem dX9_kind_25 : decode cX9_kind 25 = .ok (.getfield 165, 3) := by decide +kernel
theorem dX9_kind_28 : decode cX9_kind 28 = .ok (.iload_n 2, 1) := by decide +kernel
theorem dX9_kind_29 : decode cX9_kind 29 = .ok (.aaload, 1) := by decide +kernel
theorem dX9_kind_30 : decode cX9_kind 30 = .ok (.aload_n 0, 1) := by decide +kernel
theorem dX9_kind_31 : decode cX9_kind 31 = .ok (.getfield 46, 3) := by decide +kernel
theorem dX9_kind_34 : decode cX9_kind 34 = .ok (.getfield 127, 3) := by decide +kernel
theorem dX9_kind_37 : decode cX9_kind 37 = .ok (.iload_n 1, 1) := by decide +kernel
theorem dX9_kind_38 : decode cX9_kind 38 = .ok (.aaload, 1) := by decide +kernel
theorem dX9_kind_39 : decode cX9_kind 39 = .ok (.invokevirtual 215, 3) := by decide +kernel
theorem dX9_kind_42 : decode cX9_kind 42 = .ok (.ireturn, 1) := by decide +kernel
theorem dX9_unit_0 : decode cX9_unit 0 = .ok (.aload_n 0, 1) := by decide +kernel
theorem dX9_unit_1 : decode cX9_unit 1 = .ok (.iload_n 1, 1) := by decide +kernel
theorem dX9_unit_2 : decode cX9_unit 2 = .ok (.invokevirtual 162, 3) := by decide +kernel
theorem dX9_unit_5 : decode cX9_unit 5 = .ok (.ifCond .ne 5, 3) := by decide +kernel
theorem dX9_unit_8 : decode cX9_unit 8 = .ok (.iconst (-1), 1) := by decide +kernel
theorem dX9_unit_9 : decode cX9_unit 9 = .ok (.ireturn, 1) := by decide +kernel
theorem dX9_unit_10 : decode cX9_unit 10 = .ok (.aload_n 0, 1) := by decide +kernel
theorem dX9_unit_11 : decode cX9_unit 11 = .ok (.iload_n 2, 1) := by decide +kernel
theorem dX9_unit_12 : decode cX9_unit 12 = .ok (.invokevirtual 141, 3) := by decide +kernel
theorem dX9_unit_15 : decode cX9_unit 15 = .ok (.ifCond .ne 6, 3) := by decide +kernel
theorem dX9_unit_18 : decode cX9_unit 18 = .ok (.bipush (-2), 2) := by decide +kernel
theorem dX9_unit_20 : decode cX9_unit 20 = .ok (.ireturn, 1) := by decide +kernel
theorem dX9_unit_21 : decode cX9_unit 21 = .ok (.aload_n 0, 1) := by decide +kernel
theorem dX9_unit_22 : decode cX9_unit 22 = .ok (.getfield 58, 3) := by decide +kernel
theorem dX9_unit_25 : decode cX9_unit 25 = .ok (.aload_n 0, 1) := by decide +kernel
theorem dX9_unit_26 : decode cX9_unit 26 = .ok (.getfield 83, 3) := by decide +kernel
theorem dX9_unit_29 : decode cX9_unit 29 = .ok (.aload_n 0, 1) := by decide +kernel
theorem dX9_unit_30 : decode cX9_unit 30 = .ok (.getfield 46, 3) := by decide +kernel
theorem dX9_unit_33 : decode cX9_unit 33 = .ok (.getfield 165, 3) := by decide +kernel
theorem dX9_unit_36 : decode cX9_unit 36 = .ok (.iload_n 1, 1) := by decide +kernel
theorem dX9_unit_37 : decode cX9_unit 37 = .ok (.aaload, 1) := by decide +kernel
theorem dX9_unit_38 : decode cX9_unit 38 = .ok (.invokevirtual 218, 3) := by decide +kernel
theorem dX9_unit_41 : decode cX9_unit 41 = .ok (.aload_n 0, 1) := by decide +kernel
theorem dX9_unit_42 : decode cX9_unit 42 = .ok (.getfield 83, 3) := by decide +kernel
theorem dX9_unit_45 : decode cX9_unit 45 = .ok (.iload_n 2, 1) := by decide +kernel
theorem dX9_unit_46 : decode cX9_unit 46 = .ok (.invokevirtual 144, 3) := by decide +kernel
theorem dX9_unit_49 : decode cX9_unit 49 = .ok (.ireturn, 1) := by decide +kernel
theorem dX9_power_0 : decode cX9_power 0 = .ok (.iload_n 1, 1) := by decide +kernel
theorem dX9_power_1 : decode cX9_power 1 = .ok (.invokestatic 138, 3) := by decide +kernel
theorem dX9_power_4 : decode cX9_power 4 = .ok (.ifCond .ne 5, 3) := by decide +kernel
theorem dX9_power_7 : decode cX9_power 7 = .ok (.iconst (-1), 1) := by decide +kernel
theorem dX9_power_8 : decode cX9_power 8 = .ok (.ireturn, 1) := by decide +kernel
theorem dX9_power_9 : decode cX9_power 9 = .ok (.iload_n 2, 1) := by decide +kernel
theorem dX9_power_10 : decode cX9_power 10 = .ok (.ifCond .lt 17, 3) := by decide +kernel
theorem dX9_power_13 : decode cX9_power 13 = .ok (.iload_n 2, 1) := by decide +kernel
theorem dX9_power_14 : decode cX9_power 14 = .ok (.ldc 221, 2) := by decide +kernel
theorem dX9_power_16 : decode cX9_power 16 = .ok (.if_icmp .gt 11, 3) := by decide +kernel
theorem dX9_power_19 : decode cX9_power 19 = .ok (.aload_n 0, 1) := by decide +kernel
theorem dX9_power_20 : decode cX9_power 20 = .ok (.iload_n 3, 1) := by decide +kernel
theorem dX9_power_21 : decode cX9_power 21 = .ok (.invokevirtual 141, 3) := by decide +kernel
theorem dX9_power_24 : decode cX9_power 24 = .ok (.ifCond .ne 6, 3) := by decide +kernel
theorem dX9_power_27 : decode cX9_power 27 = .ok (.bipush (-2), 2) := by decide +kernel
theorem dX9_power_29 : decode cX9_power 29 = .ok (.ireturn, 1) := by decide +kernel
theorem dX9_power_30 : decode cX9_power 30 = .ok (.aload_n 0, 1) := by decide +kernel
theorem dX9_power_31 : decode cX9_power 31 = .ok (.getfield 58, 3) := by decide +kernel
theorem dX9_power_34 : decode cX9_power 34 = .ok (.aload_n 0, 1) := by decide +kernel
theorem dX9_power_35 : decode cX9_power 35 = .ok (.getfield 83, 3) := by decide +kernel
theorem dX9_power_38 : decode cX9_power 38 = .ok (.aload_n 0, 1) := by decide +kernel
theorem dX9_power_39 : decode cX9_power 39 = .ok (.getfield 46, 3) := by decide +kernel
theorem dX9_power_42 : decode cX9_power 42 = .ok (.getfield 127, 3) := by decide +kernel
theorem dX9_power_45 : decode cX9_power 45 = .ok (.iload_n 1, 1) := by decide +kernel
theorem dX9_power_46 : decode cX9_power 46 = .ok (.aaload, 1) := by decide +kernel
theorem dX9_power_47 : decode cX9_power 47 = .ok (.iload_n 2, 1) := by decide +kernel
theorem dX9_power_48 : decode cX9_power 48 = .ok (.invokevirtual 222, 3) := by decide +kernel
theorem dX9_power_51 : decode cX9_power 51 = .ok (.aload_n 0, 1) := by decide +kernel
theorem dX9_power_52 : decode cX9_power 52 = .ok (.getfield 83, 3) := by decide +kernel
theorem dX9_power_55 : decode cX9_power 55 = .ok (.iload_n 3, 1) := by decide +kernel
theorem dX9_power_56 : decode cX9_power 56 = .ok (.invokevirtual 144, 3) := by decide +kernel
theorem dX9_power_59 : decode cX9_power 59 = .ok (.ireturn, 1) := by decide +kernel
theorem dX9_leastPolynomial_0 : decode cX9_leastPolynomial 0 = .ok (.iload_n 1, 1) := by decide +kernel
theorem dX9_leastPolynomial_1 : decode cX9_leastPolynomial 1 = .ok (.invokestatic 138, 3) := by decide +kernel
theorem dX9_leastPolynomial_4 : decode cX9_leastPolynomial 4 = .ok (.ifCond .ne 5, 3) := by decide +kernel
theorem dX9_leastPolynomial_7 : decode cX9_leastPolynomial 7 = .ok (.iconst (-1), 1) := by decide +kernel
theorem dX9_leastPolynomial_8 : decode cX9_leastPolynomial 8 = .ok (.ireturn, 1) := by decide +kernel
theorem dX9_leastPolynomial_9 : decode cX9_leastPolynomial 9 = .ok (.iload_n 2, 1) := by decide +kernel
theorem dX9_leastPolynomial_10 : decode cX9_leastPolynomial 10 = .ok (.ifCond .ge 6, 3) := by decide +kernel
theorem dX9_leastPolynomial_13 : decode cX9_leastPolynomial 13 = .ok (.bipush (-2), 2) := by decide +kernel
theorem dX9_leastPolynomial_15 : decode cX9_leastPolynomial 15 = .ok (.ireturn, 1) := by decide +kernel
theorem dX9_leastPolynomial_16 : decode cX9_leastPolynomial 16 = .ok (.aload_n 0, 1) := by decide +kernel
theorem dX9_leastPolynomial_17 : decode cX9_leastPolynomial 17 = .ok (.getfield 58, 3) := by decide +kernel
theorem dX9_leastPolynomial_20 : decode cX9_leastPolynomial 20 = .ok (.aload_n 0, 1) := by decide +kernel
theorem dX9_leastPolynomial_21 : decode cX9_leastPolynomial 21 = .ok (.getfield 83, 3) := by decide +kernel
theorem dX9_leastPolynomial_24 : decode cX9_leastPolynomial 24 = .ok (.aload_n 0, 1) := by decide +kernel
theorem dX9_leastPolynomial_25 : decode cX9_leastPolynomial 25 = .ok (.getfield 46, 3) := by decide +kernel
theorem dX9_leastPolynomial_28 : decode cX9_leastPolynomial 28 = .ok (.getfield 127, 3) := by decide +kernel
theorem dX9_leastPolynomial_31 : decode cX9_leastPolynomial 31 = .ok (.iload_n 1, 1) := by decide +kernel
theorem dX9_leastPolynomial_32 : decode cX9_leastPolynomial 32 = .ok (.aaload, 1) := by decide +kernel
theorem dX9_leastPolynomial_33 : decode cX9_leastPolynomial 33 = .ok (.invokevirtual 226, 3) := by decide +kernel
theorem dX9_leastPolynomial_36 : decode cX9_leastPolynomial 36 = .ok (.aload_n 0, 1) := by decide +kernel
theorem dX9_leastPolynomial_37 : decode cX9_leastPolynomial 37 = .ok (.getfield 83, 3) := by decide +kernel
theorem dX9_leastPolynomial_40 : decode cX9_leastPolynomial 40 = .ok (.iload_n 2, 1) := by decide +kernel
theorem dX9_leastPolynomial_41 : decode cX9_leastPolynomial 41 = .ok (.invokestatic 212, 3) := by decide +kernel
theorem dX9_leastPolynomial_44 : decode cX9_leastPolynomial 44 = .ok (.ireturn, 1) := by decide +kernel
theorem dX9_trace_0 : decode cX9_trace 0 = .ok (.iload_n 1, 1) := by decide +kernel
theorem dX9_trace_1 : decode cX9_trace 1 = .ok (.invokestatic 138, 3) := by decide +kernel
theorem dX9_trace_4 : decode cX9_trace 4 = .ok (.ifCond .eq 22, 3) := by decide +kernel
theorem dX9_trace_7 : decode cX9_trace 7 = .ok (.aload_n 0, 1) := by decide +kernel
theorem dX9_trace_8 : decode cX9_trace 8 = .ok (.getfield 58, 3) := by decide +kernel
theorem dX9_trace_11 : decode cX9_trace 11 = .ok (.aload_n 0, 1) := by decide +kernel
theorem dX9_trace_12 : decode cX9_trace 12 = .ok (.getfield 46, 3) := by decide +kernel
theorem dX9_trace_15 : decode cX9_trace 15 = .ok (.getfield 127, 3) := by decide +kernel
theorem dX9_trace_18 : decode cX9_trace 18 = .ok (.iload_n 1, 1) := by decide +kernel
theorem dX9_trace_19 : decode cX9_trace 19 = .ok (.aaload, 1) := by decide +kernel
theorem dX9_trace_20 : decode cX9_trace 20 = .ok (.invokevirtual 229, 3) := by decide +kernel
theorem dX9_trace_23 : decode cX9_trace 23 = .ok (.goto 4, 3) := by decide +kernel
theorem dX9_trace_26 : decode cX9_trace 26 = .ok (.iconst (-1), 1) := by decide +kernel
theorem dX9_trace_27 : decode cX9_trace 27 = .ok (.ireturn, 1) := by decide +kernel
theorem dX9_order_0 : decode cX9_order 0 = .ok (.iload_n 1, 1) := by decide +kernel
theorem dX9_order_1 : decode cX9_order 1 = .ok (.invokestatic 138, 3) := by decide +kernel
theorem dX9_order_4 : decode cX9_order 4 = .ok (.ifCond .ne 5, 3) := by decide +kernel
theorem dX9_order_7 : decode cX9_order 7 = .ok (.iconst (-1), 1) := by decide +kernel
theorem dX9_order_8 : decode cX9_order 8 = .ok (.ireturn, 1) := by decide +kernel
theorem dX9_order_9 : decode cX9_order 9 = .ok (.aload_n 0, 1) := by decide +kernel
theorem dX9_order_10 : decode cX9_order 10 = .ok (.getfield 46, 3) := by decide +kernel
theorem dX9_order_13 : decode cX9_order 13 = .ok (.getfield 127, 3) := by decide +kernel
theorem dX9_order_16 : decode cX9_order 16 = .ok (.iload_n 1, 1) := by decide +kernel
theorem dX9_order_17 : decode cX9_order 17 = .ok (.aaload, 1) := by decide +kernel
theorem dX9_order_18 : decode cX9_order 18 = .ok (.astore_n 2, 1) := by decide +kernel
theorem dX9_order_19 : decode cX9_order 19 = .ok (.aload_n 0, 1) := by decide +kernel
theorem dX9_order_20 : decode cX9_order 20 = .ok (.getfield 62, 3) := by decide +kernel
theorem dX9_order_23 : decode cX9_order 23 = .ok (.aload_n 0, 1) := by decide +kernel
theorem dX9_order_24 : decode cX9_order 24 = .ok (.getfield 46, 3) := by decide +kernel
theorem dX9_order_27 : decode cX9_order 27 = .ok (.getfield 118, 3) := by decide +kernel
theorem dX9_order_30 : decode cX9_order 30 = .ok (.aload_n 2, 1) := by decide +kernel
theorem dX9_order_31 : decode cX9_order 31 = .ok (.invokevirtual 215, 3) := by decide +kernel
theorem dX9_order_34 : decode cX9_order 34 = .ok (.iconst 1, 1) := by decide +kernel
theorem dX9_order_35 : decode cX9_order 35 = .ok (.if_icmp .eq 6, 3) := by decide +kernel
theorem dX9_order_38 : decode cX9_order 38 = .ok (.bipush (-5), 2) := by decide +kernel
theorem dX9_order_40 : decode cX9_order 40 = .ok (.ireturn, 1) := by decide +kernel
theorem dX9_order_41 : decode cX9_order 41 = .ok (.aload_n 0, 1) := by decide +kernel
theorem dX9_order_42 : decode cX9_order 42 = .ok (.getfield 31, 3) := by decide +kernel
theorem dX9_order_45 : decode cX9_order 45 = .ok (.invokevirtual 186, 3) := by decide +kernel
theorem dX9_order_48 : decode cX9_order 48 = .ok (.aload_n 0, 1) := by decide +kernel
theorem dX9_order_49 : decode cX9_order 49 = .ok (.getfield 58, 3) := by decide +kernel
theorem dX9_order_52 : decode cX9_order 52 = .ok (.aload_n 2, 1) := by decide +kernel
theorem dX9_order_53 : decode cX9_order 53 = .ok (.aload_n 0, 1) := by decide +kernel
theorem dX9_order_54 : decode cX9_order 54 = .ok (.getfield 31, 3) := by decide +kernel
theorem dX9_order_57 : decode cX9_order 57 = .ok (.invokevirtual 233, 3) := by decide +kernel
theorem dX9_order_60 : decode cX9_order 60 = .ok (.invokevirtual 236, 3) := by decide +kernel
theorem dX9_order_63 : decode cX9_order 63 = .ok (.ireturn, 1) := by decide +kernel
theorem dX9_factors_0 : decode cX9_factors 0 = .ok (.iload_n 1, 1) := by decide +kernel
theorem dX9_factors_1 : decode cX9_factors 1 = .ok (.iconst 1, 1) := by decide +kernel
theorem dX9_factors_2 : decode cX9_factors 2 = .ok (.if_icmp .lt 9, 3) := by decide +kernel
theorem dX9_factors_5 : decode cX9_factors 5 = .ok (.iload_n 1, 1) := by decide +kernel
theorem dX9_factors_6 : decode cX9_factors 6 = .ok (.bipush 6, 2) := by decide +kernel
theorem dX9_factors_8 : decode cX9_factors 8 = .ok (.if_icmp .le 6, 3) := by decide +kernel
theorem dX9_factors_11 : decode cX9_factors 11 = .ok (.bipush (-2), 2) := by decide +kernel
theorem dX9_factors_13 : decode cX9_factors 13 = .ok (.ireturn, 1) := by decide +kernel
theorem dX9_factors_14 : decode cX9_factors 14 = .ok (.aload_n 0, 1) := by decide +kernel
theorem dX9_factors_15 : decode cX9_factors 15 = .ok (.getfield 31, 3) := by decide +kernel
theorem dX9_factors_18 : decode cX9_factors 18 = .ok (.invokevirtual 186, 3) := by decide +kernel
theorem dX9_factors_21 : decode cX9_factors 21 = .ok (.aload_n 0, 1) := by decide +kernel
theorem dX9_factors_22 : decode cX9_factors 22 = .ok (.getfield 31, 3) := by decide +kernel
theorem dX9_factors_25 : decode cX9_factors 25 = .ok (.iload_n 1, 1) := by decide +kernel
theorem dX9_factors_26 : decode cX9_factors 26 = .ok (.invokevirtual 239, 3) := by decide +kernel
theorem dX9_factors_29 : decode cX9_factors 29 = .ok (.ireturn, 1) := by decide +kernel
theorem dX9_count_0 : decode cX9_count 0 = .ok (.iload_n 1, 1) := by decide +kernel
theorem dX9_count_1 : decode cX9_count 1 = .ok (.tableswitch 121 0 7 #[47, 55, 66, 74, 89, 97, 105, 113], 47) := by decide +kernel
theorem dX9_count_48 : decode cX9_count 48 = .ok (.aload_n 0, 1) := by decide +kernel
theorem dX9_count_49 : decode cX9_count 49 = .ok (.getfield 46, 3) := by decide +kernel
theorem dX9_count_52 : decode cX9_count 52 = .ok (.getfield 91, 3) := by decide +kernel
theorem dX9_count_55 : decode cX9_count 55 = .ok (.ireturn, 1) := by decide +kernel
theorem dX9_count_56 : decode cX9_count 56 = .ok (.aload_n 0, 1) := by decide +kernel
theorem dX9_count_57 : decode cX9_count 57 = .ok (.getfield 46, 3) := by decide +kernel
theorem dX9_count_60 : decode cX9_count 60 = .ok (.getfield 118, 3) := by decide +kernel
theorem dX9_count_63 : decode cX9_count 63 = .ok (.getfield 135, 3) := by decide +kernel
theorem dX9_count_66 : decode cX9_count 66 = .ok (.ireturn, 1) := by decide +kernel
theorem dX9_count_67 : decode cX9_count 67 = .ok (.aload_n 0, 1) := by decide +kernel
theorem dX9_count_68 : decode cX9_count 68 = .ok (.getfield 46, 3) := by decide +kernel
theorem dX9_count_71 : decode cX9_count 71 = .ok (.getfield 159, 3) := by decide +kernel
theorem dX9_count_74 : decode cX9_count 74 = .ok (.ireturn, 1) := by decide +kernel
theorem dX9_count_75 : decode cX9_count 75 = .ok (.aload_n 0, 1) := by decide +kernel
theorem dX9_count_76 : decode cX9_count 76 = .ok (.getfield 31, 3) := by decide +kernel
theorem dX9_count_79 : decode cX9_count 79 = .ok (.invokevirtual 186, 3) := by decide +kernel
theorem dX9_count_82 : decode cX9_count 82 = .ok (.aload_n 0, 1) := by decide +kernel
theorem dX9_count_83 : decode cX9_count 83 = .ok (.getfield 31, 3) := by decide +kernel
theorem dX9_count_86 : decode cX9_count 86 = .ok (.invokevirtual 242, 3) := by decide +kernel
theorem dX9_count_89 : decode cX9_count 89 = .ok (.ireturn, 1) := by decide +kernel
theorem dX9_count_90 : decode cX9_count 90 = .ok (.aload_n 0, 1) := by decide +kernel
theorem dX9_count_91 : decode cX9_count 91 = .ok (.getfield 46, 3) := by decide +kernel
theorem dX9_count_94 : decode cX9_count 94 = .ok (.invokevirtual 245, 3) := by decide +kernel
theorem dX9_count_97 : decode cX9_count 97 = .ok (.ireturn, 1) := by decide +kernel
theorem dX9_count_98 : decode cX9_count 98 = .ok (.aload_n 0, 1) := by decide +kernel
theorem dX9_count_99 : decode cX9_count 99 = .ok (.getfield 46, 3) := by decide +kernel
theorem dX9_count_102 : decode cX9_count 102 = .ok (.invokevirtual 248, 3) := by decide +kernel
theorem dX9_count_105 : decode cX9_count 105 = .ok (.ireturn, 1) := by decide +kernel
theorem dX9_count_106 : decode cX9_count 106 = .ok (.aload_n 0, 1) := by decide +kernel
theorem dX9_count_107 : decode cX9_count 107 = .ok (.getfield 76, 3) := by decide +kernel
theorem dX9_count_110 : decode cX9_count 110 = .ok (.getfield 206, 3) := by decide +kernel
theorem dX9_count_113 : decode cX9_count 113 = .ok (.ireturn, 1) := by decide +kernel
theorem dX9_count_114 : decode cX9_count 114 = .ok (.aload_n 0, 1) := by decide +kernel
theorem dX9_count_115 : decode cX9_count 115 = .ok (.getfield 50, 3) := by decide +kernel
theorem dX9_count_118 : decode cX9_count 118 = .ok (.getfield 203, 3) := by decide +kernel
theorem dX9_count_121 : decode cX9_count 121 = .ok (.ireturn, 1) := by decide +kernel
theorem dX9_count_122 : decode cX9_count 122 = .ok (.bipush (-2), 2) := by decide +kernel
theorem dX9_count_124 : decode cX9_count 124 = .ok (.ireturn, 1) := by decide +kernel
theorem dX9_isPrime_0 : decode cX9_isPrime 0 = .ok (.iload_n 0, 1) := by decide +kernel
theorem dX9_isPrime_1 : decode cX9_isPrime 1 = .ok (.iconst 2, 1) := by decide +kernel
theorem dX9_isPrime_2 : decode cX9_isPrime 2 = .ok (.if_icmp .eq 31, 3) := by decide +kernel
theorem dX9_isPrime_5 : decode cX9_isPrime 5 = .ok (.iload_n 0, 1) := by decide +kernel
theorem dX9_isPrime_6 : decode cX9_isPrime 6 = .ok (.iconst 3, 1) := by decide +kernel
theorem dX9_isPrime_7 : decode cX9_isPrime 7 = .ok (.if_icmp .eq 26, 3) := by decide +kernel
theorem dX9_isPrime_10 : decode cX9_isPrime 10 = .ok (.iload_n 0, 1) := by decide +kernel
theorem dX9_isPrime_11 : decode cX9_isPrime 11 = .ok (.iconst 5, 1) := by decide +kernel
theorem dX9_isPrime_12 : decode cX9_isPrime 12 = .ok (.if_icmp .eq 21, 3) := by decide +kernel
theorem dX9_isPrime_15 : decode cX9_isPrime 15 = .ok (.iload_n 0, 1) := by decide +kernel
theorem dX9_isPrime_16 : decode cX9_isPrime 16 = .ok (.bipush 7, 2) := by decide +kernel
theorem dX9_isPrime_18 : decode cX9_isPrime 18 = .ok (.if_icmp .eq 15, 3) := by decide +kernel
theorem dX9_isPrime_21 : decode cX9_isPrime 21 = .ok (.iload_n 0, 1) := by decide +kernel
theorem dX9_isPrime_22 : decode cX9_isPrime 22 = .ok (.bipush 11, 2) := by decide +kernel
theorem dX9_isPrime_24 : decode cX9_isPrime 24 = .ok (.if_icmp .eq 9, 3) := by decide +kernel
theorem dX9_isPrime_27 : decode cX9_isPrime 27 = .ok (.iload_n 0, 1) := by decide +kernel
theorem dX9_isPrime_28 : decode cX9_isPrime 28 = .ok (.bipush 13, 2) := by decide +kernel
theorem dX9_isPrime_30 : decode cX9_isPrime 30 = .ok (.if_icmp .ne 7, 3) := by decide +kernel
theorem dX9_isPrime_33 : decode cX9_isPrime 33 = .ok (.iconst 1, 1) := by decide +kernel
theorem dX9_isPrime_34 : decode cX9_isPrime 34 = .ok (.goto 4, 3) := by decide +kernel
theorem dX9_isPrime_37 : decode cX9_isPrime 37 = .ok (.iconst 0, 1) := by decide +kernel
theorem dX9_isPrime_38 : decode cX9_isPrime 38 = .ok (.ireturn, 1) := by decide +kernel
theorem dX9_isRegister_0 : decode cX9_isRegister 0 = .ok (.iload_n 0, 1) := by decide +kernel
theorem dX9_isRegister_1 : decode cX9_isRegister 1 = .ok (.ifCond .lt 13, 3) := by decide +kernel
theorem dX9_isRegister_4 : decode cX9_isRegister 4 = .ok (.iload_n 0, 1) := by decide +kernel
theorem dX9_isRegister_5 : decode cX9_isRegister 5 = .ok (.bipush 6, 2) := by decide +kernel
theorem dX9_isRegister_7 : decode cX9_isRegister 7 = .ok (.if_icmp .ge 7, 3) := by decide +kernel
theorem dX9_isRegister_10 : decode cX9_isRegister 10 = .ok (.iconst 1, 1) := by decide +kernel
theorem dX9_isRegister_11 : decode cX9_isRegister 11 = .ok (.goto 4, 3) := by decide +kernel
theorem dX9_isRegister_14 : decode cX9_isRegister 14 = .ok (.iconst 0, 1) := by decide +kernel
theorem dX9_isRegister_15 : decode cX9_isRegister 15 = .ok (.ireturn, 1) := by decide +kernel
theorem dX9_isBranch_0 : decode cX9_isBranch 0 = .ok (.iload_n 1, 1) := by decide +kernel
theorem dX9_isBranch_1 : decode cX9_isBranch 1 = .ok (.ifCond .lt 18, 3) := by decide +kernel
theorem dX9_isBranch_4 : decode cX9_isBranch 4 = .ok (.iload_n 1, 1) := by decide +kernel
theorem dX9_isBranch_5 : decode cX9_isBranch 5 = .ok (.aload_n 0, 1) := by decide +kernel
theorem dX9_isBranch_6 : decode cX9_isBranch 6 = .ok (.getfield 46, 3) := by decide +kernel
theorem dX9_isBranch_9 : decode cX9_isBranch 9 = .ok (.getfield 159, 3) := by decide +kernel
theorem dX9_isBranch_12 : decode cX9_isBranch 12 = .ok (.if_icmp .ge 7, 3) := by decide +kernel
theorem dX9_isBranch_15 : decode cX9_isBranch 15 = .ok (.iconst 1, 1) := by decide +kernel
theorem dX9_isBranch_16 : decode cX9_isBranch 16 = .ok (.goto 4, 3) := by decide +kernel
theorem dX9_isBranch_19 : decode cX9_isBranch 19 = .ok (.iconst 0, 1) := by decide +kernel
theorem dX9_isBranch_20 : decode cX9_isBranch 20 = .ok (.ireturn, 1) := by decide +kernel
theorem dX9_isPlace_0 : decode cX9_isPlace 0 = .ok (.iload_n 1, 1) := by decide +kernel
theorem dX9_isPlace_1 : decode cX9_isPlace 1 = .ok (.ifCond .lt 21, 3) := by decide +kernel
theorem dX9_isPlace_4 : decode cX9_isPlace 4 = .ok (.iload_n 1, 1) := by decide +kernel
theorem dX9_isPlace_5 : decode cX9_isPlace 5 = .ok (.aload_n 0, 1) := by decide +kernel
theorem dX9_isPlace_6 : decode cX9_isPlace 6 = .ok (.getfield 46, 3) := by decide +kernel
theorem dX9_isPlace_9 : decode cX9_isPlace 9 = .ok (.getfield 118, 3) := by decide +kernel
theorem dX9_isPlace_12 : decode cX9_isPlace 12 = .ok (.getfield 135, 3) := by decide +kernel
theorem dX9_isPlace_15 : decode cX9_isPlace 15 = .ok (.if_icmp .ge 7, 3) := by decide +kernel
theorem dX9_isPlace_18 : decode cX9_isPlace 18 = .ok (.iconst 1, 1) := by decide +kernel
theorem dX9_isPlace_19 : decode cX9_isPlace 19 = .ok (.goto 4, 3) := by decide +kernel
theorem dX9_isPlace_22 : decode cX9_isPlace 22 = .ok (.iconst 0, 1) := by decide +kernel
theorem dX9_isPlace_23 : decode cX9_isPlace 23 = .ok (.ireturn, 1) := by decide +kernel
theorem dX9_isModulusTold_0 : decode cX9_isModulusTold 0 = .ok (.iconst 0, 1) := by decide +kernel
theorem dX9_isModulusTold_1 : decode cX9_isModulusTold 1 = .ok (.istore_n 1, 1) := by decide +kernel
theorem dX9_isModulusTold_2 : decode cX9_isModulusTold 2 = .ok (.iload_n 1, 1) := by decide +kernel
theorem dX9_isModulusTold_3 : decode cX9_isModulusTold 3 = .ok (.aload_n 0, 1) := by decide +kernel
theorem dX9_isModulusTold_4 : decode cX9_isModulusTold 4 = .ok (.getfield 50, 3) := by decide +kernel
theorem dX9_isModulusTold_7 : decode cX9_isModulusTold 7 = .ok (.getfield 251, 3) := by decide +kernel
theorem dX9_isModulusTold_10 : decode cX9_isModulusTold 10 = .ok (.if_icmp .ge 30, 3) := by decide +kernel
theorem dX9_isModulusTold_13 : decode cX9_isModulusTold 13 = .ok (.aload_n 0, 1) := by decide +kernel
theorem dX9_isModulusTold_14 : decode cX9_isModulusTold 14 = .ok (.getfield 50, 3) := by decide +kernel
theorem dX9_isModulusTold_17 : decode cX9_isModulusTold 17 = .ok (.getfield 254, 3) := by decide +kernel
theorem dX9_isModulusTold_20 : decode cX9_isModulusTold 20 = .ok (.iload_n 1, 1) := by decide +kernel
theorem dX9_isModulusTold_21 : decode cX9_isModulusTold 21 = .ok (.iaload, 1) := by decide +kernel
theorem dX9_isModulusTold_22 : decode cX9_isModulusTold 22 = .ok (.aload_n 0, 1) := by decide +kernel
theorem dX9_isModulusTold_23 : decode cX9_isModulusTold 23 = .ok (.getfield 46, 3) := by decide +kernel
theorem dX9_isModulusTold_26 : decode cX9_isModulusTold 26 = .ok (.getfield 91, 3) := by decide +kernel
theorem dX9_isModulusTold_29 : decode cX9_isModulusTold 29 = .ok (.if_icmp .lt 5, 3) := by decide +kernel
theorem dX9_isModulusTold_32 : decode cX9_isModulusTold 32 = .ok (.iconst 0, 1) := by decide +kernel
theorem dX9_isModulusTold_33 : decode cX9_isModulusTold 33 = .ok (.ireturn, 1) := by decide +kernel
theorem dX9_isModulusTold_34 : decode cX9_isModulusTold 34 = .ok (.iinc 1 1, 3) := by decide +kernel
theorem dX9_isModulusTold_37 : decode cX9_isModulusTold 37 = .ok (.goto (-35), 3) := by decide +kernel
theorem dX9_isModulusTold_40 : decode cX9_isModulusTold 40 = .ok (.aload_n 0, 1) := by decide +kernel
theorem dX9_isModulusTold_41 : decode cX9_isModulusTold 41 = .ok (.getfield 50, 3) := by decide +kernel
theorem dX9_isModulusTold_44 : decode cX9_isModulusTold 44 = .ok (.getfield 251, 3) := by decide +kernel
theorem dX9_isModulusTold_47 : decode cX9_isModulusTold 47 = .ok (.iconst 1, 1) := by decide +kernel
theorem dX9_isModulusTold_48 : decode cX9_isModulusTold 48 = .ok (.if_icmp .le 28, 3) := by decide +kernel
theorem dX9_isModulusTold_51 : decode cX9_isModulusTold 51 = .ok (.aload_n 0, 1) := by decide +kernel
theorem dX9_isModulusTold_52 : decode cX9_isModulusTold 52 = .ok (.getfield 50, 3) := by decide +kernel
theorem dX9_isModulusTold_55 : decode cX9_isModulusTold 55 = .ok (.getfield 254, 3) := by decide +kernel
theorem dX9_isModulusTold_58 : decode cX9_isModulusTold 58 = .ok (.aload_n 0, 1) := by decide +kernel
theorem dX9_isModulusTold_59 : decode cX9_isModulusTold 59 = .ok (.getfield 50, 3) := by decide +kernel
theorem dX9_isModulusTold_62 : decode cX9_isModulusTold 62 = .ok (.getfield 251, 3) := by decide +kernel
theorem dX9_isModulusTold_65 : decode cX9_isModulusTold 65 = .ok (.iconst 1, 1) := by decide +kernel
theorem dX9_isModulusTold_66 : decode cX9_isModulusTold 66 = .ok (.isub, 1) := by decide +kernel
theorem dX9_isModulusTold_67 : decode cX9_isModulusTold 67 = .ok (.iaload, 1) := by decide +kernel
theorem dX9_isModulusTold_68 : decode cX9_isModulusTold 68 = .ok (.iconst 1, 1) := by decide +kernel
theorem dX9_isModulusTold_69 : decode cX9_isModulusTold 69 = .ok (.if_icmp .ne 7, 3) := by decide +kernel
theorem dX9_isModulusTold_72 : decode cX9_isModulusTold 72 = .ok (.iconst 1, 1) := by decide +kernel
theorem dX9_isModulusTold_73 : decode cX9_isModulusTold 73 = .ok (.goto 4, 3) := by decide +kernel
theorem dX9_isModulusTold_76 : decode cX9_isModulusTold 76 = .ok (.iconst 0, 1) := by decide +kernel
theorem dX9_isModulusTold_77 : decode cX9_isModulusTold 77 = .ok (.ireturn, 1) := by decide +kernel
theorem dX9_coefficientTold_0 : decode cX9_coefficientTold 0 = .ok (.iload_n 1, 1) := by decide +kernel
theorem dX9_coefficientTold_1 : decode cX9_coefficientTold 1 = .ok (.ifCond .ge 6, 3) := by decide +kernel
theorem dX9_coefficientTold_4 : decode cX9_coefficientTold 4 = .ok (.bipush (-2), 2) := by decide +kernel
theorem dX9_coefficientTold_6 : decode cX9_coefficientTold 6 = .ok (.ireturn, 1) := by decide +kernel
theorem dX9_coefficientTold_7 : decode cX9_coefficientTold 7 = .ok (.iload_n 1, 1) := by decide +kernel
theorem dX9_coefficientTold_8 : decode cX9_coefficientTold 8 = .ok (.aload_n 0, 1) := by decide +kernel
theorem dX9_coefficientTold_9 : decode cX9_coefficientTold 9 = .ok (.getfield 135, 3) := by decide +kernel
theorem dX9_coefficientTold_12 : decode cX9_coefficientTold 12 = .ok (.if_icmp .le 8, 3) := by decide +kernel
theorem dX9_coefficientTold_15 : decode cX9_coefficientTold 15 = .ok (.bipush (-5), 2) := by decide +kernel
theorem dX9_coefficientTold_17 : decode cX9_coefficientTold 17 = .ok (.goto 8, 3) := by decide +kernel
theorem dX9_coefficientTold_20 : decode cX9_coefficientTold 20 = .ok (.aload_n 0, 1) := by decide +kernel
theorem dX9_coefficientTold_21 : decode cX9_coefficientTold 21 = .ok (.iload_n 1, 1) := by decide +kernel
theorem dX9_coefficientTold_22 : decode cX9_coefficientTold 22 = .ok (.invokevirtual 144, 3) := by decide +kernel
theorem dX9_coefficientTold_25 : decode cX9_coefficientTold 25 = .ok (.ireturn, 1) := by decide +kernel
theorem dX10_init_0 : decode cX10_init 0 = .ok (.aload_n 0, 1) := by decide +kernel
theorem dX10_init_1 : decode cX10_init 1 = .ok (.invokespecial 1, 3) := by decide +kernel
theorem dX10_init_4 : decode cX10_init 4 = .ok (.aload_n 0, 1) := by decide +kernel
theorem dX10_init_5 : decode cX10_init 5 = .ok (.bipush 87, 2) := by decide +kernel
theorem dX10_init_7 : decode cX10_init 7 = .ok (.newarray .int, 2) := by decide +kernel
theorem dX10_init_9 : decode cX10_init 9 = .ok (.putfield 7, 3) := by decide +kernel
theorem dX10_init_12 : decode cX10_init 12 = .ok (.aload_n 0, 1) := by decide +kernel
theorem dX10_init_13 : decode cX10_init 13 = .ok (.sipush 348, 3) := by decide +kernel
theorem dX10_init_16 : decode cX10_init 16 = .ok (.newarray .int, 2) := by decide +kernel
theorem dX10_init_18 : decode cX10_init 18 = .ok (.putfield 13, 3) := by decide +kernel
theorem dX10_init_21 : decode cX10_init 21 = .ok (.aload_n 0, 1) := by decide +kernel
theorem dX10_init_22 : decode cX10_init 22 = .ok (.bipush 87, 2) := by decide +kernel
theorem dX10_init_24 : decode cX10_init 24 = .ok (.newarray .int, 2) := by decide +kernel
theorem dX10_init_26 : decode cX10_init 26 = .ok (.putfield 16, 3) := by decide +kernel
theorem dX10_init_29 : decode cX10_init 29 = .ok (.aload_n 0, 1) := by decide +kernel
theorem dX10_init_30 : decode cX10_init 30 = .ok (.sipush 840, 3) := by decide +kernel
theorem dX10_init_33 : decode cX10_init 33 = .ok (.newarray .int, 2) := by decide +kernel
theorem dX10_init_35 : decode cX10_init 35 = .ok (.putfield 19, 3) := by decide +kernel
theorem dX10_init_38 : decode cX10_init 38 = .ok (.aload_n 0, 1) := by decide +kernel
theorem dX10_init_39 : decode cX10_init 39 = .ok (.bipush 14, 2) := by decide +kernel
theorem dX10_init_41 : decode cX10_init 41 = .ok (.newarray .int, 2) := by decide +kernel
theorem dX10_init_43 : decode cX10_init 43 = .ok (.putfield 22, 3) := by decide +kernel
theorem dX10_init_46 : decode cX10_init 46 = .ok (.aload_n 0, 1) := by decide +kernel
theorem dX10_init_47 : decode cX10_init 47 = .ok (.bipush 87, 2) := by decide +kernel
theorem dX10_init_49 : decode cX10_init 49 = .ok (.newarray .int, 2) := by decide +kernel
theorem dX10_init_51 : decode cX10_init 51 = .ok (.putfield 25, 3) := by decide +kernel
theorem dX10_init_54 : decode cX10_init 54 = .ok (.aload_n 0, 1) := by decide +kernel
theorem dX10_init_55 : decode cX10_init 55 = .ok (.bipush 60, 2) := by decide +kernel
theorem dX10_init_57 : decode cX10_init 57 = .ok (.newarray .char, 2) := by decide +kernel
theorem dX10_init_59 : decode cX10_init 59 = .ok (.putfield 28, 3) := by decide +kernel
theorem dX10_init_62 : decode cX10_init 62 = .ok (.aload_n 0, 1) := by decide +kernel
theorem dX10_init_63 : decode cX10_init 63 = .ok (.bipush 7, 2) := by decide +kernel
theorem dX10_init_65 : decode cX10_init 65 = .ok (.newarray .int, 2) := by decide +kernel
theorem dX10_init_67 : decode cX10_init 67 = .ok (.putfield 32, 3) := by decide +kernel
theorem dX10_init_70 : decode cX10_init 70 = .ok (.aload_n 0, 1) := by decide +kernel
theorem dX10_init_71 : decode cX10_init 71 = .ok (.bipush 6, 2) := by decide +kernel
theorem dX10_init_73 : decode cX10_init 73 = .ok (.newarray .int, 2) := by decide +kernel
theorem dX10_init_75 : decode cX10_init 75 = .ok (.putfield 35, 3) := by decide +kernel
theorem dX10_init_78 : decode cX10_init 78 = .ok (.aload_n 0, 1) := by decide +kernel
theorem dX10_init_79 : decode cX10_init 79 = .ok (.bipush 6, 2) := by decide +kernel
theorem dX10_init_81 : decode cX10_init 81 = .ok (.newarray .int, 2) := by decide +kernel
theorem dX10_init_83 : decode cX10_init 83 = .ok (.putfield 38, 3) := by decide +kernel
theorem dX10_init_86 : decode cX10_init 86 = .ok (.aload_n 0, 1) := by decide +kernel
theorem dX10_init_87 : decode cX10_init 87 = .ok (.bipush 7, 2) := by decide +kernel
theorem dX10_init_89 : decode cX10_init 89 = .ok (.newarray .int, 2) := by decide +kernel
theorem dX10_init_91 : decode cX10_init 91 = .ok (.putfield 41, 3) := by decide +kernel
theorem dX10_init_94 : decode cX10_init 94 = .ok (.aload_n 0, 1) := by decide +kernel
theorem dX10_init_95 : decode cX10_init 95 = .ok (.getfield 7, 3) := by decide +kernel
theorem dX10_init_98 : decode cX10_init 98 = .ok (.iconst 0, 1) := by decide +kernel
theorem dX10_init_99 : decode cX10_init 99 = .ok (.iconst 5, 1) := by decide +kernel
theorem dX10_init_100 : decode cX10_init 100 = .ok (.iastore, 1) := by decide +kernel
theorem dX10_init_101 : decode cX10_init 101 = .ok (.aload_n 0, 1) := by decide +kernel
theorem dX10_init_102 : decode cX10_init 102 = .ok (.invokevirtual 44, 3) := by decide +kernel
theorem dX10_init_105 : decode cX10_init 105 = .ok (.return_, 1) := by decide +kernel
theorem dX10_resets_0 : decode cX10_resets 0 = .ok (.iconst 1, 1) := by decide +kernel
theorem dX10_resets_1 : decode cX10_resets 1 = .ok (.istore_n 1, 1) := by decide +kernel
theorem dX10_resets_2 : decode cX10_resets 2 = .ok (.iload_n 1, 1) := by decide +kernel
theorem dX10_resets_3 : decode cX10_resets 3 = .ok (.bipush 87, 2) := by decide +kernel
theorem dX10_resets_5 : decode cX10_resets 5 = .ok (.if_icmp .ge 16, 3) := by decide +kernel
theorem dX10_resets_8 : decode cX10_resets 8 = .ok (.aload_n 0, 1) := by decide +kernel
theorem dX10_resets_9 : decode cX10_resets 9 = .ok (.getfield 7, 3) := by decide +kernel
theorem dX10_resets_12 : decode cX10_resets 12 = .ok (.iload_n 1, 1) := by decide +kernel
theorem dX10_resets_13 : decode cX10_resets 13 = .ok (.iconst 0, 1) := by decide +kernel
theorem dX10_resets_14 : decode cX10_resets 14 = .ok (.iastore, 1) := by decide +kernel
theorem dX10_resets_15 : decode cX10_resets 15 = .ok (.iinc 1 1, 3) := by decide +kernel
theorem dX10_resets_18 : decode cX10_resets 18 = .ok (.goto (-16), 3) := by decide +kernel
theorem dX10_resets_21 : decode cX10_resets 21 = .ok (.aload_n 0, 1) := by decide +kernel
theorem dX10_resets_22 : decode cX10_resets 22 = .ok (.getfield 7, 3) := by decide +kernel
theorem dX10_resets_25 : decode cX10_resets 25 = .ok (.iconst 2, 1) := by decide +kernel
theorem dX10_resets_26 : decode cX10_resets 26 = .ok (.iconst 1, 1) := by decide +kernel
theorem dX10_resets_27 : decode cX10_resets 27 = .ok (.iastore, 1) := by decide +kernel
theorem dX10_resets_28 : decode cX10_resets 28 = .ok (.aload_n 0, 1) := by decide +kernel
theorem dX10_resets_29 : decode cX10_resets 29 = .ok (.getfield 7, 3) := by decide +kernel
theorem dX10_resets_32 : decode cX10_resets 32 = .ok (.bipush 44, 2) := by decide +kernel
theorem dX10_resets_34 : decode cX10_resets 34 = .ok (.iconst 1, 1) := by decide +kernel
theorem dX10_resets_35 : decode cX10_resets 35 = .ok (.iastore, 1) := by decide +kernel
theorem dX10_resets_36 : decode cX10_resets 36 = .ok (.aload_n 0, 1) := by decide +kernel
theorem dX10_resets_37 : decode cX10_resets 37 = .ok (.getfield 7, 3) := by decide +kernel
theorem dX10_resets_40 : decode cX10_resets 40 = .ok (.bipush 46, 2) := by decide +kernel
theorem dX10_resets_42 : decode cX10_resets 42 = .ok (.iconst 1, 1) := by decide +kernel
theorem dX10_resets_43 : decode cX10_resets 43 = .ok (.iastore, 1) := by decide +kernel
theorem dX10_resets_44 : decode cX10_resets 44 = .ok (.return_, 1) := by decide +kernel
theorem dX10_in_0 : decode cX10_in 0 = .ok (.iload_n 0, 1) := by decide +kernel
theorem dX10_in_1 : decode cX10_in 1 = .ok (.iload_n 1, 1) := by decide +kernel
theorem dX10_in_2 : decode cX10_in 2 = .ok (.if_icmp .lt 12, 3) := by decide +kernel
theorem dX10_in_5 : decode cX10_in 5 = .ok (.iload_n 0, 1) := by decide +kernel
theorem dX10_in_6 : decode cX10_in 6 = .ok (.iload_n 2, 1) := by decide +kernel
theorem dX10_in_7 : decode cX10_in 7 = .ok (.if_icmp .gt 7, 3) := by decide +kernel
theorem dX10_in_10 : decode cX10_in 10 = .ok (.iconst 1, 1) := by decide +kernel
theorem dX10_in_11 : decode cX10_in 11 = .ok (.goto 4, 3) := by decide +kernel
theorem dX10_in_14 : decode cX10_in 14 = .ok (.iconst 0, 1) := by decide +kernel
theorem dX10_in_15 : decode cX10_in 15 = .ok (.ireturn, 1) := by decide +kernel
theorem dX10_noRegister_0 : decode cX10_noRegister 0 = .ok (.iload_n 0, 1) := by decide +kernel
theorem dX10_noRegister_1 : decode cX10_noRegister 1 = .ok (.iconst 0, 1) := by decide +kernel
theorem dX10_noRegister_2 : decode cX10_noRegister 2 = .ok (.iconst 5, 1) := by decide +kernel
theorem dX10_noRegister_3 : decode cX10_noRegister 3 = .ok (.invokestatic 47, 3) := by decide +kernel
theorem dX10_noRegister_6 : decode cX10_noRegister 6 = .ok (.ifCond .ne 7, 3) := by decide +kernel
theorem dX10_noRegister_9 : decode cX10_noRegister 9 = .ok (.iconst 1, 1) := by decide +kernel
theorem dX10_noRegister_10 : decode cX10_noRegister 10 = .ok (.goto 4, 3) := by decide +kernel
theorem dX10_noRegister_13 : decode cX10_noRegister 13 = .ok (.iconst 0, 1) := by decide +kernel
theorem dX10_noRegister_14 : decode cX10_noRegister 14 = .ok (.ireturn, 1) := by decide +kernel
theorem dX10_noBranch_0 : decode cX10_noBranch 0 = .ok (.iload_n 1, 1) := by decide +kernel
theorem dX10_noBranch_1 : decode cX10_noBranch 1 = .ok (.iconst 0, 1) := by decide +kernel
theorem dX10_noBranch_2 : decode cX10_noBranch 2 = .ok (.aload_n 0, 1) := by decide +kernel
theorem dX10_noBranch_3 : decode cX10_noBranch 3 = .ok (.getfield 7, 3) := by decide +kernel
theorem dX10_noBranch_6 : decode cX10_noBranch 6 = .ok (.bipush 44, 2) := by decide +kernel
theorem dX10_noBranch_8 : decode cX10_noBranch 8 = .ok (.iaload, 1) := by decide +kernel
theorem dX10_noBranch_9 : decode cX10_noBranch 9 = .ok (.iconst 1, 1) := by decide +kernel
theorem dX10_noBranch_10 : decode cX10_noBranch 10 = .ok (.isub, 1) := by decide +kernel
theorem dX10_noBranch_11 : decode cX10_noBranch 11 = .ok (.invokestatic 47, 3) := by decide +kernel
theorem dX10_noBranch_14 : decode cX10_noBranch 14 = .ok (.ifCond .ne 7, 3) := by decide +kernel
theorem dX10_noBranch_17 : decode cX10_noBranch 17 = .ok (.iconst 1, 1) := by decide +kernel
theorem dX10_noBranch_18 : decode cX10_noBranch 18 = .ok (.goto 4, 3) := by decide +kernel
theorem dX10_noBranch_21 : decode cX10_noBranch 21 = .ok (.iconst 0, 1) := by decide +kernel
theorem dX10_noBranch_22 : decode cX10_noBranch 22 = .ok (.ireturn, 1) := by decide +kernel
theorem dX10_record_0 : decode cX10_record 0 = .ok (.aload_n 0, 1) := by decide +kernel
theorem dX10_record_1 : decode cX10_record 1 = .ok (.getfield 51, 3) := by decide +kernel
theorem dX10_record_4 : decode cX10_record 4 = .ok (.iconst 4, 1) := by decide +kernel
theorem dX10_record_5 : decode cX10_record 5 = .ok (.if_icmp .ne 43, 3) := by decide +kernel
theorem dX10_record_8 : decode cX10_record 8 = .ok (.iconst 0, 1) := by decide +kernel
theorem dX10_record_9 : decode cX10_record 9 = .ok (.istore_n 1, 1) := by decide +kernel
theorem dX10_record_10 : decode cX10_record 10 = .ok (.iload_n 1, 1) := by decide +kernel
theorem dX10_record_11 : decode cX10_record 11 = .ok (.sipush 261, 3) := by decide +kernel
theorem dX10_record_14 : decode cX10_record 14 = .ok (.if_icmp .ge 24, 3) := by decide +kernel
theorem dX10_record_17 : decode cX10_record 17 = .ok (.aload_n 0, 1) := by decide +kernel
theorem dX10_record_18 : decode cX10_record 18 = .ok (.getfield 13, 3) := by decide +kernel
theorem dX10_record_21 : decode cX10_record 21 = .ok (.iload_n 1, 1) := by decide +kernel
theorem dX10_record_22 : decode cX10_record 22 = .ok (.aload_n 0, 1) := by decide +kernel
theorem dX10_record_23 : decode cX10_record 23 = .ok (.getfield 13, 3) := by decide +kernel
theorem dX10_record_26 : decode cX10_record 26 = .ok (.iload_n 1, 1) := by decide +kernel
theorem dX10_record_27 : decode cX10_record 27 = .ok (.bipush 87, 2) := by decide +kernel
theorem dX10_record_29 : decode cX10_record 29 = .ok (.iadd, 1) := by decide +kernel
theorem dX10_record_30 : decode cX10_record 30 = .ok (.iaload, 1) := by decide +kernel
theorem dX10_record_31 : decode cX10_record 31 = .ok (.iastore, 1) := by decide +kernel
theorem dX10_record_32 : decode cX10_record 32 = .ok (.iinc 1 1, 3) := by decide +kernel
theorem dX10_record_35 : decode cX10_record 35 = .ok (.goto (-25), 3) := by decide +kernel
theorem dX10_record_38 : decode cX10_record 38 = .ok (.aload_n 0, 1) := by decide +kernel
theorem dX10_record_39 : decode cX10_record 39 = .ok (.dup, 1) := by decide +kernel
theorem dX10_record_40 : decode cX10_record 40 = .ok (.getfield 51, 3) := by decide +kernel
theorem dX10_record_43 : decode cX10_record 43 = .ok (.iconst 1, 1) := by decide +kernel
theorem dX10_record_44 : decode cX10_record 44 = .ok (.isub, 1) := by decide +kernel
theorem dX10_record_45 : decode cX10_record 45 = .ok (.putfield 51, 3) := by decide +kernel
theorem dX10_record_48 : decode cX10_record 48 = .ok (.iconst 0, 1) := by decide +kernel
theorem dX10_record_49 : decode cX10_record 49 = .ok (.istore_n 1, 1) := by decide +kernel
theorem dX10_record_50 : decode cX10_record 50 = .ok (.iload_n 1, 1) := by decide +kernel
theorem dX10_record_51 : decode cX10_record 51 = .ok (.bipush 87, 2) := by decide +kernel
theorem dX10_record_53 : decode cX10_record 53 = .ok (.if_icmp .ge 29, 3) := by decide +kernel
theorem dX10_record_56 : decode cX10_record 56 = .ok (.aload_n 0, 1) := by decide +kernel
theorem dX10_record_57 : decode cX10_record 57 = .ok (.getfield 13, 3) := by decide +kernel
theorem dX10_record_60 : decode cX10_record 60 = .ok (.bipush 87, 2) := by decide +kernel
theorem dX10_record_62 : decode cX10_record 62 = .ok (.aload_n 0, 1) := by decide +kernel
theorem dX10_record_63 : decode cX10_record 63 = .ok (.getfield 51, 3) := by decide +kernel
theorem dX10_record_66 : decode cX10_record 66 = .ok (.imul, 1) := by decide +kernel
theorem dX10_record_67 : decode cX10_record 67 = .ok (.iload_n 1, 1) := by decide +kernel
theorem dX10_record_68 : decode cX10_record 68 = .ok (.iadd, 1) := by decide +kernel
theorem dX10_record_69 : decode cX10_record 69 = .ok (.aload_n 0, 1) := by decide +kernel
theorem dX10_record_70 : decode cX10_record 70 = .ok (.getfield 7, 3) := by decide +kernel
theorem dX10_record_73 : decode cX10_record 73 = .ok (.iload_n 1, 1) := by decide +kernel
theorem dX10_record_74 : decode cX10_record 74 = .ok (.iaload, 1) := by decide +kernel
theorem dX10_record_75 : decode cX10_record 75 = .ok (.iastore, 1) := by decide +kernel
theorem dX10_record_76 : decode cX10_record 76 = .ok (.iinc 1 1, 3) := by decide +kernel
theorem dX10_record_79 : decode cX10_record 79 = .ok (.goto (-29), 3) := by decide +kernel
theorem dX10_record_82 : decode cX10_record 82 = .ok (.aload_n 0, 1) := by decide +kernel
theorem dX10_record_83 : decode cX10_record 83 = .ok (.dup, 1) := by decide +kernel
theorem dX10_record_84 : decode cX10_record 84 = .ok (.getfield 51, 3) := by decide +kernel
theorem dX10_record_87 : decode cX10_record 87 = .ok (.iconst 1, 1) := by decide +kernel
theorem dX10_record_88 : decode cX10_record 88 = .ok (.iadd, 1) := by decide +kernel
theorem dX10_record_89 : decode cX10_record 89 = .ok (.putfield 51, 3) := by decide +kernel
theorem dX10_record_92 : decode cX10_record 92 = .ok (.return_, 1) := by decide +kernel
theorem dX10_of_0 : decode cX10_of 0 = .ok (.aload_n 0, 1) := by decide +kernel
theorem dX10_of_1 : decode cX10_of 1 = .ok (.getfield 19, 3) := by decide +kernel
theorem dX10_of_4 : decode cX10_of 4 = .ok (.bipush 14, 2) := by decide +kernel
theorem dX10_of_6 : decode cX10_of 6 = .ok (.iload_n 1, 1) := by decide +kernel
theorem dX10_of_7 : decode cX10_of 7 = .ok (.imul, 1) := by decide +kernel
theorem dX10_of_8 : decode cX10_of 8 = .ok (.iload_n 2, 1) := by decide +kernel
theorem dX10_of_9 : decode cX10_of 9 = .ok (.iadd, 1) := by decide +kernel
theorem dX10_of_10 : decode cX10_of 10 = .ok (.iaload, 1) := by decide +kernel
theorem dX10_of_11 : decode cX10_of 11 = .ok (.ireturn, 1) := by decide +kernel
theorem dX10_puts_0 : decode cX10_puts 0 = .ok (.aload_n 0, 1) := by decide +kernel
theorem dX10_puts_1 : decode cX10_puts 1 = .ok (.getfield 19, 3) := by decide +kernel
theorem dX10_puts_4 : decode cX10_puts 4 = .ok (.bipush 14, 2) := by decide +kernel
theorem dX10_puts_6 : decode cX10_puts 6 = .ok (.iload_n 1, 1) := by decide +kernel
theorem dX10_puts_7 : decode cX10_puts 7 = .ok (.imul, 1) := by decide +kernel
theorem dX10_puts_8 : decode cX10_puts 8 = .ok (.iload_n 2, 1) := by decide +kernel
theorem dX10_puts_9 : decode cX10_puts 9 = .ok (.iadd, 1) := by decide +kernel
theorem dX10_puts_10 : decode cX10_puts 10 = .ok (.iload_n 3, 1) := by decide +kernel
theorem dX10_puts_11 : decode cX10_puts 11 = .ok (.iastore, 1) := by decide +kernel
theorem dX10_puts_12 : decode cX10_puts 12 = .ok (.return_, 1) := by decide +kernel
theorem dX10_degree_0 : decode cX10_degree 0 = .ok (.bipush 13, 2) := by decide +kernel
theorem dX10_degree_2 : decode cX10_degree 2 = .ok (.istore_n 2, 1) := by decide +kernel
theorem dX10_degree_3 : decode cX10_degree 3 = .ok (.iload_n 2, 1) := by decide +kernel
theorem dX10_degree_4 : decode cX10_degree 4 = .ok (.ifCond .lt 18, 3) := by decide +kernel
theorem dX10_degree_7 : decode cX10_degree 7 = .ok (.aload_n 0, 1) := by decide +kernel
theorem dX10_degree_8 : decode cX10_degree 8 = .ok (.iload_n 1, 1) := by decide +kernel
theorem dX10_degree_9 : decode cX10_degree 9 = .ok (.iload_n 2, 1) := by decide +kernel
theorem dX10_degree_10 : decode cX10_degree 10 = .ok (.invokevirtual 55, 3) := by decide +kernel
theorem dX10_degree_13 : decode cX10_degree 13 = .ok (.ifCond .ne 9, 3) := by decide +kernel
theorem dX10_degree_16 : decode cX10_degree 16 = .ok (.iinc 2 (-1), 3) := by decide +kernel
theorem dX10_degree_19 : decode cX10_degree 19 = .ok (.goto (-16), 3) := by decide +kernel
theorem dX10_degree_22 : decode cX10_degree 22 = .ok (.iload_n 2, 1) := by decide +kernel
theorem dX10_degree_23 : decode cX10_degree 23 = .ok (.ireturn, 1) := by decide +kernel
theorem dX10_clears_0 : decode cX10_clears 0 = .ok (.iconst 0, 1) := by decide +kernel
theorem dX10_clears_1 : decode cX10_clears 1 = .ok (.istore_n 2, 1) := by decide +kernel
theorem dX10_clears_2 : decode cX10_clears 2 = .ok (.iload_n 2, 1) := by decide +kernel
theorem dX10_clears_3 : decode cX10_clears 3 = .ok (.bipush 14, 2) := by decide +kernel
theorem dX10_clears_5 : decode cX10_clears 5 = .ok (.if_icmp .ge 16, 3) := by decide +kernel
theorem dX10_clears_8 : decode cX10_clears 8 = .ok (.aload_n 0, 1) := by decide +kernel
theorem dX10_clears_9 : decode cX10_clears 9 = .ok (.iload_n 1, 1) := by decide +kernel
theorem dX10_clears_10 : decode cX10_clears 10 = .ok (.iload_n 2, 1) := by decide +kernel
theorem dX10_clears_11 : decode cX10_clears 11 = .ok (.iconst 0, 1) := by decide +kernel
theorem dX10_clears_12 : decode cX10_clears 12 = .ok (.invokevirtual 59, 3) := by decide +kernel
theorem dX10_clears_15 : decode cX10_clears 15 = .ok (.iinc 2 1, 3) := by decide +kernel
theorem dX10_clears_18 : decode cX10_clears 18 = .ok (.goto (-16), 3) := by decide +kernel
theorem dX10_clears_21 : decode cX10_clears 21 = .ok (.return_, 1) := by decide +kernel
theorem dX10_copies_0 : decode cX10_copies 0 = .ok (.iconst 0, 1) := by decide +kernel
theorem dX10_copies_1 : decode cX10_copies 1 = .ok (.istore_n 3, 1) := by decide +kernel
theorem dX10_copies_2 : decode cX10_copies 2 = .ok (.iload_n 3, 1) := by decide +kernel
theorem dX10_copies_3 : decode cX10_copies 3 = .ok (.bipush 14, 2) := by decide +kernel
theorem dX10_copies_5 : decode cX10_copies 5 = .ok (.if_icmp .ge 21, 3) := by decide +kernel
theorem dX10_copies_8 : decode cX10_copies 8 = .ok (.aload_n 0, 1) := by decide +kernel
theorem dX10_copies_9 : decode cX10_copies 9 = .ok (.iload_n 2, 1) := by decide +kernel
theorem dX10_copies_10 : decode cX10_copies 10 = .ok (.iload_n 3, 1) := by decide +kernel
theorem dX10_copies_11 : decode cX10_copies 11 = .ok (.aload_n 0, 1) := by decide +kernel
theorem dX10_copies_12 : decode cX10_copies 12 = .ok (.iload_n 1, 1) := by decide +kernel
theorem dX10_copies_13 : decode cX10_copies 13 = .ok (.iload_n 3, 1) := by decide +kernel
theorem dX10_copies_14 : decode cX10_copies 14 = .ok (.invokevirtual 55, 3) := by decide +kernel
theorem dX10_copies_17 : decode cX10_copies 17 = .ok (.invokevirtual 59, 3) := by decide +kernel
theorem dX10_copies_20 : decode cX10_copies 20 = .ok (.iinc 3 1, 3) := by decide +kernel
theorem dX10_copies_23 : decode cX10_copies 23 = .ok (.goto (-21), 3) := by decide +kernel
theorem dX10_copies_26 : decode cX10_copies 26 = .ok (.return_, 1) := by decide +kernel
theorem dX10_constant_0 : decode cX10_constant 0 = .ok (.aload_n 0, 1) := by decide +kernel
theorem dX10_constant_1 : decode cX10_constant 1 = .ok (.iload_n 1, 1) := by decide +kernel
theorem dX10_constant_2 : decode cX10_constant 2 = .ok (.invokevirtual 63, 3) := by decide +kernel
theorem dX10_constant_5 : decode cX10_constant 5 = .ok (.aload_n 0, 1) := by decide +kernel
theorem dX10_constant_6 : decode cX10_constant 6 = .ok (.iload_n 1, 1) := by decide +kernel
theorem dX10_constant_7 : decode cX10_constant 7 = .ok (.iconst 0, 1) := by decide +kernel
theorem dX10_constant_8 : decode cX10_constant 8 = .ok (.iload_n 2, 1) := by decide +kernel
theorem dX10_constant_9 : decode cX10_constant 9 = .ok (.aload_n 0, 1) := by decide +kernel
theorem dX10_constant_10 : decode cX10_constant 10 = .ok (.getfield 7, 3) := by decide +kernel
theorem dX10_constant_13 : decode cX10_constant 13 = .ok (.iconst 0, 1) := by decide +kernel
theorem dX10_constant_14 : decode cX10_constant 14 = .ok (.iaload, 1) := by decide +kernel
theorem dX10_constant_15 : decode cX10_constant 15 = .ok (.irem, 1) := by decide +kernel
theorem dX10_constant_16 : decode cX10_constant 16 = .ok (.invokevirtual 59, 3) := by decide +kernel
theorem dX10_constant_19 : decode cX10_constant 19 = .ok (.return_, 1) := by decide +kernel
theorem dX10_loads_0 : decode cX10_loads 0 = .ok (.aload_n 0, 1) := by decide +kernel
theorem dX10_loads_1 : decode cX10_loads 1 = .ok (.iload_n 3, 1) := by decide +kernel
theorem dX10_loads_2 : decode cX10_loads 2 = .ok (.invokevirtual 63, 3) := by decide +kernel
theorem dX10_loads_5 : decode cX10_loads 5 = .ok (.iconst 0, 1) := by decide +kernel
theorem dX10_loads_6 : decode cX10_loads 6 = .ok (.istore 4, 2) := by decide +kernel
theorem dX10_loads_8 : decode cX10_loads 8 = .ok (.iload 4, 2) := by decide +kernel
theorem dX10_loads_10 : decode cX10_loads 10 = .ok (.iload_n 2, 1) := by decide +kernel
theorem dX10_loads_11 : decode cX10_loads 11 = .ok (.if_icmp .ge 25, 3) := by decide +kernel
theorem dX10_loads_14 : decode cX10_loads 14 = .ok (.aload_n 0, 1) := by decide +kernel
theorem dX10_loads_15 : decode cX10_loads 15 = .ok (.iload_n 3, 1) := by decide +kernel
theorem dX10_loads_16 : decode cX10_loads 16 = .ok (.iload 4, 2) := by decide +kernel
theorem dX10_loads_18 : decode cX10_loads 18 = .ok (.aload_n 0, 1) := by decide +kernel
theorem dX10_loads_19 : decode cX10_loads 19 = .ok (.getfield 7, 3) := by decide +kernel
theorem dX10_loads_22 : decode cX10_loads 22 = .ok (.iload_n 1, 1) := by decide +kernel
theorem dX10_loads_23 : decode cX10_loads 23 = .ok (.iload 4, 2) := by decide +kernel
theorem dX10_loads_25 : decode cX10_loads 25 = .ok (.iadd, 1) := by decide +kernel
theorem dX10_loads_26 : decode cX10_loads 26 = .ok (.iaload, 1) := by decide +kernel
theorem dX10_loads_27 : decode cX10_loads 27 = .ok (.invokevirtual 59, 3) := by decide +kernel
theorem dX10_loads_30 : decode cX10_loads 30 = .ok (.iinc 4 1, 3) := by decide +kernel
theorem dX10_loads_33 : decode cX10_loads 33 = .ok (.goto (-25), 3) := by decide +kernel
theorem dX10_loads_36 : decode cX10_loads 36 = .ok (.return_, 1) := by decide +kernel
theorem dX10_loadsModulus_0 : decode cX10_loadsModulus 0 = .ok (.aload_n 0, 1) := by decide +kernel
theorem dX10_loadsModulus_1 : decode cX10_loadsModulus 1 = .ok (.iconst 1, 1) := by decide +kernel
theorem dX10_loadsModulus_2 : decode cX10_loadsModulus 2 = .ok (.bipush 7, 2) := by decide +kernel
theorem dX10_loadsModulus_4 : decode cX10_loadsModulus 4 = .ok (.iconst 0, 1) := by decide +kernel
theorem dX10_loadsModulus_5 : decode cX10_loadsModulus 5 = .ok (.invokevirtual 67, 3) := by decide +kernel
theorem dX10_loadsModulus_8 : decode cX10_loadsModulus 8 = .ok (.return_, 1) := by decide +kernel
theorem dX10_loadsBranch_0 : decode cX10_loadsBranch 0 = .ok (.aload_n 0, 1) := by decide +kernel
theorem dX10_loadsBranch_1 : decode cX10_loadsBranch 1 = .ok (.bipush 45, 2) := by decide +kernel
theorem dX10_loadsBranch_3 : decode cX10_loadsBranch 3 = .ok (.bipush 7, 2) := by decide +kernel
theorem dX10_loadsBranch_5 : decode cX10_loadsBranch 5 = .ok (.iload_n 1, 1) := by decide +kernel
theorem dX10_loadsBranch_6 : decode cX10_loadsBranch 6 = .ok (.imul, 1) := by decide +kernel
theorem dX10_loadsBranch_7 : decode cX10_loadsBranch 7 = .ok (.iadd, 1) := by decide +kernel
theorem dX10_loadsBranch_8 : decode cX10_loadsBranch 8 = .ok (.bipush 7, 2) := by decide +kernel
theorem dX10_loadsBranch_10 : decode cX10_loadsBranch 10 = .ok (.iload_n 2, 1) := by decide +kernel
theorem dX10_loadsBranch_11 : decode cX10_loadsBranch 11 = .ok (.invokevirtual 67, 3) := by decide +kernel
theorem dX10_loadsBranch_14 : decode cX10_loadsBranch 14 = .ok (.return_, 1) := by decide +kernel
theorem dX10_loadsNumber_0 : decode cX10_loadsNumber 0 = .ok (.aload_n 0, 1) := by decide +kernel
theorem dX10_loadsNumber_1 : decode cX10_loadsNumber 1 = .ok (.bipush 8, 2) := by decide +kernel
theorem dX10_loadsNumber_3 : decode cX10_loadsNumber 3 = .ok (.bipush 6, 2) := by decide +kernel
theorem dX10_loadsNumber_5 : decode cX10_loadsNumber 5 = .ok (.iload_n 1, 1) := by decide +kernel
theorem dX10_loadsNumber_6 : decode cX10_loadsNumber 6 = .ok (.imul, 1) := by decide +kernel
theorem dX10_loadsNumber_7 : decode cX10_loadsNumber 7 = .ok (.iadd, 1) := by decide +kernel
theorem dX10_loadsNumber_8 : decode cX10_loadsNumber 8 = .ok (.bipush 6, 2) := by decide +kernel
theorem dX10_loadsNumber_10 : decode cX10_loadsNumber 10 = .ok (.iload_n 2, 1) := by decide +kernel
theorem dX10_loadsNumber_11 : decode cX10_loadsNumber 11 = .ok (.invokevirtual 67, 3) := by decide +kernel
theorem dX10_loadsNumber_14 : decode cX10_loadsNumber 14 = .ok (.return_, 1) := by decide +kernel
theorem dX10_inverse_0 : decode cX10_inverse 0 = .ok (.iconst 1, 1) := by decide +kernel
theorem dX10_inverse_1 : decode cX10_inverse 1 = .ok (.istore_n 2, 1) := by decide +kernel
theorem dX10_inverse_2 : decode cX10_inverse 2 = .ok (.iload_n 1, 1) := by decide +kernel
theorem dX10_inverse_3 : decode cX10_inverse 3 = .ok (.iload_n 2, 1) := by decide +kernel
theorem dX10_inverse_4 : decode cX10_inverse 4 = .ok (.imul, 1) := by decide +kernel
theorem dX10_inverse_5 : decode cX10_inverse 5 = .ok (.aload_n 0, 1) := by decide +kernel
theorem dX10_inverse_6 : decode cX10_inverse 6 = .ok (.getfield 7, 3) := by decide +kernel
theorem dX10_inverse_9 : decode cX10_inverse 9 = .ok (.iconst 0, 1) := by decide +kernel
theorem dX10_inverse_10 : decode cX10_inverse 10 = .ok (.iaload, 1) := by decide +kernel
theorem dX10_inverse_11 : decode cX10_inverse 11 = .ok (.irem, 1) := by decide +kernel
theorem dX10_inverse_12 : decode cX10_inverse 12 = .ok (.iconst 1, 1) := by decide +kernel
theorem dX10_inverse_13 : decode cX10_inverse 13 = .ok (.if_icmp .eq 9, 3) := by decide +kernel
theorem dX10_inverse_16 : decode cX10_inverse 16 = .ok (.iinc 2 1, 3) := by decide +kernel
theorem dX10_inverse_19 : decode cX10_inverse 19 = .ok (.goto (-17), 3) := by decide +kernel
theorem dX10_inverse_22 : decode cX10_inverse 22 = .ok (.iload_n 2, 1) := by decide +kernel
theorem dX10_inverse_23 : decode cX10_inverse 23 = .ok (.ireturn, 1) := by decide +kernel
theorem dX10_adds_0 : decode cX10_adds 0 = .ok (.aload_n 0, 1) := by decide +kernel
theorem dX10_adds_1 : decode cX10_adds 1 = .ok (.getfield 7, 3) := by decide +kernel
theorem dX10_adds_4 : decode cX10_adds 4 = .ok (.iconst 0, 1) := by decide +kernel
theorem dX10_adds_5 : decode cX10_adds 5 = .ok (.iaload, 1) := by decide +kernel
theorem dX10_adds_6 : decode cX10_adds 6 = .ok (.istore 4, 2) := by decide +kernel
theorem dX10_adds_8 : decode cX10_adds 8 = .ok (.iconst 0, 1) := by decide +kernel
theorem dX10_adds_9 : decode cX10_adds 9 = .ok (.istore 5, 2) := by decide +kernel
theorem dX10_adds_11 : decode cX10_adds 11 = .ok (.iload 5, 2) := by decide +kernel
theorem dX10_adds_13 : decode cX10_adds 13 = .ok (.bipush 14, 2) := by decide +kernel
theorem dX10_adds_15 : decode cX10_adds 15 = .ok (.if_icmp .ge 36, 3) := by decide +kernel
theorem dX10_adds_18 : decode cX10_adds 18 = .ok (.aload_n 0, 1) := by decide +kernel
theorem dX10_adds_19 : decode cX10_adds 19 = .ok (.iload_n 2, 1) := by decide +kernel
theorem dX10_adds_20 : decode cX10_adds 20 = .ok (.iload 5, 2) := by decide +kernel
theorem dX10_adds_22 : decode cX10_adds 22 = .ok (.aload_n 0, 1) := by decide +kernel
theorem dX10_adds_23 : decode cX10_adds 23 = .ok (.iload_n 2, 1) := by decide +kernel
theorem dX10_adds_24 : decode cX10_adds 24 = .ok (.iload 5, 2) := by decide +kernel
theorem dX10_adds_26 : decode cX10_adds 26 = .ok (.invokevirtual 55, 3) := by decide +kernel
theorem dX10_adds_29 : decode cX10_adds 29 = .ok (.iload_n 3, 1) := by decide +kernel
theorem dX10_adds_30 : decode cX10_adds 30 = .ok (.aload_n 0, 1) := by decide +kernel
theorem dX10_adds_31 : decode cX10_adds 31 = .ok (.iload_n 1, 1) := by decide +kernel
theorem dX10_adds_32 : decode cX10_adds 32 = .ok (.iload 5, 2) := by decide +kernel
theorem dX10_adds_34 : decode cX10_adds 34 = .ok (.invokevirtual 55, 3) := by decide +kernel
theorem dX10_adds_37 : decode cX10_adds 37 = .ok (.imul, 1) := by decide +kernel
theorem dX10_adds_38 : decode cX10_adds 38 = .ok (.iadd, 1) := by decide +kernel
theorem dX10_adds_39 : decode cX10_adds 39 = .ok (.iload 4, 2) := by decide +kernel
theorem dX10_adds_41 : decode cX10_adds 41 = .ok (.irem, 1) := by decide +kernel
theorem dX10_adds_42 : decode cX10_adds 42 = .ok (.invokevirtual 59, 3) := by decide +kernel
theorem dX10_adds_45 : decode cX10_adds 45 = .ok (.iinc 5 1, 3) := by decide +kernel
theorem dX10_adds_48 : decode cX10_adds 48 = .ok (.goto (-37), 3) := by decide +kernel
theorem dX10_adds_51 : decode cX10_adds 51 = .ok (.return_, 1) := by decide +kernel
theorem dX10_multiplies_0 : decode cX10_multiplies 0 = .ok (.aload_n 0, 1) := by decide +kernel
theorem dX10_multiplies_1 : decode cX10_multiplies 1 = .ok (.getfield 7, 3) := by decide +kernel
theorem dX10_multiplies_4 : decode cX10_multiplies 4 = .ok (.iconst 0, 1) := by decide +kernel
theorem dX10_multiplies_5 : decode cX10_multiplies 5 = .ok (.iaload, 1) := by decide +kernel
theorem dX10_multiplies_6 : decode cX10_multiplies 6 = .ok (.istore 4, 2) := by decide +kernel
theorem dX10_multiplies_8 : decode cX10_multiplies 8 = .ok (.aload_n 0, 1) := by decide +kernel
theorem dX10_multiplies_9 : decode cX10_multiplies 9 = .ok (.iload_n 2, 1) := by decide +kernel
theorem dX10_multiplies_10 : decode cX10_multiplies 10 = .ok (.invokevirtual 70, 3) := by decide +kernel
theorem dX10_multiplies_13 : decode cX10_multiplies 13 = .ok (.istore 5, 2) := by decide +kernel
theorem dX10_multiplies_15 : decode cX10_multiplies 15 = .ok (.iconst 0, 1) := by decide +kernel
theorem dX10_multiplies_16 : decode cX10_multiplies 16 = .ok (.istore 6, 2) := by decide +kernel
theorem dX10_multiplies_18 : decode cX10_multiplies 18 = .ok (.iload 6, 2) := by decide +kernel
theorem dX10_multiplies_20 : decode cX10_multiplies 20 = .ok (.bipush 14, 2) := by decide +kernel
theorem dX10_multiplies_22 : decode cX10_multiplies 22 = .ok (.if_icmp .ge 17, 3) := by decide +kernel
theorem dX10_multiplies_25 : decode cX10_multiplies 25 = .ok (.aload_n 0, 1) := by decide +kernel
theorem dX10_multiplies_26 : decode cX10_multiplies 26 = .ok (.getfield 22, 3) := by decide +kernel
theorem dX10_multiplies_29 : decode cX10_multiplies 29 = .ok (.iload 6, 2) := by decide +kernel
theorem dX10_multiplies_31 : decode cX10_multiplies 31 = .ok (.iconst 0, 1) := by decide +kernel
theorem dX10_multiplies_32 : decode cX10_multiplies 32 = .ok (.iastore, 1) := by decide +kernel
theorem dX10_multiplies_33 : decode cX10_multiplies 33 = .ok (.iinc 6 1, 3) := by decide +kernel
theorem dX10_multiplies_36 : decode cX10_multiplies 36 = .ok (.goto (-18), 3) := by decide +kernel
theorem dX10_multiplies_39 : decode cX10_multiplies 39 = .ok (.aload_n 0, 1) := by decide +kernel
theorem dX10_multiplies_40 : decode cX10_multiplies 40 = .ok (.iload_n 1, 1) := by decide +kernel
theorem dX10_multiplies_41 : decode cX10_multiplies 41 = .ok (.invokevirtual 70, 3) := by decide +kernel
theorem dX10_multiplies_44 : decode cX10_multiplies 44 = .ok (.istore 6, 2) := by decide +kernel
theorem dX10_multiplies_46 : decode cX10_multiplies 46 = .ok (.iload 6, 2) := by decide +kernel
theorem dX10_multiplies_48 : decode cX10_multiplies 48 = .ok (.ifCond .lt 64, 3) := by decide +kernel
theorem dX10_multiplies_51 : decode cX10_multiplies 51 = .ok (.iconst 0, 1) := by decide +kernel
theorem dX10_multiplies_52 : decode cX10_multiplies 52 = .ok (.istore 7, 2) := by decide +kernel
theorem dX10_multiplies_54 : decode cX10_multiplies 54 = .ok (.iload 7, 2) := by decide +kernel
theorem dX10_multiplies_56 : decode cX10_multiplies 56 = .ok (.iload 5, 2) := by decide +kernel
theorem dX10_multiplies_58 : decode cX10_multiplies 58 = .ok (.if_icmp .gt 48, 3) := by decide +kernel
theorem dX10_multiplies_61 : decode cX10_multiplies 61 = .ok (.aload_n 0, 1) := by decide +kernel
theorem dX10_multiplies_62 : decode cX10_multiplies 62 = .ok (.getfield 22, 3) := by decide +kernel
theorem dX10_multiplies_65 : decode cX10_multiplies 65 = .ok (.iload 6, 2) := by decide +kernel
theorem dX10_multiplies_67 : decode cX10_multiplies 67 = .ok (.iload 7, 2) := by decide +kernel
theorem dX10_multiplies_69 : decode cX10_multiplies 69 = .ok (.iadd, 1) := by decide +kernel
theorem dX10_multiplies_70 : decode cX10_multiplies 70 = .ok (.aload_n 0, 1) := by decide +kernel
theorem dX10_multiplies_71 : decode cX10_multiplies 71 = .ok (.getfield 22, 3) := by decide +kernel
theorem dX10_multiplies_74 : decode cX10_multiplies 74 = .ok (.iload 6, 2) := by decide +kernel
theorem dX10_multiplies_76 : decode cX10_multiplies 76 = .ok (.iload 7, 2) := by decide +kernel
theorem dX10_multiplies_78 : decode cX10_multiplies 78 = .ok (.iadd, 1) := by decide +kernel
theorem dX10_multiplies_79 : decode cX10_multiplies 79 = .ok (.iaload, 1) := by decide +kernel
theorem dX10_multiplies_80 : decode cX10_multiplies 80 = .ok (.aload_n 0, 1) := by decide +kernel
theorem dX10_multiplies_81 : decode cX10_multiplies 81 = .ok (.iload_n 1, 1) := by decide +kernel
theorem dX10_multiplies_82 : decode cX10_multiplies 82 = .ok (.iload 6, 2) := by decide +kernel
theorem dX10_multiplies_84 : decode cX10_multiplies 84 = .ok (.invokevirtual 55, 3) := by decide +kernel
theorem dX10_multiplies_87 : decode cX10_multiplies 87 = .ok (.aload_n 0, 1) := by decide +kernel
theorem dX10_multiplies_88 : decode cX10_multiplies 88 = .ok (.iload_n 2, 1) := by decide +kernel
theorem dX10_multiplies_89 : decode cX10_multiplies 89 = .ok (.iload 7, 2) := by decide +kernel
theorem dX10_multiplies_91 : decode cX10_multiplies 91 = .ok (.invokevirtual 55, 3) := by decide +kernel
theorem dX10_multiplies_94 : decode cX10_multiplies 94 = .ok (.imul, 1) := by decide +kernel
theorem dX10_multiplies_95 : decode cX10_multiplies 95 = .ok (.iadd, 1) := by decide +kernel
theorem dX10_multiplies_96 : decode cX10_multiplies 96 = .ok (.iload 4, 2) := by decide +kernel
theorem dX10_multiplies_98 : decode cX10_multiplies 98 = .ok (.irem, 1) := by decide +kernel
theorem dX10_multiplies_99 : decode cX10_multiplies 99 = .ok (.iastore, 1) := by decide +kernel
theorem dX10_multiplies_100 : decode cX10_multiplies 100 = .ok (.iinc 7 1, 3) := by decide +kernel
theorem dX10_multiplies_103 : decode cX10_multiplies 103 = .ok (.goto (-49), 3) := by decide +kernel
theorem dX10_multiplies_106 : decode cX10_multiplies 106 = .ok (.iinc 6 (-1), 3) := by decide +kernel
theorem dX10_multiplies_109 : decode cX10_multiplies 109 = .ok (.goto (-63), 3) := by decide +kernel
theorem dX10_multiplies_112 : decode cX10_multiplies 112 = .ok (.iconst 0, 1) := by decide +kernel
theorem dX10_multiplies_113 : decode cX10_multiplies 113 = .ok (.istore 6, 2) := by decide +kernel
theorem dX10_multiplies_115 : decode cX10_multiplies 115 = .ok (.iload 6, 2) := by decide +kernel
theorem dX10_multiplies_117 : decode cX10_multiplies 117 = .ok (.bipush 14, 2) := by decide +kernel
theorem dX10_multiplies_119 : decode cX10_multiplies 119 = .ok (.if_icmp .ge 23, 3) := by decide +kernel
theorem dX10_multiplies_122 : decode cX10_multiplies 122 = .ok (.aload_n 0, 1) := by decide +kernel
theorem dX10_multiplies_123 : decode cX10_multiplies 123 = .ok (.iload_n 3, 1) := by decide +kernel
theorem dX10_multiplies_124 : decode cX10_multiplies 124 = .ok (.iload 6, 2) := by decide +kernel
theorem dX10_multiplies_126 : decode cX10_multiplies 126 = .ok (.aload_n 0, 1) := by decide +kernel
theorem dX10_multiplies_127 : decode cX10_multiplies 127 = .ok (.getfield 22, 3) := by decide +kernel
theorem dX10_multiplies_130 : decode cX10_multiplies 130 = .ok (.iload 6, 2) := by decide +kernel
theorem dX10_multiplies_132 : decode cX10_multiplies 132 = .ok (.iaload, 1) := by decide +kernel
theorem dX10_multiplies_133 : decode cX10_multiplies 133 = .ok (.invokevirtual 59, 3) := by decide +kernel
theorem dX10_multiplies_136 : decode cX10_multiplies 136 = .ok (.iinc 6 1, 3) := by decide +kernel
theorem dX10_multiplies_139 : decode cX10_multiplies 139 = .ok (.goto (-24), 3) := by decide +kernel
theorem dX10_multiplies_142 : decode cX10_multiplies 142 = .ok (.return_, 1) := by decide +kernel
theorem dX10_divides_0 : decode cX10_divides 0 = .ok (.aload_n 0, 1) := by decide +kernel
theorem dX10_divides_1 : decode cX10_divides 1 = .ok (.getfield 7, 3) := by decide +kernel
theorem dX10_divides_4 : decode cX10_divides 4 = .ok (.iconst 0, 1) := by decide +kernel
theorem dX10_divides_5 : decode cX10_divides 5 = .ok (.iaload, 1) := by decide +kernel
theorem dX10_divides_6 : decode cX10_divides 6 = .ok (.istore 4, 2) := by decide +kernel
theorem dX10_divides_8 : decode cX10_divides 8 = .ok (.aload_n 0, 1) := by decide +kernel
theorem dX10_divides_9 : decode cX10_divides 9 = .ok (.iload_n 2, 1) := by decide +kernel
theorem dX10_divides_10 : decode cX10_divides 10 = .ok (.invokevirtual 70, 3) := by decide +kernel
theorem dX10_divides_13 : decode cX10_divides 13 = .ok (.istore 5, 2) := by decide +kernel
theorem dX10_divides_15 : decode cX10_divides 15 = .ok (.aload_n 0, 1) := by decide +kernel
theorem dX10_divides_16 : decode cX10_divides 16 = .ok (.aload_n 0, 1) := by decide +kernel
theorem dX10_divides_17 : decode cX10_divides 17 = .ok (.iload_n 2, 1) := by decide +kernel
theorem dX10_divides_18 : decode cX10_divides 18 = .ok (.iload 5, 2) := by decide +kernel
theorem dX10_divides_20 : decode cX10_divides 20 = .ok (.invokevirtual 55, 3) := by decide +kernel
theorem dX10_divides_23 : decode cX10_divides 23 = .ok (.invokevirtual 74, 3) := by decide +kernel
theorem dX10_divides_26 : decode cX10_divides 26 = .ok (.istore 6, 2) := by decide +kernel
theorem dX10_divides_28 : decode cX10_divides 28 = .ok (.iload_n 3, 1) := by decide +kernel
theorem dX10_divides_29 : decode cX10_divides 29 = .ok (.ifCond .lt 8, 3) := by decide +kernel
theorem dX10_divides_32 : decode cX10_divides 32 = .ok (.aload_n 0, 1) := by decide +kernel
theorem dX10_divides_33 : decode cX10_divides 33 = .ok (.iload_n 3, 1) := by decide +kernel
theorem dX10_divides_34 : decode cX10_divides 34 = .ok (.invokevirtual 63, 3) := by decide +kernel
theorem dX10_divides_37 : decode cX10_divides 37 = .ok (.aload_n 0, 1) := by decide +kernel
theorem dX10_divides_38 : decode cX10_divides 38 = .ok (.iload_n 1, 1) := by decide +kernel
theorem dX10_divides_39 : decode cX10_divides 39 = .ok (.invokevirtual 70, 3) := by decide +kernel
theorem dX10_divides_42 : decode cX10_divides 42 = .ok (.istore 7, 2) := by decide +kernel
theorem dX10_divides_44 : decode cX10_divides 44 = .ok (.iload 7, 2) := by decide +kernel
theorem dX10_divides_46 : decode cX10_divides 46 = .ok (.iload 5, 2) := by decide +kernel
theorem dX10_divides_48 : decode cX10_divides 48 = .ok (.if_icmp .lt 103, 3) := by decide +kernel
theorem dX10_divides_51 : decode cX10_divides 51 = .ok (.aload_n 0, 1) := by decide +kernel
theorem dX10_divides_52 : decode cX10_divides 52 = .ok (.iload_n 1, 1) := by decide +kernel
theorem dX10_divides_53 : decode cX10_divides 53 = .ok (.iload 7, 2) := by decide +kernel
theorem dX10_divides_55 : decode cX10_divides 55 = .ok (.invokevirtual 55, 3) := by decide +kernel
theorem dX10_divides_58 : decode cX10_divides 58 = .ok (.iload 6, 2) := by decide +kernel
theorem dX10_divides_60 : decode cX10_divides 60 = .ok (.imul, 1) := by decide +kernel
theorem dX10_divides_61 : decode cX10_divides 61 = .ok (.iload 4, 2) := by decide +kernel
theorem dX10_divides_63 : decode cX10_divides 63 = .ok (.irem, 1) := by decide +kernel
theorem dX10_divides_64 : decode cX10_divides 64 = .ok (.istore 8, 2) := by decide +kernel
theorem dX10_divides_66 : decode cX10_divides 66 = .ok (.iconst 0, 1) := by decide +kernel
theorem dX10_divides_67 : decode cX10_divides 67 = .ok (.istore 9, 2) := by decide +kernel
theorem dX10_divides_69 : decode cX10_divides 69 = .ok (.iload 9, 2) := by decide +kernel
theorem dX10_divides_71 : decode cX10_divides 71 = .ok (.iload 5, 2) := by decide +kernel
theorem dX10_divides_73 : decode cX10_divides 73 = .ok (.if_icmp .gt 52, 3) := by decide +kernel
theorem dX10_divides_76 : decode cX10_divides 76 = .ok (.aload_n 0, 1) := by decide +kernel
theorem dX10_divides_77 : decode cX10_divides 77 = .ok (.iload_n 1, 1) := by decide +kernel
theorem dX10_divides_78 : decode cX10_divides 78 = .ok (.iload 7, 2) := by decide +kernel
theorem dX10_divides_80 : decode cX10_divides 80 = .ok (.iload 5, 2) := by decide +kernel
theorem dX10_divides_82 : decode cX10_divides 82 = .ok (.isub, 1) := by decide +kernel
theorem dX10_divides_83 : decode cX10_divides 83 = .ok (.iload 9, 2) := by decide +kernel
theorem dX10_divides_85 : decode cX10_divides 85 = .ok (.iadd, 1) := by decide +kernel
theorem dX10_divides_86 : decode cX10_divides 86 = .ok (.aload_n 0, 1) := by decide +kernel
theorem dX10_divides_87 : decode cX10_divides 87 = .ok (.iload_n 1, 1) := by decide +kernel
theorem dX10_divides_88 : decode cX10_divides 88 = .ok (.iload 7, 2) := by decide +kernel
theorem dX10_divides_90 : decode cX10_divides 90 = .ok (.iload 5, 2) := by decide +kernel
theorem dX10_divides_92 : decode cX10_divides 92 = .ok (.isub, 1) := by decide +kernel
theorem dX10_divides_93 : decode cX10_divides 93 = .ok (.iload 9, 2) := by decide +kernel
theorem dX10_divides_95 : decode cX10_divides 95 = .ok (.iadd, 1) := by decide +kernel
theorem dX10_divides_96 : decode cX10_divides 96 = .ok (.invokevirtual 55, 3) := by decide +kernel
theorem dX10_divides_99 : decode cX10_divides 99 = .ok (.iload 4, 2) := by decide +kernel
theorem dX10_divides_101 : decode cX10_divides 101 = .ok (.iload 8, 2) := by decide +kernel
theorem dX10_divides_103 : decode cX10_divides 103 = .ok (.isub, 1) := by decide +kernel
theorem dX10_divides_104 : decode cX10_divides 104 = .ok (.aload_n 0, 1) := by decide +kernel
theorem dX10_divides_105 : decode cX10_divides 105 = .ok (.iload_n 2, 1) := by decide +kernel
theorem dX10_divides_106 : decode cX10_divides 106 = .ok (.iload 9, 2) := by decide +kernel
theorem dX10_divides_108 : decode cX10_divides 108 = .ok (.invokevirtual 55, 3) := by decide +kernel
theorem dX10_divides_111 : decode cX10_divides 111 = .ok (.imul, 1) := by decide +kernel
theorem dX10_divides_112 : decode cX10_divides 112 = .ok (.iadd, 1) := by decide +kernel
theorem dX10_divides_113 : decode cX10_divides 113 = .ok (.iload 4, 2) := by decide +kernel
theorem dX10_divides_115 : decode cX10_divides 115 = .ok (.irem, 1) := by decide +kernel
theorem dX10_divides_116 : decode cX10_divides 116 = .ok (.invokevirtual 59, 3) := by decide +kernel
theorem dX10_divides_119 : decode cX10_divides 119 = .ok (.iinc 9 1, 3) := by decide +kernel
theorem dX10_divides_122 : decode cX10_divides 122 = .ok (.goto (-53), 3) := by decide +kernel
theorem dX10_divides_125 : decode cX10_divides 125 = .ok (.iload_n 3, 1) := by decide +kernel
theorem dX10_divides_126 : decode cX10_divides 126 = .ok (.ifCond .lt 15, 3) := by decide +kernel
theorem dX10_divides_129 : decode cX10_divides 129 = .ok (.aload_n 0, 1) := by decide +kernel
theorem dX10_divides_130 : decode cX10_divides 130 = .ok (.iload_n 3, 1) := by decide +kernel
theorem dX10_divides_131 : decode cX10_divides 131 = .ok (.iload 7, 2) := by decide +kernel
theorem dX10_divides_133 : decode cX10_divides 133 = .ok (.iload 5, 2) := by decide +kernel
theorem dX10_divides_135 : decode cX10_divides 135 = .ok (.isub, 1) := by decide +kernel
theorem dX10_divides_136 : decode cX10_divides 136 = .ok (.iload 8, 2) := by decide +kernel
theorem dX10_divides_138 : decode cX10_divides 138 = .ok (.invokevirtual 59, 3) := by decide +kernel
theorem dX10_divides_141 : decode cX10_divides 141 = .ok (.aload_n 0, 1) := by decide +kernel
theorem dX10_divides_142 : decode cX10_divides 142 = .ok (.iload_n 1, 1) := by decide +kernel
theorem dX10_divides_143 : decode cX10_divides 143 = .ok (.invokevirtual 70, 3) := by decide +kernel
theorem dX10_divides_146 : decode cX10_divides 146 = .ok (.istore 7, 2) := by decide +kernel
theorem dX10_divides_148 : decode cX10_divides 148 = .ok (.goto (-104), 3) := by decide +kernel
theorem dX10_divides_151 : decode cX10_divides 151 = .ok (.return_, 1) := by decide +kernel
theorem dX10_monic_0 : decode cX10_monic 0 = .ok (.aload_n 0, 1) := by decide +kernel
theorem dX10_monic_1 : decode cX10_monic 1 = .ok (.aload_n 0, 1) := by decide +kernel
theorem dX10_monic_2 : decode cX10_monic 2 = .ok (.iload_n 1, 1) := by decide +kernel
theorem dX10_monic_3 : decode cX10_monic 3 = .ok (.aload_n 0, 1) := by decide +kernel
theorem dX10_monic_4 : decode cX10_monic 4 = .ok (.iload_n 1, 1) := by decide +kernel
theorem dX10_monic_5 : decode cX10_monic 5 = .ok (.invokevirtual 70, 3) := by decide +kernel
theorem dX10_monic_8 : decode cX10_monic 8 = .ok (.invokevirtual 55, 3) := by decide +kernel
theorem dX10_monic_11 : decode cX10_monic 11 = .ok (.invokevirtual 74, 3) := by decide +kernel
theorem dX10_monic_14 : decode cX10_monic 14 = .ok (.istore_n 2, 1) := by decide +kernel
theorem dX10_monic_15 : decode cX10_monic 15 = .ok (.iconst 0, 1) := by decide +kernel
theorem dX10_monic_16 : decode cX10_monic 16 = .ok (.istore_n 3, 1) := by decide +kernel
theorem dX10_monic_17 : decode cX10_monic 17 = .ok (.iload_n 3, 1) := by decide +kernel
theorem dX10_monic_18 : decode cX10_monic 18 = .ok (.bipush 14, 2) := by decide +kernel
theorem dX10_monic_20 : decode cX10_monic 20 = .ok (.if_icmp .ge 30, 3) := by decide +kernel
theorem dX10_monic_23 : decode cX10_monic 23 = .ok (.aload_n 0, 1) := by decide +kernel
theorem dX10_monic_24 : decode cX10_monic 24 = .ok (.iload_n 1, 1) := by decide +kernel
theorem dX10_monic_25 : decode cX10_monic 25 = .ok (.iload_n 3, 1) := by decide +kernel
theorem dX10_monic_26 : decode cX10_monic 26 = .ok (.aload_n 0, 1) := by decide +kernel
theorem dX10_monic_27 : decode cX10_monic 27 = .ok (.iload_n 1, 1) := by decide +kernel
theorem dX10_monic_28 : decode cX10_monic 28 = .ok (.iload_n 3, 1) := by decide +kernel
theorem dX10_monic_29 : decode cX10_monic 29 = .ok (.invokevirtual 55, 3) := by decide +kernel
theorem dX10_monic_32 : decode cX10_monic 32 = .ok (.iload_n 2, 1) := by decide +kernel
theorem dX10_monic_33 : decode cX10_monic 33 = .ok (.imul, 1) := by decide +kernel
theorem dX10_monic_34 : decode cX10_monic 34 = .ok (.aload_n 0, 1) := by decide +kernel
theorem dX10_monic_35 : decode cX10_monic 35 = .ok (.getfield 7, 3) := by decide +kernel
theorem dX10_monic_38 : decode cX10_monic 38 = .ok (.iconst 0, 1) := by decide +kernel
theorem dX10_monic_39 : decode cX10_monic 39 = .ok (.iaload, 1) := by decide +kernel
theorem dX10_monic_40 : decode cX10_monic 40 = .ok (.irem, 1) := by decide +kernel
theorem dX10_monic_41 : decode cX10_monic 41 = .ok (.invokevirtual 59, 3) := by decide +kernel
theorem dX10_monic_44 : decode cX10_monic 44 = .ok (.iinc 3 1, 3) := by decide +kernel
theorem dX10_monic_47 : decode cX10_monic 47 = .ok (.goto (-30), 3) := by decide +kernel
theorem dX10_monic_50 : decode cX10_monic 50 = .ok (.return_, 1) := by decide +kernel
theorem dX10_common_0 : decode cX10_common 0 = .ok (.aload_n 0, 1) := by decide +kernel
theorem dX10_common_1 : decode cX10_common 1 = .ok (.iload_n 1, 1) := by decide +kernel
theorem dX10_common_2 : decode cX10_common 2 = .ok (.bipush 12, 2) := by decide +kernel
theorem dX10_common_4 : decode cX10_common 4 = .ok (.invokevirtual 77, 3) := by decide +kernel
theorem dX10_common_7 : decode cX10_common 7 = .ok (.aload_n 0, 1) := by decide +kernel
theorem dX10_common_8 : decode cX10_common 8 = .ok (.iload_n 2, 1) := by decide +kernel
theorem dX10_common_9 : decode cX10_common 9 = .ok (.bipush 13, 2) := by decide +kernel
theorem dX10_common_11 : decode cX10_common 11 = .ok (.invokevirtual 77, 3) := by decide +kernel
theorem dX10_common_14 : decode cX10_common 14 = .ok (.aload_n 0, 1) := by decide +kernel
theorem dX10_common_15 : decode cX10_common 15 = .ok (.bipush 13, 2) := by decide +kernel
theorem dX10_common_17 : decode cX10_common 17 = .ok (.invokevirtual 70, 3) := by decide +kernel
theorem dX10_common_20 : decode cX10_common 20 = .ok (.ifCond .lt 39, 3) := by decide +kernel
theorem dX10_common_23 : decode cX10_common 23 = .ok (.aload_n 0, 1) := by decide +kernel
theorem dX10_common_24 : decode cX10_common 24 = .ok (.bipush 12, 2) := by decide +kernel
theorem dX10_common_26 : decode cX10_common 26 = .ok (.bipush 13, 2) := by decide +kernel
theorem dX10_common_28 : decode cX10_common 28 = .ok (.iconst (-1), 1) := by decide +kernel
theorem dX10_common_29 : decode cX10_common 29 = .ok (.invokevirtual 81, 3) := by decide +kernel
theorem dX10_common_32 : decode cX10_common 32 = .ok (.aload_n 0, 1) := by decide +kernel
theorem dX10_common_33 : decode cX10_common 33 = .ok (.bipush 12, 2) := by decide +kernel
theorem dX10_common_35 : decode cX10_common 35 = .ok (.bipush 11, 2) := by decide +kernel
theorem dX10_common_37 : decode cX10_common 37 = .ok (.invokevirtual 77, 3) := by decide +kernel
theorem dX10_common_40 : decode cX10_common 40 = .ok (.aload_n 0, 1) := by decide +kernel
theorem dX10_common_41 : decode cX10_common 41 = .ok (.bipush 13, 2) := by decide +kernel
theorem dX10_common_43 : decode cX10_common 43 = .ok (.bipush 12, 2) := by decide +kernel
theorem dX10_common_45 : decode cX10_common 45 = .ok (.invokevirtual 77, 3) := by decide +kernel
theorem dX10_common_48 : decode cX10_common 48 = .ok (.aload_n 0, 1) := by decide +kernel
theorem dX10_common_49 : decode cX10_common 49 = .ok (.bipush 11, 2) := by decide +kernel
theorem dX10_common_51 : decode cX10_common 51 = .ok (.bipush 13, 2) := by decide +kernel
theorem dX10_common_53 : decode cX10_common 53 = .ok (.invokevirtual 77, 3) := by decide +kernel
theorem dX10_common_56 : decode cX10_common 56 = .ok (.goto (-42), 3) := by decide +kernel
theorem dX10_common_59 : decode cX10_common 59 = .ok (.aload_n 0, 1) := by decide +kernel
theorem dX10_common_60 : decode cX10_common 60 = .ok (.bipush 12, 2) := by decide +kernel
theorem dX10_common_62 : decode cX10_common 62 = .ok (.invokevirtual 84, 3) := by decide +kernel
theorem dX10_common_65 : decode cX10_common 65 = .ok (.aload_n 0, 1) := by decide +kernel
theorem dX10_common_66 : decode cX10_common 66 = .ok (.bipush 12, 2) := by decide +kernel
theorem dX10_common_68 : decode cX10_common 68 = .ok (.iload_n 3, 1) := by decide +kernel
theorem dX10_common_69 : decode cX10_common 69 = .ok (.invokevirtual 77, 3) := by decide +kernel
theorem dX10_common_72 : decode cX10_common 72 = .ok (.return_, 1) := by decide +kernel
theorem dX10_inverts_0 : decode cX10_inverts 0 = .ok (.aload_n 0, 1) := by decide +kernel
theorem dX10_inverts_1 : decode cX10_inverts 1 = .ok (.iload_n 2, 1) := by decide +kernel
theorem dX10_inverts_2 : decode cX10_inverts 2 = .ok (.bipush 6, 2) := by decide +kernel
theorem dX10_inverts_4 : decode cX10_inverts 4 = .ok (.invokevirtual 77, 3) := by decide +kernel
theorem dX10_inverts_7 : decode cX10_inverts 7 = .ok (.aload_n 0, 1) := by decide +kernel
theorem dX10_inverts_8 : decode cX10_inverts 8 = .ok (.iload_n 1, 1) := by decide +kernel
theorem dX10_inverts_9 : decode cX10_inverts 9 = .ok (.bipush 7, 2) := by decide +kernel
theorem dX10_inverts_11 : decode cX10_inverts 11 = .ok (.invokevirtual 77, 3) := by decide +kernel
theorem dX10_inverts_14 : decode cX10_inverts 14 = .ok (.aload_n 0, 1) := by decide +kernel
theorem dX10_inverts_15 : decode cX10_inverts 15 = .ok (.bipush 7, 2) := by decide +kernel
theorem dX10_inverts_17 : decode cX10_inverts 17 = .ok (.iload_n 2, 1) := by decide +kernel
theorem dX10_inverts_18 : decode cX10_inverts 18 = .ok (.iconst (-1), 1) := by decide +kernel
theorem dX10_inverts_19 : decode cX10_inverts 19 = .ok (.invokevirtual 81, 3) := by decide +kernel
theorem dX10_inverts_22 : decode cX10_inverts 22 = .ok (.aload_n 0, 1) := by decide +kernel
theorem dX10_inverts_23 : decode cX10_inverts 23 = .ok (.bipush 8, 2) := by decide +kernel
theorem dX10_inverts_25 : decode cX10_inverts 25 = .ok (.iconst 0, 1) := by decide +kernel
theorem dX10_inverts_26 : decode cX10_inverts 26 = .ok (.invokevirtual 87, 3) := by decide +kernel
theorem dX10_inverts_29 : decode cX10_inverts 29 = .ok (.aload_n 0, 1) := by decide +kernel
theorem dX10_inverts_30 : decode cX10_inverts 30 = .ok (.bipush 9, 2) := by decide +kernel
theorem dX10_inverts_32 : decode cX10_inverts 32 = .ok (.iconst 1, 1) := by decide +kernel
theorem dX10_inverts_33 : decode cX10_inverts 33 = .ok (.invokevirtual 87, 3) := by decide +kernel
theorem dX10_inverts_36 : decode cX10_inverts 36 = .ok (.aload_n 0, 1) := by decide +kernel
theorem dX10_inverts_37 : decode cX10_inverts 37 = .ok (.bipush 7, 2) := by decide +kernel
theorem dX10_inverts_39 : decode cX10_inverts 39 = .ok (.invokevirtual 70, 3) := by decide +kernel
theorem dX10_inverts_42 : decode cX10_inverts 42 = .ok (.ifCond .le 90, 3) := by decide +kernel
theorem dX10_inverts_45 : decode cX10_inverts 45 = .ok (.aload_n 0, 1) := by decide +kernel
theorem dX10_inverts_46 : decode cX10_inverts 46 = .ok (.bipush 6, 2) := by decide +kernel
theorem dX10_inverts_48 : decode cX10_inverts 48 = .ok (.bipush 7, 2) := by decide +kernel
theorem dX10_inverts_50 : decode cX10_inverts 50 = .ok (.bipush 10, 2) := by decide +kernel
theorem dX10_inverts_52 : decode cX10_inverts 52 = .ok (.invokevirtual 81, 3) := by decide +kernel
theorem dX10_inverts_55 : decode cX10_inverts 55 = .ok (.aload_n 0, 1) := by decide +kernel
theorem dX10_inverts_56 : decode cX10_inverts 56 = .ok (.bipush 6, 2) := by decide +kernel
theorem dX10_inverts_58 : decode cX10_inverts 58 = .ok (.bipush 11, 2) := by decide +kernel
theorem dX10_inverts_60 : decode cX10_inverts 60 = .ok (.invokevirtual 77, 3) := by decide +kernel
theorem dX10_inverts_63 : decode cX10_inverts 63 = .ok (.aload_n 0, 1) := by decide +kernel
theorem dX10_inverts_64 : decode cX10_inverts 64 = .ok (.bipush 7, 2) := by decide +kernel
theorem dX10_inverts_66 : decode cX10_inverts 66 = .ok (.bipush 6, 2) := by decide +kernel
theorem dX10_inverts_68 : decode cX10_inverts 68 = .ok (.invokevirtual 77, 3) := by decide +kernel
theorem dX10_inverts_71 : decode cX10_inverts 71 = .ok (.aload_n 0, 1) := by decide +kernel
theorem dX10_inverts_72 : decode cX10_inverts 72 = .ok (.bipush 11, 2) := by decide +kernel
theorem dX10_inverts_74 : decode cX10_inverts 74 = .ok (.bipush 7, 2) := by decide +kernel
theorem dX10_inverts_76 : decode cX10_inverts 76 = .ok (.invokevirtual 77, 3) := by decide +kernel
theorem dX10_inverts_79 : decode cX10_inverts 79 = .ok (.aload_n 0, 1) := by decide +kernel
theorem dX10_inverts_80 : decode cX10_inverts 80 = .ok (.bipush 10, 2) := by decide +kernel
theorem dX10_inverts_82 : decode cX10_inverts 82 = .ok (.bipush 9, 2) := by decide +kernel
theorem dX10_inverts_84 : decode cX10_inverts 84 = .ok (.bipush 11, 2) := by decide +kernel
theorem dX10_inverts_86 : decode cX10_inverts 86 = .ok (.invokevirtual 90, 3) := by decide +kernel
theorem dX10_inverts_89 : decode cX10_inverts 89 = .ok (.aload_n 0, 1) := by decide +kernel
theorem dX10_inverts_90 : decode cX10_inverts 90 = .ok (.bipush 11, 2) := by decide +kernel
theorem dX10_inverts_92 : decode cX10_inverts 92 = .ok (.bipush 8, 2) := by decide +kernel
theorem dX10_inverts_94 : decode cX10_inverts 94 = .ok (.aload_n 0, 1) := by decide +kernel
theorem dX10_inverts_95 : decode cX10_inverts 95 = .ok (.getfield 7, 3) := by decide +kernel
theorem dX10_inverts_98 : decode cX10_inverts 98 = .ok (.iconst 0, 1) := by decide +kernel
theorem dX10_inverts_99 : decode cX10_inverts 99 = .ok (.iaload, 1) := by decide +kernel
theorem dX10_inverts_100 : decode cX10_inverts 100 = .ok (.iconst 1, 1) := by decide +kernel
theorem dX10_inverts_101 : decode cX10_inverts 101 = .ok (.isub, 1) := by decide +kernel
theorem dX10_inverts_102 : decode cX10_inverts 102 = .ok (.invokevirtual 93, 3) := by decide +kernel
theorem dX10_inverts_105 : decode cX10_inverts 105 = .ok (.aload_n 0, 1) := by decide +kernel
theorem dX10_inverts_106 : decode cX10_inverts 106 = .ok (.bipush 8, 2) := by decide +kernel
theorem dX10_inverts_108 : decode cX10_inverts 108 = .ok (.bipush 11, 2) := by decide +kernel
theorem dX10_inverts_110 : decode cX10_inverts 110 = .ok (.invokevirtual 77, 3) := by decide +kernel
theorem dX10_inverts_113 : decode cX10_inverts 113 = .ok (.aload_n 0, 1) := by decide +kernel
theorem dX10_inverts_114 : decode cX10_inverts 114 = .ok (.bipush 9, 2) := by decide +kernel
theorem dX10_inverts_116 : decode cX10_inverts 116 = .ok (.bipush 8, 2) := by decide +kernel
theorem dX10_inverts_118 : decode cX10_inverts 118 = .ok (.invokevirtual 77, 3) := by decide +kernel
theorem dX10_inverts_121 : decode cX10_inverts 121 = .ok (.aload_n 0, 1) := by decide +kernel
theorem dX10_inverts_122 : decode cX10_inverts 122 = .ok (.bipush 11, 2) := by decide +kernel
theorem dX10_inverts_124 : decode cX10_inverts 124 = .ok (.bipush 9, 2) := by decide +kernel
theorem dX10_inverts_126 : decode cX10_inverts 126 = .ok (.invokevirtual 77, 3) := by decide +kernel
theorem dX10_inverts_129 : decode cX10_inverts 129 = .ok (.goto (-93), 3) := by decide +kernel
theorem dX10_inverts_132 : decode cX10_inverts 132 = .ok (.aload_n 0, 1) := by decide +kernel
theorem dX10_inverts_133 : decode cX10_inverts 133 = .ok (.aload_n 0, 1) := by decide +kernel
theorem dX10_inverts_134 : decode cX10_inverts 134 = .ok (.bipush 7, 2) := by decide +kernel
theorem dX10_inverts_136 : decode cX10_inverts 136 = .ok (.iconst 0, 1) := by decide +kernel
theorem dX10_inverts_137 : decode cX10_inverts 137 = .ok (.invokevirtual 55, 3) := by decide +kernel
theorem dX10_inverts_140 : decode cX10_inverts 140 = .ok (.invokevirtual 74, 3) := by decide +kernel
theorem dX10_inverts_143 : decode cX10_inverts 143 = .ok (.istore 4, 2) := by decide +kernel
theorem dX10_inverts_145 : decode cX10_inverts 145 = .ok (.aload_n 0, 1) := by decide +kernel
theorem dX10_inverts_146 : decode cX10_inverts 146 = .ok (.bipush 11, 2) := by decide +kernel
theorem dX10_inverts_148 : decode cX10_inverts 148 = .ok (.iload 4, 2) := by decide +kernel
theorem dX10_inverts_150 : decode cX10_inverts 150 = .ok (.invokevirtual 87, 3) := by decide +kernel
theorem dX10_inverts_153 : decode cX10_inverts 153 = .ok (.aload_n 0, 1) := by decide +kernel
theorem dX10_inverts_154 : decode cX10_inverts 154 = .ok (.bipush 9, 2) := by decide +kernel
theorem dX10_inverts_156 : decode cX10_inverts 156 = .ok (.bipush 11, 2) := by decide +kernel
theorem dX10_inverts_158 : decode cX10_inverts 158 = .ok (.iload_n 3, 1) := by decide +kernel
theorem dX10_inverts_159 : decode cX10_inverts 159 = .ok (.invokevirtual 90, 3) := by decide +kernel
theorem dX10_inverts_162 : decode cX10_inverts 162 = .ok (.aload_n 0, 1) := by decide +kernel
theorem dX10_inverts_163 : decode cX10_inverts 163 = .ok (.iload_n 3, 1) := by decide +kernel
theorem dX10_inverts_164 : decode cX10_inverts 164 = .ok (.iload_n 2, 1) := by decide +kernel
theorem dX10_inverts_165 : decode cX10_inverts 165 = .ok (.iconst (-1), 1) := by decide +kernel
theorem dX10_inverts_166 : decode cX10_inverts 166 = .ok (.invokevirtual 81, 3) := by decide +kernel
theorem dX10_inverts_169 : decode cX10_inverts 169 = .ok (.return_, 1) := by decide +kernel
theorem dX10_raises_0 : decode cX10_raises 0 = .ok (.aload_n 0, 1) := by decide +kernel
theorem dX10_raises_1 : decode cX10_raises 1 = .ok (.iload_n 1, 1) := by decide +kernel
theorem dX10_raises_2 : decode cX10_raises 2 = .ok (.bipush 14, 2) := by decide +kernel
theorem dX10_raises_4 : decode cX10_raises 4 = .ok (.invokevirtual 77, 3) := by decide +kernel
theorem dX10_raises_7 : decode cX10_raises 7 = .ok (.aload_n 0, 1) := by decide +kernel
theorem dX10_raises_8 : decode cX10_raises 8 = .ok (.bipush 14, 2) := by decide +kernel
theorem dX10_raises_10 : decode cX10_raises 10 = .ok (.iload_n 3, 1) := by decide +kernel
theorem dX10_raises_11 : decode cX10_raises 11 = .ok (.iconst (-1), 1) := by decide +kernel
theorem dX10_raises_12 : decode cX10_raises 12 = .ok (.invokevirtual 81, 3) := by decide +kernel
theorem dX10_raises_15 : decode cX10_raises 15 = .ok (.aload_n 0, 1) := by decide +kernel
theorem dX10_raises_16 : decode cX10_raises 16 = .ok (.bipush 15, 2) := by decide +kernel
theorem dX10_raises_18 : decode cX10_raises 18 = .ok (.iconst 1, 1) := by decide +kernel
theorem dX10_raises_19 : decode cX10_raises 19 = .ok (.invokevirtual 87, 3) := by decide +kernel
theorem dX10_raises_22 : decode cX10_raises 22 = .ok (.aload_n 0, 1) := by decide +kernel
theorem dX10_raises_23 : decode cX10_raises 23 = .ok (.bipush 15, 2) := by decide +kernel
theorem dX10_raises_25 : decode cX10_raises 25 = .ok (.iload_n 3, 1) := by decide +kernel
theorem dX10_raises_26 : decode cX10_raises 26 = .ok (.iconst (-1), 1) := by decide +kernel
theorem dX10_raises_27 : decode cX10_raises 27 = .ok (.invokevirtual 81, 3) := by decide +kernel
theorem dX10_raises_30 : decode cX10_raises 30 = .ok (.iload_n 2, 1) := by decide +kernel
theorem dX10_raises_31 : decode cX10_raises 31 = .ok (.istore 5, 2) := by decide +kernel
theorem dX10_raises_33 : decode cX10_raises 33 = .ok (.iload 5, 2) := by decide +kernel
theorem dX10_raises_35 : decode cX10_raises 35 = .ok (.ifCond .le 56, 3) := by decide +kernel
theorem dX10_raises_38 : decode cX10_raises 38 = .ok (.iload 5, 2) := by decide +kernel
theorem dX10_raises_40 : decode cX10_raises 40 = .ok (.iconst 2, 1) := by decide +kernel
theorem dX10_raises_41 : decode cX10_raises 41 = .ok (.irem, 1) := by decide +kernel
theorem dX10_raises_42 : decode cX10_raises 42 = .ok (.iconst 1, 1) := by decide +kernel
theorem dX10_raises_43 : decode cX10_raises 43 = .ok (.if_icmp .ne 21, 3) := by decide +kernel
theorem dX10_raises_46 : decode cX10_raises 46 = .ok (.aload_n 0, 1) := by decide +kernel
theorem dX10_raises_47 : decode cX10_raises 47 = .ok (.bipush 15, 2) := by decide +kernel
theorem dX10_raises_49 : decode cX10_raises 49 = .ok (.bipush 14, 2) := by decide +kernel
theorem dX10_raises_51 : decode cX10_raises 51 = .ok (.bipush 15, 2) := by decide +kernel
theorem dX10_raises_53 : decode cX10_raises 53 = .ok (.invokevirtual 90, 3) := by decide +kernel
theorem dX10_raises_56 : decode cX10_raises 56 = .ok (.aload_n 0, 1) := by decide +kernel
theorem dX10_raises_57 : decode cX10_raises 57 = .ok (.bipush 15, 2) := by decide +kernel
theorem dX10_raises_59 : decode cX10_raises 59 = .ok (.iload_n 3, 1) := by decide +kernel
theorem dX10_raises_60 : decode cX10_raises 60 = .ok (.iconst (-1), 1) := by decide +kernel
theorem dX10_raises_61 : decode cX10_raises 61 = .ok (.invokevirtual 81, 3) := by decide +kernel
theorem dX10_raises_64 : decode cX10_raises 64 = .ok (.aload_n 0, 1) := by decide +kernel
theorem dX10_raises_65 : decode cX10_raises 65 = .ok (.bipush 14, 2) := by decide +kernel
theorem dX10_raises_67 : decode cX10_raises 67 = .ok (.bipush 14, 2) := by decide +kernel
theorem dX10_raises_69 : decode cX10_raises 69 = .ok (.bipush 14, 2) := by decide +kernel
theorem dX10_raises_71 : decode cX10_raises 71 = .ok (.invokevirtual 90, 3) := by decide +kernel
theorem dX10_raises_74 : decode cX10_raises 74 = .ok (.aload_n 0, 1) := by decide +kernel
theorem dX10_raises_75 : decode cX10_raises 75 = .ok (.bipush 14, 2) := by decide +kernel
theorem dX10_raises_77 : decode cX10_raises 77 = .ok (.iload_n 3, 1) := by decide +kernel
theorem dX10_raises_78 : decode cX10_raises 78 = .ok (.iconst (-1), 1) := by decide +kernel
theorem dX10_raises_79 : decode cX10_raises 79 = .ok (.invokevirtual 81, 3) := by decide +kernel
theorem dX10_raises_82 : decode cX10_raises 82 = .ok (.iload 5, 2) := by decide +kernel
theorem dX10_raises_84 : decode cX10_raises 84 = .ok (.iconst 2, 1) := by decide +kernel
theorem dX10_raises_85 : decode cX10_raises 85 = .ok (.idiv, 1) := by decide +kernel
theorem dX10_raises_86 : decode cX10_raises 86 = .ok (.istore 5, 2) := by decide +kernel
theorem dX10_raises_88 : decode cX10_raises 88 = .ok (.goto (-55), 3) := by decide +kernel
theorem dX10_raises_91 : decode cX10_raises 91 = .ok (.aload_n 0, 1) := by decide +kernel
theorem dX10_raises_92 : decode cX10_raises 92 = .ok (.bipush 15, 2) := by decide +kernel
theorem dX10_raises_94 : decode cX10_raises 94 = .ok (.iload 4, 2) := by decide +kernel
theorem dX10_raises_96 : decode cX10_raises 96 = .ok (.invokevirtual 77, 3) := by decide +kernel
theorem dX10_raises_99 : decode cX10_raises 99 = .ok (.return_, 1) := by decide +kernel
theorem dX10_isBefore_0 : decode cX10_isBefore 0 = .ok (.bipush 6, 2) := by decide +kernel
theorem dX10_isBefore_2 : decode cX10_isBefore 2 = .ok (.istore_n 3, 1) := by decide +kernel
theorem dX10_isBefore_3 : decode cX10_isBefore 3 = .ok (.iload_n 3, 1) := by decide +kernel
theorem dX10_isBefore_4 : decode cX10_isBefore 4 = .ok (.ifCond .lt 61, 3) := by decide +kernel
theorem dX10_isBefore_7 : decode cX10_isBefore 7 = .ok (.aload_n 0, 1) := by decide +kernel
theorem dX10_isBefore_8 : decode cX10_isBefore 8 = .ok (.getfield 7, 3) := by decide +kernel
theorem dX10_isBefore_11 : decode cX10_isBefore 11 = .ok (.bipush 45, 2) := by decide +kernel
theorem dX10_isBefore_13 : decode cX10_isBefore 13 = .ok (.bipush 7, 2) := by decide +kernel
theorem dX10_isBefore_15 : decode cX10_isBefore 15 = .ok (.iload_n 1, 1) := by decide +kernel
theorem dX10_isBefore_16 : decode cX10_isBefore 16 = .ok (.imul, 1) := by decide +kernel
theorem dX10_isBefore_17 : decode cX10_isBefore 17 = .ok (.iadd, 1) := by decide +kernel
theorem dX10_isBefore_18 : decode cX10_isBefore 18 = .ok (.iload_n 3, 1) := by decide +kernel
theorem dX10_isBefore_19 : decode cX10_isBefore 19 = .ok (.iadd, 1) := by decide +kernel
theorem dX10_isBefore_20 : decode cX10_isBefore 20 = .ok (.iaload, 1) := by decide +kernel
theorem dX10_isBefore_21 : decode cX10_isBefore 21 = .ok (.istore 4, 2) := by decide +kernel
theorem dX10_isBefore_23 : decode cX10_isBefore 23 = .ok (.aload_n 0, 1) := by decide +kernel
theorem dX10_isBefore_24 : decode cX10_isBefore 24 = .ok (.getfield 7, 3) := by decide +kernel
theorem dX10_isBefore_27 : decode cX10_isBefore 27 = .ok (.bipush 45, 2) := by decide +kernel
theorem dX10_isBefore_29 : decode cX10_isBefore 29 = .ok (.bipush 7, 2) := by decide +kernel
theorem dX10_isBefore_31 : decode cX10_isBefore 31 = .ok (.iload_n 2, 1) := by decide +kernel
theorem dX10_isBefore_32 : decode cX10_isBefore 32 = .ok (.imul, 1) := by decide +kernel
theorem dX10_isBefore_33 : decode cX10_isBefore 33 = .ok (.iadd, 1) := by decide +kernel
theorem dX10_isBefore_34 : decode cX10_isBefore 34 = .ok (.iload_n 3, 1) := by decide +kernel
theorem dX10_isBefore_35 : decode cX10_isBefore 35 = .ok (.iadd, 1) := by decide +kernel
theorem dX10_isBefore_36 : decode cX10_isBefore 36 = .ok (.iaload, 1) := by decide +kernel
theorem dX10_isBefore_37 : decode cX10_isBefore 37 = .ok (.istore 5, 2) := by decide +kernel
theorem dX10_isBefore_39 : decode cX10_isBefore 39 = .ok (.iload 4, 2) := by decide +kernel
theorem dX10_isBefore_41 : decode cX10_isBefore 41 = .ok (.iload 5, 2) := by decide +kernel
theorem dX10_isBefore_43 : decode cX10_isBefore 43 = .ok (.if_icmp .eq 16, 3) := by decide +kernel
theorem dX10_isBefore_46 : decode cX10_isBefore 46 = .ok (.iload 4, 2) := by decide +kernel
theorem dX10_isBefore_48 : decode cX10_isBefore 48 = .ok (.iload 5, 2) := by decide +kernel
theorem dX10_isBefore_50 : decode cX10_isBefore 50 = .ok (.if_icmp .ge 7, 3) := by decide +kernel
theorem dX10_isBefore_53 : decode cX10_isBefore 53 = .ok (.iconst 1, 1) := by decide +kernel
theorem dX10_isBefore_54 : decode cX10_isBefore 54 = .ok (.goto 4, 3) := by decide +kernel
theorem dX10_isBefore_57 : decode cX10_isBefore 57 = .ok (.iconst 0, 1) := by decide +kernel
theorem dX10_isBefore_58 : decode cX10_isBefore 58 = .ok (.ireturn, 1) := by decide +kernel
theorem dX10_isBefore_59 : decode cX10_isBefore 59 = .ok (.iinc 3 (-1), 3) := by decide +kernel
theorem dX10_isBefore_62 : decode cX10_isBefore 62 = .ok (.goto (-59), 3) := by decide +kernel
theorem dX10_isBefore_65 : decode cX10_isBefore 65 = .ok (.iconst 0, 1) := by decide +kernel
theorem dX10_isBefore_66 : decode cX10_isBefore 66 = .ok (.ireturn, 1) := by decide +kernel
theorem dX10_swaps_0 : decode cX10_swaps 0 = .ok (.iconst 0, 1) := by decide +kernel
theorem dX10_swaps_1 : decode cX10_swaps 1 = .ok (.istore_n 3, 1) := by decide +kernel
theorem dX10_swaps_2 : decode cX10_swaps 2 = .ok (.iload_n 3, 1) := by decide +kernel
theorem dX10_swaps_3 : decode cX10_swaps 3 = .ok (.bipush 7, 2) := by decide +kernel
theorem dX10_swaps_5 : decode cX10_swaps 5 = .ok (.if_icmp .ge 69, 3) := by decide +kernel
theorem dX10_swaps_8 : decode cX10_swaps 8 = .ok (.aload_n 0, 1) := by decide +kernel
theorem dX10_swaps_9 : decode cX10_swaps 9 = .ok (.getfield 7, 3) := by decide +kernel
theorem dX10_swaps_12 : decode cX10_swaps 12 = .ok (.bipush 45, 2) := by decide +kernel
theorem dX10_swaps_14 : decode cX10_swaps 14 = .ok (.bipush 7, 2) := by decide +kernel
theorem dX10_swaps_16 : decode cX10_swaps 16 = .ok (.iload_n 1, 1) := by decide +kernel
theorem dX10_swaps_17 : decode cX10_swaps 17 = .ok (.imul, 1) := by decide +kernel
theorem dX10_swaps_18 : decode cX10_swaps 18 = .ok (.iadd, 1) := by decide +kernel
theorem dX10_swaps_19 : decode cX10_swaps 19 = .ok (.iload_n 3, 1) := by decide +kernel
theorem dX10_swaps_20 : decode cX10_swaps 20 = .ok (.iadd, 1) := by decide +kernel
theorem dX10_swaps_21 : decode cX10_swaps 21 = .ok (.iaload, 1) := by decide +kernel
theorem dX10_swaps_22 : decode cX10_swaps 22 = .ok (.istore 4, 2) := by decide +kernel
theorem dX10_swaps_24 : decode cX10_swaps 24 = .ok (.aload_n 0, 1) := by decide +kernel
theorem dX10_swaps_25 : decode cX10_swaps 25 = .ok (.getfield 7, 3) := by decide +kernel
theorem dX10_swaps_28 : decode cX10_swaps 28 = .ok (.bipush 45, 2) := by decide +kernel
theorem dX10_swaps_30 : decode cX10_swaps 30 = .ok (.bipush 7, 2) := by decide +kernel
theorem dX10_swaps_32 : decode cX10_swaps 32 = .ok (.iload_n 1, 1) := by decide +kernel
theorem dX10_swaps_33 : decode cX10_swaps 33 = .ok (.imul, 1) := by decide +kernel
theorem dX10_swaps_34 : decode cX10_swaps 34 = .ok (.iadd, 1) := by decide +kernel
theorem dX10_swaps_35 : decode cX10_swaps 35 = .ok (.iload_n 3, 1) := by decide +kernel
theorem dX10_swaps_36 : decode cX10_swaps 36 = .ok (.iadd, 1) := by decide +kernel
theorem dX10_swaps_37 : decode cX10_swaps 37 = .ok (.aload_n 0, 1) := by decide +kernel
theorem dX10_swaps_38 : decode cX10_swaps 38 = .ok (.getfield 7, 3) := by decide +kernel
theorem dX10_swaps_41 : decode cX10_swaps 41 = .ok (.bipush 45, 2) := by decide +kernel
theorem dX10_swaps_43 : decode cX10_swaps 43 = .ok (.bipush 7, 2) := by decide +kernel
theorem dX10_swaps_45 : decode cX10_swaps 45 = .ok (.iload_n 2, 1) := by decide +kernel
theorem dX10_swaps_46 : decode cX10_swaps 46 = .ok (.imul, 1) := by decide +kernel
theorem dX10_swaps_47 : decode cX10_swaps 47 = .ok (.iadd, 1) := by decide +kernel
theorem dX10_swaps_48 : decode cX10_swaps 48 = .ok (.iload_n 3, 1) := by decide +kernel
theorem dX10_swaps_49 : decode cX10_swaps 49 = .ok (.iadd, 1) := by decide +kernel
theorem dX10_swaps_50 : decode cX10_swaps 50 = .ok (.iaload, 1) := by decide +kernel
theorem dX10_swaps_51 : decode cX10_swaps 51 = .ok (.iastore, 1) := by decide +kernel
theorem dX10_swaps_52 : decode cX10_swaps 52 = .ok (.aload_n 0, 1) := by decide +kernel
theorem dX10_swaps_53 : decode cX10_swaps 53 = .ok (.getfield 7, 3) := by decide +kernel
theorem dX10_swaps_56 : decode cX10_swaps 56 = .ok (.bipush 45, 2) := by decide +kernel
theorem dX10_swaps_58 : decode cX10_swaps 58 = .ok (.bipush 7, 2) := by decide +kernel
theorem dX10_swaps_60 : decode cX10_swaps 60 = .ok (.iload_n 2, 1) := by decide +kernel
theorem dX10_swaps_61 : decode cX10_swaps 61 = .ok (.imul, 1) := by decide +kernel
theorem dX10_swaps_62 : decode cX10_swaps 62 = .ok (.iadd, 1) := by decide +kernel
theorem dX10_swaps_63 : decode cX10_swaps 63 = .ok (.iload_n 3, 1) := by decide +kernel
theorem dX10_swaps_64 : decode cX10_swaps 64 = .ok (.iadd, 1) := by decide +kernel
theorem dX10_swaps_65 : decode cX10_swaps 65 = .ok (.iload 4, 2) := by decide +kernel
theorem dX10_swaps_67 : decode cX10_swaps 67 = .ok (.iastore, 1) := by decide +kernel
theorem dX10_swaps_68 : decode cX10_swaps 68 = .ok (.iinc 3 1, 3) := by decide +kernel
theorem dX10_swaps_71 : decode cX10_swaps 71 = .ok (.goto (-69), 3) := by decide +kernel
theorem dX10_swaps_74 : decode cX10_swaps 74 = .ok (.return_, 1) := by decide +kernel
theorem dX10_sorts_0 : decode cX10_sorts 0 = .ok (.iconst 1, 1) := by decide +kernel
theorem dX10_sorts_1 : decode cX10_sorts 1 = .ok (.istore_n 1, 1) := by decide +kernel
theorem dX10_sorts_2 : decode cX10_sorts 2 = .ok (.iload_n 1, 1) := by decide +kernel
theorem dX10_sorts_3 : decode cX10_sorts 3 = .ok (.aload_n 0, 1) := by decide +kernel
theorem dX10_sorts_4 : decode cX10_sorts 4 = .ok (.getfield 7, 3) := by decide +kernel
theorem dX10_sorts_7 : decode cX10_sorts 7 = .ok (.bipush 44, 2) := by decide +kernel
theorem dX10_sorts_9 : decode cX10_sorts 9 = .ok (.iaload, 1) := by decide +kernel
theorem dX10_sorts_10 : decode cX10_sorts 10 = .ok (.if_icmp .ge 40, 3) := by decide +kernel
theorem dX10_sorts_13 : decode cX10_sorts 13 = .ok (.iload_n 1, 1) := by decide +kernel
theorem dX10_sorts_14 : decode cX10_sorts 14 = .ok (.istore_n 2, 1) := by decide +kernel
theorem dX10_sorts_15 : decode cX10_sorts 15 = .ok (.iload_n 2, 1) := by decide +kernel
theorem dX10_sorts_16 : decode cX10_sorts 16 = .ok (.ifCond .le 28, 3) := by decide +kernel
theorem dX10_sorts_19 : decode cX10_sorts 19 = .ok (.aload_n 0, 1) := by decide +kernel
theorem dX10_sorts_20 : decode cX10_sorts 20 = .ok (.iload_n 2, 1) := by decide +kernel
theorem dX10_sorts_21 : decode cX10_sorts 21 = .ok (.iload_n 2, 1) := by decide +kernel
theorem dX10_sorts_22 : decode cX10_sorts 22 = .ok (.iconst 1, 1) := by decide +kernel
theorem dX10_sorts_23 : decode cX10_sorts 23 = .ok (.isub, 1) := by decide +kernel
theorem dX10_sorts_24 : decode cX10_sorts 24 = .ok (.invokevirtual 96, 3) := by decide +kernel
theorem dX10_sorts_27 : decode cX10_sorts 27 = .ok (.ifCond .eq 17, 3) := by decide +kernel
theorem dX10_sorts_30 : decode cX10_sorts 30 = .ok (.aload_n 0, 1) := by decide +kernel
theorem dX10_sorts_31 : decode cX10_sorts 31 = .ok (.iload_n 2, 1) := by decide +kernel
theorem dX10_sorts_32 : decode cX10_sorts 32 = .ok (.iload_n 2, 1) := by decide +kernel
theorem dX10_sorts_33 : decode cX10_sorts 33 = .ok (.iconst 1, 1) := by decide +kernel
theorem dX10_sorts_34 : decode cX10_sorts 34 = .ok (.isub, 1) := by decide +kernel
theorem dX10_sorts_35 : decode cX10_sorts 35 = .ok (.invokevirtual 100, 3) := by decide +kernel
theorem dX10_sorts_38 : decode cX10_sorts 38 = .ok (.iinc 2 (-1), 3) := by decide +kernel
theorem dX10_sorts_41 : decode cX10_sorts 41 = .ok (.goto (-26), 3) := by decide +kernel
theorem dX10_sorts_44 : decode cX10_sorts 44 = .ok (.iinc 1 1, 3) := by decide +kernel
theorem dX10_sorts_47 : decode cX10_sorts 47 = .ok (.goto (-45), 3) := by decide +kernel
theorem dX10_sorts_50 : decode cX10_sorts 50 = .ok (.return_, 1) := by decide +kernel
theorem dX10_lays_0 : decode cX10_lays 0 = .ok (.iconst 0, 1) := by decide +kernel
theorem dX10_lays_1 : decode cX10_lays 1 = .ok (.istore_n 3, 1) := by decide +kernel
theorem dX10_lays_2 : decode cX10_lays 2 = .ok (.iload_n 3, 1) := by decide +kernel
theorem dX10_lays_3 : decode cX10_lays 3 = .ok (.bipush 7, 2) := by decide +kernel
theorem dX10_lays_5 : decode cX10_lays 5 = .ok (.if_icmp .ge 29, 3) := by decide +kernel
theorem dX10_lays_8 : decode cX10_lays 8 = .ok (.aload_n 0, 1) := by decide +kernel
theorem dX10_lays_9 : decode cX10_lays 9 = .ok (.getfield 7, 3) := by decide +kernel
theorem dX10_lays_12 : decode cX10_lays 12 = .ok (.bipush 45, 2) := by decide +kernel
theorem dX10_lays_14 : decode cX10_lays 14 = .ok (.bipush 7, 2) := by decide +kernel
theorem dX10_lays_16 : decode cX10_lays 16 = .ok (.iload_n 2, 1) := by decide +kernel
theorem dX10_lays_17 : decode cX10_lays 17 = .ok (.imul, 1) := by decide +kernel
theorem dX10_lays_18 : decode cX10_lays 18 = .ok (.iadd, 1) := by decide +kernel
theorem dX10_lays_19 : decode cX10_lays 19 = .ok (.iload_n 3, 1) := by decide +kernel
theorem dX10_lays_20 : decode cX10_lays 20 = .ok (.iadd, 1) := by decide +kernel
theorem dX10_lays_21 : decode cX10_lays 21 = .ok (.aload_n 0, 1) := by decide +kernel
theorem dX10_lays_22 : decode cX10_lays 22 = .ok (.iload_n 1, 1) := by decide +kernel
theorem dX10_lays_23 : decode cX10_lays 23 = .ok (.iload_n 3, 1) := by decide +kernel
theorem dX10_lays_24 : decode cX10_lays 24 = .ok (.invokevirtual 55, 3) := by decide +kernel
theorem dX10_lays_27 : decode cX10_lays 27 = .ok (.iastore, 1) := by decide +kernel
theorem dX10_lays_28 : decode cX10_lays 28 = .ok (.iinc 3 1, 3) := by decide +kernel
theorem dX10_lays_31 : decode cX10_lays 31 = .ok (.goto (-29), 3) := by decide +kernel
theorem dX10_lays_34 : decode cX10_lays 34 = .ok (.return_, 1) := by decide +kernel
theorem dX10_comes_0 : decode cX10_comes 0 = .ok (.aload_n 0, 1) := by decide +kernel
theorem dX10_comes_1 : decode cX10_comes 1 = .ok (.iload_n 1, 1) := by decide +kernel
theorem dX10_comes_2 : decode cX10_comes 2 = .ok (.aload_n 0, 1) := by decide +kernel
theorem dX10_comes_3 : decode cX10_comes 3 = .ok (.getfield 7, 3) := by decide +kernel
theorem dX10_comes_6 : decode cX10_comes 6 = .ok (.bipush 44, 2) := by decide +kernel
theorem dX10_comes_8 : decode cX10_comes 8 = .ok (.iaload, 1) := by decide +kernel
theorem dX10_comes_9 : decode cX10_comes 9 = .ok (.invokevirtual 103, 3) := by decide +kernel
theorem dX10_comes_12 : decode cX10_comes 12 = .ok (.aload_n 0, 1) := by decide +kernel
theorem dX10_comes_13 : decode cX10_comes 13 = .ok (.getfield 7, 3) := by decide +kernel
theorem dX10_comes_16 : decode cX10_comes 16 = .ok (.bipush 44, 2) := by decide +kernel
theorem dX10_comes_18 : decode cX10_comes 18 = .ok (.dup2, 1) := by decide +kernel
theorem dX10_comes_19 : decode cX10_comes 19 = .ok (.iaload, 1) := by decide +kernel
theorem dX10_comes_20 : decode cX10_comes 20 = .ok (.iconst 1, 1) := by decide +kernel
theorem dX10_comes_21 : decode cX10_comes 21 = .ok (.iadd, 1) := by decide +kernel
theorem dX10_comes_22 : decode cX10_comes 22 = .ok (.iastore, 1) := by decide +kernel
theorem dX10_comes_23 : decode cX10_comes 23 = .ok (.return_, 1) := by decide +kernel
theorem dX10_goes_0 : decode cX10_goes 0 = .ok (.aload_n 0, 1) := by decide +kernel
theorem dX10_goes_1 : decode cX10_goes 1 = .ok (.getfield 7, 3) := by decide +kernel
theorem dX10_goes_4 : decode cX10_goes 4 = .ok (.bipush 44, 2) := by decide +kernel
theorem dX10_goes_6 : decode cX10_goes 6 = .ok (.dup2, 1) := by decide +kernel
theorem dX10_goes_7 : decode cX10_goes 7 = .ok (.iaload, 1) := by decide +kernel
theorem dX10_goes_8 : decode cX10_goes 8 = .ok (.iconst 1, 1) := by decide +kernel
theorem dX10_goes_9 : decode cX10_goes 9 = .ok (.isub, 1) := by decide +kernel
theorem dX10_goes_10 : decode cX10_goes 10 = .ok (.iastore, 1) := by decide +kernel
theorem dX10_goes_11 : decode cX10_goes 11 = .ok (.aload_n 0, 1) := by decide +kernel
theorem dX10_goes_12 : decode cX10_goes 12 = .ok (.iload_n 1, 1) := by decide +kernel
theorem dX10_goes_13 : decode cX10_goes 13 = .ok (.aload_n 0, 1) := by decide +kernel
theorem dX10_goes_14 : decode cX10_goes 14 = .ok (.getfield 7, 3) := by decide +kernel
theorem dX10_goes_17 : decode cX10_goes 17 = .ok (.bipush 44, 2) := by decide +kernel
theorem dX10_goes_19 : decode cX10_goes 19 = .ok (.iaload, 1) := by decide +kernel
theorem dX10_goes_20 : decode cX10_goes 20 = .ok (.invokevirtual 100, 3) := by decide +kernel
theorem dX10_goes_23 : decode cX10_goes 23 = .ok (.return_, 1) := by decide +kernel
theorem dX10_parts_0 : decode cX10_parts 0 = .ok (.aload_n 0, 1) := by decide +kernel
theorem dX10_parts_1 : decode cX10_parts 1 = .ok (.getfield 7, 3) := by decide +kernel
theorem dX10_parts_4 : decode cX10_parts 4 = .ok (.bipush 44, 2) := by decide +kernel
theorem dX10_parts_6 : decode cX10_parts 6 = .ok (.iaload, 1) := by decide +kernel
theorem dX10_parts_7 : decode cX10_parts 7 = .ok (.istore_n 2, 1) := by decide +kernel
theorem dX10_parts_8 : decode cX10_parts 8 = .ok (.iconst 0, 1) := by decide +kernel
theorem dX10_parts_9 : decode cX10_parts 9 = .ok (.istore_n 3, 1) := by decide +kernel
theorem dX10_parts_10 : decode cX10_parts 10 = .ok (.iload_n 3, 1) := by decide +kernel
theorem dX10_parts_11 : decode cX10_parts 11 = .ok (.iload_n 2, 1) := by decide +kernel
theorem dX10_parts_12 : decode cX10_parts 12 = .ok (.if_icmp .ge 62, 3) := by decide +kernel
theorem dX10_parts_15 : decode cX10_parts 15 = .ok (.aload_n 0, 1) := by decide +kernel
theorem dX10_parts_16 : decode cX10_parts 16 = .ok (.iload_n 3, 1) := by decide +kernel
theorem dX10_parts_17 : decode cX10_parts 17 = .ok (.iconst 1, 1) := by decide +kernel
theorem dX10_parts_18 : decode cX10_parts 18 = .ok (.invokevirtual 106, 3) := by decide +kernel
theorem dX10_parts_21 : decode cX10_parts 21 = .ok (.aload_n 0, 1) := by decide +kernel
theorem dX10_parts_22 : decode cX10_parts 22 = .ok (.iconst 1, 1) := by decide +kernel
theorem dX10_parts_23 : decode cX10_parts 23 = .ok (.iload_n 1, 1) := by decide +kernel
theorem dX10_parts_24 : decode cX10_parts 24 = .ok (.iconst 4, 1) := by decide +kernel
theorem dX10_parts_25 : decode cX10_parts 25 = .ok (.invokevirtual 109, 3) := by decide +kernel
theorem dX10_parts_28 : decode cX10_parts 28 = .ok (.aload_n 0, 1) := by decide +kernel
theorem dX10_parts_29 : decode cX10_parts 29 = .ok (.iconst 4, 1) := by decide +kernel
theorem dX10_parts_30 : decode cX10_parts 30 = .ok (.invokevirtual 70, 3) := by decide +kernel
theorem dX10_parts_33 : decode cX10_parts 33 = .ok (.istore 4, 2) := by decide +kernel
theorem dX10_parts_35 : decode cX10_parts 35 = .ok (.iload 4, 2) := by decide +kernel
theorem dX10_parts_37 : decode cX10_parts 37 = .ok (.ifCond .le 31, 3) := by decide +kernel
theorem dX10_parts_40 : decode cX10_parts 40 = .ok (.iload 4, 2) := by decide +kernel
theorem dX10_parts_42 : decode cX10_parts 42 = .ok (.aload_n 0, 1) := by decide +kernel
theorem dX10_parts_43 : decode cX10_parts 43 = .ok (.iconst 1, 1) := by decide +kernel
theorem dX10_parts_44 : decode cX10_parts 44 = .ok (.invokevirtual 70, 3) := by decide +kernel
theorem dX10_parts_47 : decode cX10_parts 47 = .ok (.if_icmp .ge 21, 3) := by decide +kernel
theorem dX10_parts_50 : decode cX10_parts 50 = .ok (.aload_n 0, 1) := by decide +kernel
theorem dX10_parts_51 : decode cX10_parts 51 = .ok (.iconst 4, 1) := by decide +kernel
theorem dX10_parts_52 : decode cX10_parts 52 = .ok (.iload_n 3, 1) := by decide +kernel
theorem dX10_parts_53 : decode cX10_parts 53 = .ok (.invokevirtual 103, 3) := by decide +kernel
theorem dX10_parts_56 : decode cX10_parts 56 = .ok (.aload_n 0, 1) := by decide +kernel
theorem dX10_parts_57 : decode cX10_parts 57 = .ok (.iconst 1, 1) := by decide +kernel
theorem dX10_parts_58 : decode cX10_parts 58 = .ok (.iconst 4, 1) := by decide +kernel
theorem dX10_parts_59 : decode cX10_parts 59 = .ok (.iconst 5, 1) := by decide +kernel
theorem dX10_parts_60 : decode cX10_parts 60 = .ok (.invokevirtual 81, 3) := by decide +kernel
theorem dX10_parts_63 : decode cX10_parts 63 = .ok (.aload_n 0, 1) := by decide +kernel
theorem dX10_parts_64 : decode cX10_parts 64 = .ok (.iconst 5, 1) := by decide +kernel
theorem dX10_parts_65 : decode cX10_parts 65 = .ok (.invokevirtual 112, 3) := by decide +kernel
theorem dX10_parts_68 : decode cX10_parts 68 = .ok (.iinc 3 1, 3) := by decide +kernel
theorem dX10_parts_71 : decode cX10_parts 71 = .ok (.goto (-61), 3) := by decide +kernel
theorem dX10_parts_74 : decode cX10_parts 74 = .ok (.aload_n 0, 1) := by decide +kernel
theorem dX10_parts_75 : decode cX10_parts 75 = .ok (.invokevirtual 115, 3) := by decide +kernel
theorem dX10_parts_78 : decode cX10_parts 78 = .ok (.aload_n 0, 1) := by decide +kernel
theorem dX10_parts_79 : decode cX10_parts 79 = .ok (.getfield 7, 3) := by decide +kernel
theorem dX10_parts_82 : decode cX10_parts 82 = .ok (.bipush 44, 2) := by decide +kernel
theorem dX10_parts_84 : decode cX10_parts 84 = .ok (.iaload, 1) := by decide +kernel
theorem dX10_parts_85 : decode cX10_parts 85 = .ok (.iload_n 2, 1) := by decide +kernel
theorem dX10_parts_86 : decode cX10_parts 86 = .ok (.if_icmp .le 7, 3) := by decide +kernel
theorem dX10_parts_89 : decode cX10_parts 89 = .ok (.iconst 1, 1) := by decide +kernel
theorem dX10_parts_90 : decode cX10_parts 90 = .ok (.goto 4, 3) := by decide +kernel
theorem dX10_parts_93 : decode cX10_parts 93 = .ok (.iconst 0, 1) := by decide +kernel
theorem dX10_parts_94 : decode cX10_parts 94 = .ok (.ireturn, 1) := by decide +kernel
theorem dX10_kindIn_0 : decode cX10_kindIn 0 = .ok (.aload_n 0, 1) := by decide +kernel
theorem dX10_kindIn_1 : decode cX10_kindIn 1 = .ok (.iconst 1, 1) := by decide +kernel
theorem dX10_kindIn_2 : decode cX10_kindIn 2 = .ok (.iload_n 1, 1) := by decide +kernel
theorem dX10_kindIn_3 : decode cX10_kindIn 3 = .ok (.iconst 4, 1) := by decide +kernel
theorem dX10_kindIn_4 : decode cX10_kindIn 4 = .ok (.invokevirtual 109, 3) := by decide +kernel
theorem dX10_kindIn_7 : decode cX10_kindIn 7 = .ok (.aload_n 0, 1) := by decide +kernel
theorem dX10_kindIn_8 : decode cX10_kindIn 8 = .ok (.iconst 4, 1) := by decide +kernel
theorem dX10_kindIn_9 : decode cX10_kindIn 9 = .ok (.invokevirtual 70, 3) := by decide +kernel
theorem dX10_kindIn_12 : decode cX10_kindIn 12 = .ok (.aload_n 0, 1) := by decide +kernel
theorem dX10_kindIn_13 : decode cX10_kindIn 13 = .ok (.iconst 1, 1) := by decide +kernel
theorem dX10_kindIn_14 : decode cX10_kindIn 14 = .ok (.invokevirtual 70, 3) := by decide +kernel
theorem dX10_kindIn_17 : decode cX10_kindIn 17 = .ok (.if_icmp .ne 7, 3) := by decide +kernel
theorem dX10_kindIn_20 : decode cX10_kindIn 20 = .ok (.iconst 0, 1) := by decide +kernel
theorem dX10_kindIn_21 : decode cX10_kindIn 21 = .ok (.goto 16, 3) := by decide +kernel
theorem dX10_kindIn_24 : decode cX10_kindIn 24 = .ok (.aload_n 0, 1) := by decide +kernel
theorem dX10_kindIn_25 : decode cX10_kindIn 25 = .ok (.iconst 4, 1) := by decide +kernel
theorem dX10_kindIn_26 : decode cX10_kindIn 26 = .ok (.invokevirtual 70, 3) := by decide +kernel
theorem dX10_kindIn_29 : decode cX10_kindIn 29 = .ok (.ifCond .ne 7, 3) := by decide +kernel
theorem dX10_kindIn_32 : decode cX10_kindIn 32 = .ok (.iconst 1, 1) := by decide +kernel
theorem dX10_kindIn_33 : decode cX10_kindIn 33 = .ok (.goto 4, 3) := by decide +kernel
theorem dX10_kindIn_36 : decode cX10_kindIn 36 = .ok (.iconst 2, 1) := by decide +kernel
theorem dX10_kindIn_37 : decode cX10_kindIn 37 = .ok (.ireturn, 1) := by decide +kernel
theorem dX10_unitOf_0 : decode cX10_unitOf 0 = .ok (.aload_n 0, 1) := by decide +kernel
theorem dX10_unitOf_1 : decode cX10_unitOf 1 = .ok (.iconst 0, 1) := by decide +kernel
theorem dX10_unitOf_2 : decode cX10_unitOf 2 = .ok (.bipush 16, 2) := by decide +kernel
theorem dX10_unitOf_4 : decode cX10_unitOf 4 = .ok (.invokevirtual 77, 3) := by decide +kernel
theorem dX10_unitOf_7 : decode cX10_unitOf 7 = .ok (.aload_n 0, 1) := by decide +kernel
theorem dX10_unitOf_8 : decode cX10_unitOf 8 = .ok (.bipush 16, 2) := by decide +kernel
theorem dX10_unitOf_10 : decode cX10_unitOf 10 = .ok (.iconst 1, 1) := by decide +kernel
theorem dX10_unitOf_11 : decode cX10_unitOf 11 = .ok (.bipush 17, 2) := by decide +kernel
theorem dX10_unitOf_13 : decode cX10_unitOf 13 = .ok (.invokevirtual 81, 3) := by decide +kernel
theorem dX10_unitOf_16 : decode cX10_unitOf 16 = .ok (.aload_n 0, 1) := by decide +kernel
theorem dX10_unitOf_17 : decode cX10_unitOf 17 = .ok (.bipush 17, 2) := by decide +kernel
theorem dX10_unitOf_19 : decode cX10_unitOf 19 = .ok (.iconst 1, 1) := by decide +kernel
theorem dX10_unitOf_20 : decode cX10_unitOf 20 = .ok (.bipush 16, 2) := by decide +kernel
theorem dX10_unitOf_22 : decode cX10_unitOf 22 = .ok (.invokevirtual 118, 3) := by decide +kernel
theorem dX10_unitOf_25 : decode cX10_unitOf 25 = .ok (.aload_n 0, 1) := by decide +kernel
theorem dX10_unitOf_26 : decode cX10_unitOf 26 = .ok (.bipush 17, 2) := by decide +kernel
theorem dX10_unitOf_28 : decode cX10_unitOf 28 = .ok (.bipush 16, 2) := by decide +kernel
theorem dX10_unitOf_30 : decode cX10_unitOf 30 = .ok (.iload_n 1, 1) := by decide +kernel
theorem dX10_unitOf_31 : decode cX10_unitOf 31 = .ok (.invokevirtual 90, 3) := by decide +kernel
theorem dX10_unitOf_34 : decode cX10_unitOf 34 = .ok (.aload_n 0, 1) := by decide +kernel
theorem dX10_unitOf_35 : decode cX10_unitOf 35 = .ok (.iload_n 1, 1) := by decide +kernel
theorem dX10_unitOf_36 : decode cX10_unitOf 36 = .ok (.iconst 0, 1) := by decide +kernel
theorem dX10_unitOf_37 : decode cX10_unitOf 37 = .ok (.iconst (-1), 1) := by decide +kernel
theorem dX10_unitOf_38 : decode cX10_unitOf 38 = .ok (.invokevirtual 81, 3) := by decide +kernel
theorem dX10_unitOf_41 : decode cX10_unitOf 41 = .ok (.return_, 1) := by decide +kernel
theorem dX10_quotient_0 : decode cX10_quotient 0 = .ok (.aload_n 0, 1) := by decide +kernel
theorem dX10_quotient_1 : decode cX10_quotient 1 = .ok (.iload_n 2, 1) := by decide +kernel
theorem dX10_quotient_2 : decode cX10_quotient 2 = .ok (.invokevirtual 121, 3) := by decide +kernel
theorem dX10_quotient_5 : decode cX10_quotient 5 = .ok (.pop, 1) := by decide +kernel
theorem dX10_quotient_6 : decode cX10_quotient 6 = .ok (.aload_n 0, 1) := by decide +kernel
theorem dX10_quotient_7 : decode cX10_quotient 7 = .ok (.iconst 3, 1) := by decide +kernel
theorem dX10_quotient_8 : decode cX10_quotient 8 = .ok (.invokevirtual 63, 3) := by decide +kernel
theorem dX10_quotient_11 : decode cX10_quotient 11 = .ok (.iconst 0, 1) := by decide +kernel
theorem dX10_quotient_12 : decode cX10_quotient 12 = .ok (.istore 4, 2) := by decide +kernel
theorem dX10_quotient_14 : decode cX10_quotient 14 = .ok (.iload 4, 2) := by decide +kernel
theorem dX10_quotient_16 : decode cX10_quotient 16 = .ok (.aload_n 0, 1) := by decide +kernel
theorem dX10_quotient_17 : decode cX10_quotient 17 = .ok (.getfield 7, 3) := by decide +kernel
theorem dX10_quotient_20 : decode cX10_quotient 20 = .ok (.bipush 44, 2) := by decide +kernel
theorem dX10_quotient_22 : decode cX10_quotient 22 = .ok (.iaload, 1) := by decide +kernel
theorem dX10_quotient_23 : decode cX10_quotient 23 = .ok (.if_icmp .ge 78, 3) := by decide +kernel
theorem dX10_quotient_26 : decode cX10_quotient 26 = .ok (.aload_n 0, 1) := by decide +kernel
theorem dX10_quotient_27 : decode cX10_quotient 27 = .ok (.iload 4, 2) := by decide +kernel
theorem dX10_quotient_29 : decode cX10_quotient 29 = .ok (.iconst 1, 1) := by decide +kernel
theorem dX10_quotient_30 : decode cX10_quotient 30 = .ok (.invokevirtual 106, 3) := by decide +kernel
theorem dX10_quotient_33 : decode cX10_quotient 33 = .ok (.aload_n 0, 1) := by decide +kernel
theorem dX10_quotient_34 : decode cX10_quotient 34 = .ok (.iload_n 2, 1) := by decide +kernel
theorem dX10_quotient_35 : decode cX10_quotient 35 = .ok (.invokevirtual 125, 3) := by decide +kernel
theorem dX10_quotient_38 : decode cX10_quotient 38 = .ok (.iconst 1, 1) := by decide +kernel
theorem dX10_quotient_39 : decode cX10_quotient 39 = .ok (.if_icmp .ne 56, 3) := by decide +kernel
theorem dX10_quotient_42 : decode cX10_quotient 42 = .ok (.aload_n 0, 1) := by decide +kernel
theorem dX10_quotient_43 : decode cX10_quotient 43 = .ok (.iload_n 2, 1) := by decide +kernel
theorem dX10_quotient_44 : decode cX10_quotient 44 = .ok (.iconst 1, 1) := by decide +kernel
theorem dX10_quotient_45 : decode cX10_quotient 45 = .ok (.iconst 4, 1) := by decide +kernel
theorem dX10_quotient_46 : decode cX10_quotient 46 = .ok (.invokevirtual 118, 3) := by decide +kernel
theorem dX10_quotient_49 : decode cX10_quotient 49 = .ok (.aload_n 0, 1) := by decide +kernel
theorem dX10_quotient_50 : decode cX10_quotient 50 = .ok (.iconst 4, 1) := by decide +kernel
theorem dX10_quotient_51 : decode cX10_quotient 51 = .ok (.iload_n 1, 1) := by decide +kernel
theorem dX10_quotient_52 : decode cX10_quotient 52 = .ok (.iconst 4, 1) := by decide +kernel
theorem dX10_quotient_53 : decode cX10_quotient 53 = .ok (.invokevirtual 90, 3) := by decide +kernel
theorem dX10_quotient_56 : decode cX10_quotient 56 = .ok (.aload_n 0, 1) := by decide +kernel
theorem dX10_quotient_57 : decode cX10_quotient 57 = .ok (.iconst 4, 1) := by decide +kernel
theorem dX10_quotient_58 : decode cX10_quotient 58 = .ok (.iconst 1, 1) := by decide +kernel
theorem dX10_quotient_59 : decode cX10_quotient 59 = .ok (.iconst (-1), 1) := by decide +kernel
theorem dX10_quotient_60 : decode cX10_quotient 60 = .ok (.invokevirtual 81, 3) := by decide +kernel
theorem dX10_quotient_63 : decode cX10_quotient 63 = .ok (.aload_n 0, 1) := by decide +kernel
theorem dX10_quotient_64 : decode cX10_quotient 64 = .ok (.iconst 4, 1) := by decide +kernel
theorem dX10_quotient_65 : decode cX10_quotient 65 = .ok (.iconst 5, 1) := by decide +kernel
theorem dX10_quotient_66 : decode cX10_quotient 66 = .ok (.invokevirtual 77, 3) := by decide +kernel
theorem dX10_quotient_69 : decode cX10_quotient 69 = .ok (.aload_n 0, 1) := by decide +kernel
theorem dX10_quotient_70 : decode cX10_quotient 70 = .ok (.iconst 4, 1) := by decide +kernel
theorem dX10_quotient_71 : decode cX10_quotient 71 = .ok (.invokevirtual 128, 3) := by decide +kernel
theorem dX10_quotient_74 : decode cX10_quotient 74 = .ok (.aload_n 0, 1) := by decide +kernel
theorem dX10_quotient_75 : decode cX10_quotient 75 = .ok (.iconst 4, 1) := by decide +kernel
theorem dX10_quotient_76 : decode cX10_quotient 76 = .ok (.iconst 5, 1) := by decide +kernel
theorem dX10_quotient_77 : decode cX10_quotient 77 = .ok (.iconst 4, 1) := by decide +kernel
theorem dX10_quotient_78 : decode cX10_quotient 78 = .ok (.invokevirtual 90, 3) := by decide +kernel
theorem dX10_quotient_81 : decode cX10_quotient 81 = .ok (.aload_n 0, 1) := by decide +kernel
theorem dX10_quotient_82 : decode cX10_quotient 82 = .ok (.iconst 4, 1) := by decide +kernel
theorem dX10_quotient_83 : decode cX10_quotient 83 = .ok (.iconst 0, 1) := by decide +kernel
theorem dX10_quotient_84 : decode cX10_quotient 84 = .ok (.iconst (-1), 1) := by decide +kernel
theorem dX10_quotient_85 : decode cX10_quotient 85 = .ok (.invokevirtual 81, 3) := by decide +kernel
theorem dX10_quotient_88 : decode cX10_quotient 88 = .ok (.aload_n 0, 1) := by decide +kernel
theorem dX10_quotient_89 : decode cX10_quotient 89 = .ok (.iconst 4, 1) := by decide +kernel
theorem dX10_quotient_90 : decode cX10_quotient 90 = .ok (.iconst 3, 1) := by decide +kernel
theorem dX10_quotient_91 : decode cX10_quotient 91 = .ok (.iconst 1, 1) := by decide +kernel
theorem dX10_quotient_92 : decode cX10_quotient 92 = .ok (.invokevirtual 93, 3) := by decide +kernel
theorem dX10_quotient_95 : decode cX10_quotient 95 = .ok (.iinc 4 1, 3) := by decide +kernel
theorem dX10_quotient_98 : decode cX10_quotient 98 = .ok (.goto (-84), 3) := by decide +kernel
theorem dX10_quotient_101 : decode cX10_quotient 101 = .ok (.aload_n 0, 1) := by decide +kernel
theorem dX10_quotient_102 : decode cX10_quotient 102 = .ok (.iconst 3, 1) := by decide +kernel
theorem dX10_quotient_103 : decode cX10_quotient 103 = .ok (.iload_n 3, 1) := by decide +kernel
theorem dX10_quotient_104 : decode cX10_quotient 104 = .ok (.invokevirtual 77, 3) := by decide +kernel
theorem dX10_quotient_107 : decode cX10_quotient 107 = .ok (.return_, 1) := by decide +kernel
theorem dX10_setPrime_0 : decode cX10_setPrime 0 = .ok (.iload_n 1, 1) := by decide +kernel
theorem dX10_setPrime_1 : decode cX10_setPrime 1 = .ok (.iconst 2, 1) := by decide +kernel
theorem dX10_setPrime_2 : decode cX10_setPrime 2 = .ok (.if_icmp .eq 34, 3) := by decide +kernel
theorem dX10_setPrime_5 : decode cX10_setPrime 5 = .ok (.iload_n 1, 1) := by decide +kernel
theorem dX10_setPrime_6 : decode cX10_setPrime 6 = .ok (.iconst 3, 1) := by decide +kernel
theorem dX10_setPrime_7 : decode cX10_setPrime 7 = .ok (.if_icmp .eq 29, 3) := by decide +kernel
theorem dX10_setPrime_10 : decode cX10_setPrime 10 = .ok (.iload_n 1, 1) := by decide +kernel
theorem dX10_setPrime_11 : decode cX10_setPrime 11 = .ok (.iconst 5, 1) := by decide +kernel
theorem dX10_setPrime_12 : decode cX10_setPrime 12 = .ok (.if_icmp .eq 24, 3) := by decide +kernel
theorem dX10_setPrime_15 : decode cX10_setPrime 15 = .ok (.iload_n 1, 1) := by decide +kernel
theorem dX10_setPrime_16 : decode cX10_setPrime 16 = .ok (.bipush 7, 2) := by decide +kernel
theorem dX10_setPrime_18 : decode cX10_setPrime 18 = .ok (.if_icmp .eq 18, 3) := by decide +kernel
theorem dX10_setPrime_21 : decode cX10_setPrime 21 = .ok (.iload_n 1, 1) := by decide +kernel
theorem dX10_setPrime_22 : decode cX10_setPrime 22 = .ok (.bipush 11, 2) := by decide +kernel
theorem dX10_setPrime_24 : decode cX10_setPrime 24 = .ok (.if_icmp .eq 12, 3) := by decide +kernel
theorem dX10_setPrime_27 : decode cX10_setPrime 27 = .ok (.iload_n 1, 1) := by decide +kernel
theorem dX10_setPrime_28 : decode cX10_setPrime 28 = .ok (.bipush 13, 2) := by decide +kernel
theorem dX10_setPrime_30 : decode cX10_setPrime 30 = .ok (.if_icmp .eq 6, 3) := by decide +kernel
theorem dX10_setPrime_33 : decode cX10_setPrime 33 = .ok (.bipush (-2), 2) := by decide +kernel
theorem dX10_setPrime_35 : decode cX10_setPrime 35 = .ok (.ireturn, 1) := by decide +kernel
theorem dX10_setPrime_36 : decode cX10_setPrime 36 = .ok (.aload_n 0, 1) := by decide +kernel
theorem dX10_setPrime_37 : decode cX10_setPrime 37 = .ok (.getfield 7, 3) := by decide +kernel
theorem dX10_setPrime_40 : decode cX10_setPrime 40 = .ok (.iconst 0, 1) := by decide +kernel
theorem dX10_setPrime_41 : decode cX10_setPrime 41 = .ok (.iaload, 1) := by decide +kernel
theorem dX10_setPrime_42 : decode cX10_setPrime 42 = .ok (.istore_n 2, 1) := by decide +kernel
theorem dX10_setPrime_43 : decode cX10_setPrime 43 = .ok (.iload_n 2, 1) := by decide +kernel
theorem dX10_setPrime_44 : decode cX10_setPrime 44 = .ok (.iload_n 1, 1) := by decide +kernel
theorem dX10_setPrime_45 : decode cX10_setPrime 45 = .ok (.if_icmp .ne 6, 3) := by decide +kernel
theorem dX10_setPrime_48 : decode cX10_setPrime 48 = .ok (.bipush (-5), 2) := by decide +kernel
theorem dX10_setPrime_50 : decode cX10_setPrime 50 = .ok (.ireturn, 1) := by decide +kernel
theorem dX10_setPrime_51 : decode cX10_setPrime 51 = .ok (.aload_n 0, 1) := by decide +kernel
theorem dX10_setPrime_52 : decode cX10_setPrime 52 = .ok (.invokevirtual 131, 3) := by decide +kernel
theorem dX10_setPrime_55 : decode cX10_setPrime 55 = .ok (.aload_n 0, 1) := by decide +kernel
theorem dX10_setPrime_56 : decode cX10_setPrime 56 = .ok (.getfield 7, 3) := by decide +kernel
theorem dX10_setPrime_59 : decode cX10_setPrime 59 = .ok (.iconst 0, 1) := by decide +kernel
theorem dX10_setPrime_60 : decode cX10_setPrime 60 = .ok (.iload_n 1, 1) := by decide +kernel
theorem dX10_setPrime_61 : decode cX10_setPrime 61 = .ok (.iastore, 1) := by decide +kernel
theorem dX10_setPrime_62 : decode cX10_setPrime 62 = .ok (.aload_n 0, 1) := by decide +kernel
theorem dX10_setPrime_63 : decode cX10_setPrime 63 = .ok (.invokevirtual 44, 3) := by decide +kernel
theorem dX10_setPrime_66 : decode cX10_setPrime 66 = .ok (.iload_n 2, 1) := by decide +kernel
theorem dX10_setPrime_67 : decode cX10_setPrime 67 = .ok (.ireturn, 1) := by decide +kernel
theorem dX10_derives_0 : decode cX10_derives 0 = .ok (.aload_n 0, 1) := by decide +kernel
theorem dX10_derives_1 : decode cX10_derives 1 = .ok (.iload_n 2, 1) := by decide +kernel
theorem dX10_derives_2 : decode cX10_derives 2 = .ok (.invokevirtual 63, 3) := by decide +kernel
theorem dX10_derives_5 : decode cX10_derives 5 = .ok (.iconst 1, 1) := by decide +kernel
theorem dX10_derives_6 : decode cX10_derives 6 = .ok (.istore_n 3, 1) := by decide +kernel
theorem dX10_derives_7 : decode cX10_derives 7 = .ok (.iload_n 3, 1) := by decide +kernel
theorem dX10_derives_8 : decode cX10_derives 8 = .ok (.bipush 14, 2) := by decide +kernel
theorem dX10_derives_10 : decode cX10_derives 10 = .ok (.if_icmp .ge 32, 3) := by decide +kernel
theorem dX10_derives_13 : decode cX10_derives 13 = .ok (.aload_n 0, 1) := by decide +kernel
theorem dX10_derives_14 : decode cX10_derives 14 = .ok (.iload_n 2, 1) := by decide +kernel
theorem dX10_derives_15 : decode cX10_derives 15 = .ok (.iload_n 3, 1) := by decide +kernel
theorem dX10_derives_16 : decode cX10_derives 16 = .ok (.iconst 1, 1) := by decide +kernel
theorem dX10_derives_17 : decode cX10_derives 17 = .ok (.isub, 1) := by decide +kernel
theorem dX10_derives_18 : decode cX10_derives 18 = .ok (.aload_n 0, 1) := by decide +kernel
theorem dX10_derives_19 : decode cX10_derives 19 = .ok (.iload_n 1, 1) := by decide +kernel
theorem dX10_derives_20 : decode cX10_derives 20 = .ok (.iload_n 3, 1) := by decide +kernel
theorem dX10_derives_21 : decode cX10_derives 21 = .ok (.invokevirtual 55, 3) := by decide +kernel
theorem dX10_derives_24 : decode cX10_derives 24 = .ok (.iload_n 3, 1) := by decide +kernel
theorem dX10_derives_25 : decode cX10_derives 25 = .ok (.imul, 1) := by decide +kernel
theorem dX10_derives_26 : decode cX10_derives 26 = .ok (.aload_n 0, 1) := by decide +kernel
theorem dX10_derives_27 : decode cX10_derives 27 = .ok (.getfield 7, 3) := by decide +kernel
theorem dX10_derives_30 : decode cX10_derives 30 = .ok (.iconst 0, 1) := by decide +kernel
theorem dX10_derives_31 : decode cX10_derives 31 = .ok (.iaload, 1) := by decide +kernel
theorem dX10_derives_32 : decode cX10_derives 32 = .ok (.irem, 1) := by decide +kernel
theorem dX10_derives_33 : decode cX10_derives 33 = .ok (.invokevirtual 59, 3) := by decide +kernel
theorem dX10_derives_36 : decode cX10_derives 36 = .ok (.iinc 3 1, 3) := by decide +kernel
theorem dX10_derives_39 : decode cX10_derives 39 = .ok (.goto (-32), 3) := by decide +kernel
theorem dX10_derives_42 : decode cX10_derives 42 = .ok (.return_, 1) := by decide +kernel
theorem dX10_readModulus_0 : decode cX10_readModulus 0 = .ok (.aload_n 0, 1) := by decide +kernel
theorem dX10_readModulus_1 : decode cX10_readModulus 1 = .ok (.invokevirtual 134, 3) := by decide +kernel
theorem dX10_readModulus_4 : decode cX10_readModulus 4 = .ok (.istore_n 1, 1) := by decide +kernel
theorem dX10_readModulus_5 : decode cX10_readModulus 5 = .ok (.iload_n 1, 1) := by decide +kernel
theorem dX10_readModulus_6 : decode cX10_readModulus 6 = .ok (.bipush (-5), 2) := by decide +kernel
theorem dX10_readModulus_8 : decode cX10_readModulus 8 = .ok (.if_icmp .ne 11, 3) := by decide +kernel
theorem dX10_readModulus_11 : decode cX10_readModulus 11 = .ok (.bipush (-100), 2) := by decide +kernel
theorem dX10_readModulus_13 : decode cX10_readModulus 13 = .ok (.aload_n 0, 1) := by decide +kernel
theorem dX10_readModulus_14 : decode cX10_readModulus 14 = .ok (.getfield 138, 3) := by decide +kernel
theorem dX10_readModulus_17 : decode cX10_readModulus 17 = .ok (.isub, 1) := by decide +kernel
theorem dX10_readModulus_18 : decode cX10_readModulus 18 = .ok (.ireturn, 1) := by decide +kernel
theorem dX10_readModulus_19 : decode cX10_readModulus 19 = .ok (.aload_n 0, 1) := by decide +kernel
theorem dX10_readModulus_20 : decode cX10_readModulus 20 = .ok (.iconst 2, 1) := by decide +kernel
theorem dX10_readModulus_21 : decode cX10_readModulus 21 = .ok (.invokevirtual 63, 3) := by decide +kernel
theorem dX10_readModulus_24 : decode cX10_readModulus 24 = .ok (.iload_n 1, 1) := by decide +kernel
theorem dX10_readModulus_25 : decode cX10_readModulus 25 = .ok (.iconst 1, 1) := by decide +kernel
theorem dX10_readModulus_26 : decode cX10_readModulus 26 = .ok (.if_icmp .eq 15, 3) := by decide +kernel
theorem dX10_readModulus_29 : decode cX10_readModulus 29 = .ok (.aload_n 0, 1) := by decide +kernel
theorem dX10_readModulus_30 : decode cX10_readModulus 30 = .ok (.getfield 32, 3) := by decide +kernel
theorem dX10_readModulus_33 : decode cX10_readModulus 33 = .ok (.iload_n 1, 1) := by decide +kernel
theorem dX10_readModulus_34 : decode cX10_readModulus 34 = .ok (.iconst 1, 1) := by decide +kernel
theorem dX10_readModulus_35 : decode cX10_readModulus 35 = .ok (.isub, 1) := by decide +kernel
theorem dX10_readModulus_36 : decode cX10_readModulus 36 = .ok (.iaload, 1) := by decide +kernel
theorem dX10_readModulus_37 : decode cX10_readModulus 37 = .ok (.iconst 1, 1) := by decide +kernel
theorem dX10_readModulus_38 : decode cX10_readModulus 38 = .ok (.if_icmp .eq 7, 3) := by decide +kernel
theorem dX10_readModulus_41 : decode cX10_readModulus 41 = .ok (.iconst 1, 1) := by decide +kernel
theorem dX10_readModulus_42 : decode cX10_readModulus 42 = .ok (.goto 4, 3) := by decide +kernel
theorem dX10_readModulus_45 : decode cX10_readModulus 45 = .ok (.iconst 0, 1) := by decide +kernel
theorem dX10_readModulus_46 : decode cX10_readModulus 46 = .ok (.istore_n 2, 1) := by decide +kernel
theorem dX10_readModulus_47 : decode cX10_readModulus 47 = .ok (.iconst 0, 1) := by decide +kernel
theorem dX10_readModulus_48 : decode cX10_readModulus 48 = .ok (.istore_n 3, 1) := by decide +kernel
theorem dX10_readModulus_49 : decode cX10_readModulus 49 = .ok (.iload_n 3, 1) := by decide +kernel
theorem dX10_readModulus_50 : decode cX10_readModulus 50 = .ok (.iload_n 1, 1) := by decide +kernel
theorem dX10_readModulus_51 : decode cX10_readModulus 51 = .ok (.if_icmp .ge 51, 3) := by decide +kernel
theorem dX10_readModulus_54 : decode cX10_readModulus 54 = .ok (.iload_n 2, 1) := by decide +kernel
theorem dX10_readModulus_55 : decode cX10_readModulus 55 = .ok (.aload_n 0, 1) := by decide +kernel
theorem dX10_readModulus_56 : decode cX10_readModulus 56 = .ok (.getfield 32, 3) := by decide +kernel
theorem dX10_readModulus_59 : decode cX10_readModulus 59 = .ok (.iload_n 3, 1) := by decide +kernel
theorem dX10_readModulus_60 : decode cX10_readModulus 60 = .ok (.iaload, 1) := by decide +kernel
theorem dX10_readModulus_61 : decode cX10_readModulus 61 = .ok (.aload_n 0, 1) := by decide +kernel
theorem dX10_readModulus_62 : decode cX10_readModulus 62 = .ok (.getfield 7, 3) := by decide +kernel
theorem dX10_readModulus_65 : decode cX10_readModulus 65 = .ok (.iconst 0, 1) := by decide +kernel
theorem dX10_readModulus_66 : decode cX10_readModulus 66 = .ok (.iaload, 1) := by decide +kernel
theorem dX10_readModulus_67 : decode cX10_readModulus 67 = .ok (.if_icmp .lt 7, 3) := by decide +kernel
theorem dX10_readModulus_70 : decode cX10_readModulus 70 = .ok (.iconst 1, 1) := by decide +kernel
theorem dX10_readModulus_71 : decode cX10_readModulus 71 = .ok (.goto 4, 3) := by decide +kernel
theorem dX10_readModulus_74 : decode cX10_readModulus 74 = .ok (.iconst 0, 1) := by decide +kernel
theorem dX10_readModulus_75 : decode cX10_readModulus 75 = .ok (.ior, 1) := by decide +kernel
theorem dX10_readModulus_76 : decode cX10_readModulus 76 = .ok (.istore_n 2, 1) := by decide +kernel
theorem dX10_readModulus_77 : decode cX10_readModulus 77 = .ok (.aload_n 0, 1) := by decide +kernel
theorem dX10_readModulus_78 : decode cX10_readModulus 78 = .ok (.iconst 2, 1) := by decide +kernel
theorem dX10_readModulus_79 : decode cX10_readModulus 79 = .ok (.iload_n 3, 1) := by decide +kernel
theorem dX10_readModulus_80 : decode cX10_readModulus 80 = .ok (.aload_n 0, 1) := by decide +kernel
theorem dX10_readModulus_81 : decode cX10_readModulus 81 = .ok (.getfield 32, 3) := by decide +kernel
theorem dX10_readModulus_84 : decode cX10_readModulus 84 = .ok (.iload_n 3, 1) := by decide +kernel
theorem dX10_readModulus_85 : decode cX10_readModulus 85 = .ok (.iaload, 1) := by decide +kernel
theorem dX10_readModulus_86 : decode cX10_readModulus 86 = .ok (.aload_n 0, 1) := by decide +kernel
theorem dX10_readModulus_87 : decode cX10_readModulus 87 = .ok (.getfield 7, 3) := by decide +kernel
theorem dX10_readModulus_90 : decode cX10_readModulus 90 = .ok (.iconst 0, 1) := by decide +kernel
theorem dX10_readModulus_91 : decode cX10_readModulus 91 = .ok (.iaload, 1) := by decide +kernel
theorem dX10_readModulus_92 : decode cX10_readModulus 92 = .ok (.irem, 1) := by decide +kernel
theorem dX10_readModulus_93 : decode cX10_readModulus 93 = .ok (.invokevirtual 59, 3) := by decide +kernel
theorem dX10_readModulus_96 : decode cX10_readModulus 96 = .ok (.iinc 3 1, 3) := by decide +kernel
theorem dX10_readModulus_99 : decode cX10_readModulus 99 = .ok (.goto (-50), 3) := by decide +kernel
theorem dX10_readModulus_102 : decode cX10_readModulus 102 = .ok (.iload_n 2, 1) := by decide +kernel
theorem dX10_readModulus_103 : decode cX10_readModulus 103 = .ok (.ifCond .eq 6, 3) := by decide +kernel
theorem dX10_readModulus_106 : decode cX10_readModulus 106 = .ok (.bipush (-2), 2) := by decide +kernel
theorem dX10_readModulus_108 : decode cX10_readModulus 108 = .ok (.ireturn, 1) := by decide +kernel
theorem dX10_readModulus_109 : decode cX10_readModulus 109 = .ok (.aload_n 0, 1) := by decide +kernel
theorem dX10_readModulus_110 : decode cX10_readModulus 110 = .ok (.iconst 2, 1) := by decide +kernel
theorem dX10_readModulus_111 : decode cX10_readModulus 111 = .ok (.iconst 3, 1) := by decide +kernel
theorem dX10_readModulus_112 : decode cX10_readModulus 112 = .ok (.invokevirtual 141, 3) := by decide +kernel
theorem dX10_readModulus_115 : decode cX10_readModulus 115 = .ok (.aload_n 0, 1) := by decide +kernel
theorem dX10_readModulus_116 : decode cX10_readModulus 116 = .ok (.iconst 2, 1) := by decide +kernel
theorem dX10_readModulus_117 : decode cX10_readModulus 117 = .ok (.iconst 3, 1) := by decide +kernel
theorem dX10_readModulus_118 : decode cX10_readModulus 118 = .ok (.iconst 4, 1) := by decide +kernel
theorem dX10_readModulus_119 : decode cX10_readModulus 119 = .ok (.invokevirtual 109, 3) := by decide +kernel
theorem dX10_readModulus_122 : decode cX10_readModulus 122 = .ok (.aload_n 0, 1) := by decide +kernel
theorem dX10_readModulus_123 : decode cX10_readModulus 123 = .ok (.iconst 4, 1) := by decide +kernel
theorem dX10_readModulus_124 : decode cX10_readModulus 124 = .ok (.invokevirtual 70, 3) := by decide +kernel
theorem dX10_readModulus_127 : decode cX10_readModulus 127 = .ok (.ifCond .le 6, 3) := by decide +kernel
theorem dX10_readModulus_130 : decode cX10_readModulus 130 = .ok (.bipush (-4), 2) := by decide +kernel
theorem dX10_readModulus_132 : decode cX10_readModulus 132 = .ok (.ireturn, 1) := by decide +kernel
theorem dX10_readModulus_133 : decode cX10_readModulus 133 = .ok (.iconst 1, 1) := by decide +kernel
theorem dX10_readModulus_134 : decode cX10_readModulus 134 = .ok (.istore_n 3, 1) := by decide +kernel
theorem dX10_readModulus_135 : decode cX10_readModulus 135 = .ok (.iconst 0, 1) := by decide +kernel
theorem dX10_readModulus_136 : decode cX10_readModulus 136 = .ok (.istore 4, 2) := by decide +kernel
theorem dX10_readModulus_138 : decode cX10_readModulus 138 = .ok (.iload 4, 2) := by decide +kernel
theorem dX10_readModulus_140 : decode cX10_readModulus 140 = .ok (.bipush 7, 2) := by decide +kernel
theorem dX10_readModulus_142 : decode cX10_readModulus 142 = .ok (.if_icmp .ge 36, 3) := by decide +kernel
theorem dX10_readModulus_145 : decode cX10_readModulus 145 = .ok (.iload_n 3, 1) := by decide +kernel
theorem dX10_readModulus_146 : decode cX10_readModulus 146 = .ok (.aload_n 0, 1) := by decide +kernel
theorem dX10_readModulus_147 : decode cX10_readModulus 147 = .ok (.getfield 7, 3) := by decide +kernel
theorem dX10_readModulus_150 : decode cX10_readModulus 150 = .ok (.iconst 1, 1) := by decide +kernel
theorem dX10_readModulus_151 : decode cX10_readModulus 151 = .ok (.iload 4, 2) := by decide +kernel
theorem dX10_readModulus_153 : decode cX10_readModulus 153 = .ok (.iadd, 1) := by decide +kernel
theorem dX10_readModulus_154 : decode cX10_readModulus 154 = .ok (.iaload, 1) := by decide +kernel
theorem dX10_readModulus_155 : decode cX10_readModulus 155 = .ok (.aload_n 0, 1) := by decide +kernel
theorem dX10_readModulus_156 : decode cX10_readModulus 156 = .ok (.iconst 2, 1) := by decide +kernel
theorem dX10_readModulus_157 : decode cX10_readModulus 157 = .ok (.iload 4, 2) := by decide +kernel
theorem dX10_readModulus_159 : decode cX10_readModulus 159 = .ok (.invokevirtual 55, 3) := by decide +kernel
theorem dX10_readModulus_162 : decode cX10_readModulus 162 = .ok (.if_icmp .ne 7, 3) := by decide +kernel
theorem dX10_readModulus_165 : decode cX10_readModulus 165 = .ok (.iconst 1, 1) := by decide +kernel
theorem dX10_readModulus_166 : decode cX10_readModulus 166 = .ok (.goto 4, 3) := by decide +kernel
theorem dX10_readModulus_169 : decode cX10_readModulus 169 = .ok (.iconst 0, 1) := by decide +kernel
theorem dX10_readModulus_170 : decode cX10_readModulus 170 = .ok (.iand, 1) := by decide +kernel
theorem dX10_readModulus_171 : decode cX10_readModulus 171 = .ok (.istore_n 3, 1) := by decide +kernel
theorem dX10_readModulus_172 : decode cX10_readModulus 172 = .ok (.iinc 4 1, 3) := by decide +kernel
theorem dX10_readModulus_175 : decode cX10_readModulus 175 = .ok (.goto (-37), 3) := by decide +kernel
theorem dX10_readModulus_178 : decode cX10_readModulus 178 = .ok (.iload_n 3, 1) := by decide +kernel
theorem dX10_readModulus_179 : decode cX10_readModulus 179 = .ok (.ifCond .eq 6, 3) := by decide +kernel
theorem dX10_readModulus_182 : decode cX10_readModulus 182 = .ok (.bipush (-5), 2) := by decide +kernel
theorem dX10_readModulus_184 : decode cX10_readModulus 184 = .ok (.ireturn, 1) := by decide +kernel
theorem dX10_readModulus_185 : decode cX10_readModulus 185 = .ok (.aload_n 0, 1) := by decide +kernel
theorem dX10_readModulus_186 : decode cX10_readModulus 186 = .ok (.invokevirtual 131, 3) := by decide +kernel
theorem dX10_readModulus_189 : decode cX10_readModulus 189 = .ok (.iconst 0, 1) := by decide +kernel
theorem dX10_readModulus_190 : decode cX10_readModulus 190 = .ok (.istore 4, 2) := by decide +kernel
theorem dX10_readModulus_192 : decode cX10_readModulus 192 = .ok (.iload 4, 2) := by decide +kernel
theorem dX10_readModulus_194 : decode cX10_readModulus 194 = .ok (.bipush 7, 2) := by decide +kernel
theorem dX10_readModulus_196 : decode cX10_readModulus 196 = .ok (.if_icmp .ge 25, 3) := by decide +kernel
theorem dX10_readModulus_199 : decode cX10_readModulus 199 = .ok (.aload_n 0, 1) := by decide +kernel
theorem dX10_readModulus_200 : decode cX10_readModulus 200 = .ok (.getfield 7, 3) := by decide +kernel
theorem dX10_readModulus_203 : decode cX10_readModulus 203 = .ok (.iconst 1, 1) := by decide +kernel
theorem dX10_readModulus_204 : decode cX10_readModulus 204 = .ok (.iload 4, 2) := by decide +kernel
theorem dX10_readModulus_206 : decode cX10_readModulus 206 = .ok (.iadd, 1) := by decide +kernel
theorem dX10_readModulus_207 : decode cX10_readModulus 207 = .ok (.aload_n 0, 1) := by decide +kernel
theorem dX10_readModulus_208 : decode cX10_readModulus 208 = .ok (.iconst 2, 1) := by decide +kernel
theorem dX10_readModulus_209 : decode cX10_readModulus 209 = .ok (.iload 4, 2) := by decide +kernel
theorem dX10_readModulus_211 : decode cX10_readModulus 211 = .ok (.invokevirtual 55, 3) := by decide +kernel
theorem dX10_readModulus_214 : decode cX10_readModulus 214 = .ok (.iastore, 1) := by decide +kernel
theorem dX10_readModulus_215 : decode cX10_readModulus 215 = .ok (.iinc 4 1, 3) := by decide +kernel
theorem dX10_readModulus_218 : decode cX10_readModulus 218 = .ok (.goto (-26), 3) := by decide +kernel
theorem dX10_readModulus_221 : decode cX10_readModulus 221 = .ok (.iconst 0, 1) := by decide +kernel
theorem dX10_readModulus_222 : decode cX10_readModulus 222 = .ok (.istore 4, 2) := by decide +kernel
theorem dX10_readModulus_224 : decode cX10_readModulus 224 = .ok (.iload 4, 2) := by decide +kernel
theorem dX10_readModulus_226 : decode cX10_readModulus 226 = .ok (.bipush 6, 2) := by decide +kernel
theorem dX10_readModulus_228 : decode cX10_readModulus 228 = .ok (.if_icmp .ge 30, 3) := by decide +kernel
theorem dX10_readModulus_231 : decode cX10_readModulus 231 = .ok (.aload_n 0, 1) := by decide +kernel
theorem dX10_readModulus_232 : decode cX10_readModulus 232 = .ok (.iload 4, 2) := by decide +kernel
theorem dX10_readModulus_234 : decode cX10_readModulus 234 = .ok (.iconst 3, 1) := by decide +kernel
theorem dX10_readModulus_235 : decode cX10_readModulus 235 = .ok (.invokevirtual 144, 3) := by decide +kernel
theorem dX10_readModulus_238 : decode cX10_readModulus 238 = .ok (.aload_n 0, 1) := by decide +kernel
theorem dX10_readModulus_239 : decode cX10_readModulus 239 = .ok (.iconst 3, 1) := by decide +kernel
theorem dX10_readModulus_240 : decode cX10_readModulus 240 = .ok (.iconst 2, 1) := by decide +kernel
theorem dX10_readModulus_241 : decode cX10_readModulus 241 = .ok (.iconst (-1), 1) := by decide +kernel
theorem dX10_readModulus_242 : decode cX10_readModulus 242 = .ok (.invokevirtual 81, 3) := by decide +kernel
theorem dX10_readModulus_245 : decode cX10_readModulus 245 = .ok (.aload_n 0, 1) := by decide +kernel
theorem dX10_readModulus_246 : decode cX10_readModulus 246 = .ok (.iconst 3, 1) := by decide +kernel
theorem dX10_readModulus_247 : decode cX10_readModulus 247 = .ok (.iload 4, 2) := by decide +kernel
theorem dX10_readModulus_249 : decode cX10_readModulus 249 = .ok (.invokevirtual 147, 3) := by decide +kernel
theorem dX10_readModulus_252 : decode cX10_readModulus 252 = .ok (.iinc 4 1, 3) := by decide +kernel
theorem dX10_readModulus_255 : decode cX10_readModulus 255 = .ok (.goto (-31), 3) := by decide +kernel
theorem dX10_readModulus_258 : decode cX10_readModulus 258 = .ok (.aload_n 0, 1) := by decide +kernel
theorem dX10_readModulus_259 : decode cX10_readModulus 259 = .ok (.getfield 7, 3) := by decide +kernel
theorem dX10_readModulus_262 : decode cX10_readModulus 262 = .ok (.bipush 44, 2) := by decide +kernel
theorem dX10_readModulus_264 : decode cX10_readModulus 264 = .ok (.iconst 0, 1) := by decide +kernel
theorem dX10_readModulus_265 : decode cX10_readModulus 265 = .ok (.iastore, 1) := by decide +kernel
theorem dX10_readModulus_266 : decode cX10_readModulus 266 = .ok (.aload_n 0, 1) := by decide +kernel
theorem dX10_readModulus_267 : decode cX10_readModulus 267 = .ok (.iconst 2, 1) := by decide +kernel
theorem dX10_readModulus_268 : decode cX10_readModulus 268 = .ok (.invokevirtual 112, 3) := by decide +kernel
theorem dX10_readModulus_271 : decode cX10_readModulus 271 = .ok (.iload_n 1, 1) := by decide +kernel
theorem dX10_readModulus_272 : decode cX10_readModulus 272 = .ok (.iconst 1, 1) := by decide +kernel
theorem dX10_readModulus_273 : decode cX10_readModulus 273 = .ok (.isub, 1) := by decide +kernel
theorem dX10_readModulus_274 : decode cX10_readModulus 274 = .ok (.ireturn, 1) := by decide +kernel
theorem dX10_stores_0 : decode cX10_stores 0 = .ok (.iconst 0, 1) := by decide +kernel
theorem dX10_stores_1 : decode cX10_stores 1 = .ok (.istore_n 3, 1) := by decide +kernel
theorem dX10_stores_2 : decode cX10_stores 2 = .ok (.iload_n 3, 1) := by decide +kernel
theorem dX10_stores_3 : decode cX10_stores 3 = .ok (.bipush 6, 2) := by decide +kernel
theorem dX10_stores_5 : decode cX10_stores 5 = .ok (.if_icmp .ge 29, 3) := by decide +kernel
theorem dX10_stores_8 : decode cX10_stores 8 = .ok (.aload_n 0, 1) := by decide +kernel
theorem dX10_stores_9 : decode cX10_stores 9 = .ok (.getfield 7, 3) := by decide +kernel
theorem dX10_stores_12 : decode cX10_stores 12 = .ok (.bipush 8, 2) := by decide +kernel
theorem dX10_stores_14 : decode cX10_stores 14 = .ok (.bipush 6, 2) := by decide +kernel
theorem dX10_stores_16 : decode cX10_stores 16 = .ok (.iload_n 2, 1) := by decide +kernel
theorem dX10_stores_17 : decode cX10_stores 17 = .ok (.imul, 1) := by decide +kernel
theorem dX10_stores_18 : decode cX10_stores 18 = .ok (.iadd, 1) := by decide +kernel
theorem dX10_stores_19 : decode cX10_stores 19 = .ok (.iload_n 3, 1) := by decide +kernel
theorem dX10_stores_20 : decode cX10_stores 20 = .ok (.iadd, 1) := by decide +kernel
theorem dX10_stores_21 : decode cX10_stores 21 = .ok (.aload_n 0, 1) := by decide +kernel
theorem dX10_stores_22 : decode cX10_stores 22 = .ok (.iload_n 1, 1) := by decide +kernel
theorem dX10_stores_23 : decode cX10_stores 23 = .ok (.iload_n 3, 1) := by decide +kernel
theorem dX10_stores_24 : decode cX10_stores 24 = .ok (.invokevirtual 55, 3) := by decide +kernel
theorem dX10_stores_27 : decode cX10_stores 27 = .ok (.iastore, 1) := by decide +kernel
theorem dX10_stores_28 : decode cX10_stores 28 = .ok (.iinc 3 1, 3) := by decide +kernel
theorem dX10_stores_31 : decode cX10_stores 31 = .ok (.goto (-29), 3) := by decide +kernel
theorem dX10_stores_34 : decode cX10_stores 34 = .ok (.return_, 1) := by decide +kernel
theorem dX10_degreeOfModulus_0 : decode cX10_degreeOfModulus 0 = .ok (.aload_n 0, 1) := by decide +kernel
theorem dX10_degreeOfModulus_1 : decode cX10_degreeOfModulus 1 = .ok (.invokevirtual 150, 3) := by decide +kernel
theorem dX10_degreeOfModulus_4 : decode cX10_degreeOfModulus 4 = .ok (.aload_n 0, 1) := by decide +kernel
theorem dX10_degreeOfModulus_5 : decode cX10_degreeOfModulus 5 = .ok (.iconst 0, 1) := by decide +kernel
theorem dX10_degreeOfModulus_6 : decode cX10_degreeOfModulus 6 = .ok (.invokevirtual 70, 3) := by decide +kernel
theorem dX10_degreeOfModulus_9 : decode cX10_degreeOfModulus 9 = .ok (.ireturn, 1) := by decide +kernel
theorem dX10_noPlace_0 : decode cX10_noPlace 0 = .ok (.iload_n 1, 1) := by decide +kernel
theorem dX10_noPlace_1 : decode cX10_noPlace 1 = .ok (.iconst 0, 1) := by decide +kernel
theorem dX10_noPlace_2 : decode cX10_noPlace 2 = .ok (.aload_n 0, 1) := by decide +kernel
theorem dX10_noPlace_3 : decode cX10_noPlace 3 = .ok (.invokevirtual 153, 3) := by decide +kernel
theorem dX10_noPlace_6 : decode cX10_noPlace 6 = .ok (.iconst 1, 1) := by decide +kernel
theorem dX10_noPlace_7 : decode cX10_noPlace 7 = .ok (.isub, 1) := by decide +kernel
theorem dX10_noPlace_8 : decode cX10_noPlace 8 = .ok (.invokestatic 47, 3) := by decide +kernel
theorem dX10_noPlace_11 : decode cX10_noPlace 11 = .ok (.ifCond .ne 7, 3) := by decide +kernel
theorem dX10_noPlace_14 : decode cX10_noPlace 14 = .ok (.iconst 1, 1) := by decide +kernel
theorem dX10_noPlace_15 : decode cX10_noPlace 15 = .ok (.goto 4, 3) := by decide +kernel
theorem dX10_noPlace_18 : decode cX10_noPlace 18 = .ok (.iconst 0, 1) := by decide +kernel
theorem dX10_noPlace_19 : decode cX10_noPlace 19 = .ok (.ireturn, 1) := by decide +kernel
theorem dX10_setNumber_0 : decode cX10_setNumber 0 = .ok (.iload_n 1, 1) := by decide +kernel
theorem dX10_setNumber_1 : decode cX10_setNumber 1 = .ok (.invokestatic 156, 3) := by decide +kernel
theorem dX10_setNumber_4 : decode cX10_setNumber 4 = .ok (.ifCond .eq 5, 3) := by decide +kernel
theorem dX10_setNumber_7 : decode cX10_setNumber 7 = .ok (.iconst (-1), 1) := by decide +kernel
theorem dX10_setNumber_8 : decode cX10_setNumber 8 = .ok (.ireturn, 1) := by decide +kernel
theorem dX10_setNumber_9 : decode cX10_setNumber 9 = .ok (.aload_n 0, 1) := by decide +kernel
theorem dX10_setNumber_10 : decode cX10_setNumber 10 = .ok (.iload_n 2, 1) := by decide +kernel
theorem dX10_setNumber_11 : decode cX10_setNumber 11 = .ok (.invokevirtual 159, 3) := by decide +kernel
theorem dX10_setNumber_14 : decode cX10_setNumber 14 = .ok (.ifCond .ne 19, 3) := by decide +kernel
theorem dX10_setNumber_17 : decode cX10_setNumber 17 = .ok (.iload_n 3, 1) := by decide +kernel
theorem dX10_setNumber_18 : decode cX10_setNumber 18 = .ok (.iconst 0, 1) := by decide +kernel
theorem dX10_setNumber_19 : decode cX10_setNumber 19 = .ok (.aload_n 0, 1) := by decide +kernel
theorem dX10_setNumber_20 : decode cX10_setNumber 20 = .ok (.getfield 7, 3) := by decide +kernel
theorem dX10_setNumber_23 : decode cX10_setNumber 23 = .ok (.iconst 0, 1) := by decide +kernel
theorem dX10_setNumber_24 : decode cX10_setNumber 24 = .ok (.iaload, 1) := by decide +kernel
theorem dX10_setNumber_25 : decode cX10_setNumber 25 = .ok (.iconst 1, 1) := by decide +kernel
theorem dX10_setNumber_26 : decode cX10_setNumber 26 = .ok (.isub, 1) := by decide +kernel
theorem dX10_setNumber_27 : decode cX10_setNumber 27 = .ok (.invokestatic 47, 3) := by decide +kernel
theorem dX10_setNumber_30 : decode cX10_setNumber 30 = .ok (.ifCond .ne 6, 3) := by decide +kernel
theorem dX10_setNumber_33 : decode cX10_setNumber 33 = .ok (.bipush (-2), 2) := by decide +kernel
theorem dX10_setNumber_35 : decode cX10_setNumber 35 = .ok (.ireturn, 1) := by decide +kernel
theorem dX10_setNumber_36 : decode cX10_setNumber 36 = .ok (.aload_n 0, 1) := by decide +kernel
theorem dX10_setNumber_37 : decode cX10_setNumber 37 = .ok (.getfield 7, 3) := by decide +kernel
theorem dX10_setNumber_40 : decode cX10_setNumber 40 = .ok (.bipush 8, 2) := by decide +kernel
theorem dX10_setNumber_42 : decode cX10_setNumber 42 = .ok (.bipush 6, 2) := by decide +kernel
theorem dX10_setNumber_44 : decode cX10_setNumber 44 = .ok (.iload_n 1, 1) := by decide +kernel
theorem dX10_setNumber_45 : decode cX10_setNumber 45 = .ok (.imul, 1) := by decide +kernel
theorem dX10_setNumber_46 : decode cX10_setNumber 46 = .ok (.iadd, 1) := by decide +kernel
theorem dX10_setNumber_47 : decode cX10_setNumber 47 = .ok (.iload_n 2, 1) := by decide +kernel
theorem dX10_setNumber_48 : decode cX10_setNumber 48 = .ok (.iadd, 1) := by decide +kernel
theorem dX10_setNumber_49 : decode cX10_setNumber 49 = .ok (.iaload, 1) := by decide +kernel
theorem dX10_setNumber_50 : decode cX10_setNumber 50 = .ok (.istore 4, 2) := by decide +kernel
theorem dX10_setNumber_52 : decode cX10_setNumber 52 = .ok (.iload 4, 2) := by decide +kernel
theorem dX10_setNumber_54 : decode cX10_setNumber 54 = .ok (.iload_n 3, 1) := by decide +kernel
theorem dX10_setNumber_55 : decode cX10_setNumber 55 = .ok (.if_icmp .ne 6, 3) := by decide +kernel
theorem dX10_setNumber_58 : decode cX10_setNumber 58 = .ok (.bipush (-5), 2) := by decide +kernel
theorem dX10_setNumber_60 : decode cX10_setNumber 60 = .ok (.ireturn, 1) := by decide +kernel
theorem dX10_setNumber_61 : decode cX10_setNumber 61 = .ok (.aload_n 0, 1) := by decide +kernel
theorem dX10_setNumber_62 : decode cX10_setNumber 62 = .ok (.invokevirtual 131, 3) := by decide +kernel
theorem dX10_setNumber_65 : decode cX10_setNumber 65 = .ok (.aload_n 0, 1) := by decide +kernel
theorem dX10_setNumber_66 : decode cX10_setNumber 66 = .ok (.getfield 7, 3) := by decide +kernel
theorem dX10_setNumber_69 : decode cX10_setNumber 69 = .ok (.bipush 8, 2) := by decide +kernel
theorem dX10_setNumber_71 : decode cX10_setNumber 71 = .ok (.bipush 6, 2) := by decide +kernel
theorem dX10_setNumber_73 : decode cX10_setNumber 73 = .ok (.iload_n 1, 1) := by decide +kernel
theorem dX10_setNumber_74 : decode cX10_setNumber 74 = .ok (.imul, 1) := by decide +kernel
theorem dX10_setNumber_75 : decode cX10_setNumber 75 = .ok (.iadd, 1) := by decide +kernel
theorem dX10_setNumber_76 : decode cX10_setNumber 76 = .ok (.iload_n 2, 1) := by decide +kernel
theorem dX10_setNumber_77 : decode cX10_setNumber 77 = .ok (.iadd, 1) := by decide +kernel
theorem dX10_setNumber_78 : decode cX10_setNumber 78 = .ok (.iload_n 3, 1) := by decide +kernel
theorem dX10_setNumber_79 : decode cX10_setNumber 79 = .ok (.iastore, 1) := by decide +kernel
theorem dX10_setNumber_80 : decode cX10_setNumber 80 = .ok (.iload 4, 2) := by decide +kernel
theorem dX10_setNumber_82 : decode cX10_setNumber 82 = .ok (.ireturn, 1) := by decide +kernel
theorem dX10_put_0 : decode cX10_put 0 = .ok (.iload_n 1, 1) := by decide +kernel
theorem dX10_put_1 : decode cX10_put 1 = .ok (.invokestatic 156, 3) := by decide +kernel
theorem dX10_put_4 : decode cX10_put 4 = .ok (.ifCond .ne 18, 3) := by decide +kernel
theorem dX10_put_7 : decode cX10_put 7 = .ok (.aload_n 0, 1) := by decide +kernel
theorem dX10_put_8 : decode cX10_put 8 = .ok (.iload_n 2, 1) := by decide +kernel
theorem dX10_put_9 : decode cX10_put 9 = .ok (.invokevirtual 162, 3) := by decide +kernel
theorem dX10_put_12 : decode cX10_put 12 = .ok (.ifCond .ne 10, 3) := by decide +kernel
theorem dX10_put_15 : decode cX10_put 15 = .ok (.iload_n 3, 1) := by decide +kernel
theorem dX10_put_16 : decode cX10_put 16 = .ok (.invokestatic 156, 3) := by decide +kernel
theorem dX10_put_19 : decode cX10_put 19 = .ok (.ifCond .eq 5, 3) := by decide +kernel
theorem dX10_put_22 : decode cX10_put 22 = .ok (.iconst (-1), 1) := by decide +kernel
theorem dX10_put_23 : decode cX10_put 23 = .ok (.ireturn, 1) := by decide +kernel
theorem dX10_put_24 : decode cX10_put 24 = .ok (.iload_n 1, 1) := by decide +kernel
theorem dX10_put_25 : decode cX10_put 25 = .ok (.iload_n 3, 1) := by decide +kernel
theorem dX10_put_26 : decode cX10_put 26 = .ok (.if_icmp .ne 6, 3) := by decide +kernel
theorem dX10_put_29 : decode cX10_put 29 = .ok (.bipush (-2), 2) := by decide +kernel
theorem dX10_put_31 : decode cX10_put 31 = .ok (.ireturn, 1) := by decide +kernel
theorem dX10_put_32 : decode cX10_put 32 = .ok (.aload_n 0, 1) := by decide +kernel
theorem dX10_put_33 : decode cX10_put 33 = .ok (.invokevirtual 150, 3) := by decide +kernel
theorem dX10_put_36 : decode cX10_put 36 = .ok (.aload_n 0, 1) := by decide +kernel
theorem dX10_put_37 : decode cX10_put 37 = .ok (.iload_n 2, 1) := by decide +kernel
theorem dX10_put_38 : decode cX10_put 38 = .ok (.iconst 1, 1) := by decide +kernel
theorem dX10_put_39 : decode cX10_put 39 = .ok (.invokevirtual 106, 3) := by decide +kernel
theorem dX10_put_42 : decode cX10_put 42 = .ok (.aload_n 0, 1) := by decide +kernel
theorem dX10_put_43 : decode cX10_put 43 = .ok (.bipush 8, 2) := by decide +kernel
theorem dX10_put_45 : decode cX10_put 45 = .ok (.invokevirtual 128, 3) := by decide +kernel
theorem dX10_put_48 : decode cX10_put 48 = .ok (.aload_n 0, 1) := by decide +kernel
theorem dX10_put_49 : decode cX10_put 49 = .ok (.iload_n 1, 1) := by decide +kernel
theorem dX10_put_50 : decode cX10_put 50 = .ok (.iconst 2, 1) := by decide +kernel
theorem dX10_put_51 : decode cX10_put 51 = .ok (.invokevirtual 144, 3) := by decide +kernel
theorem dX10_put_54 : decode cX10_put 54 = .ok (.aload_n 0, 1) := by decide +kernel
theorem dX10_put_55 : decode cX10_put 55 = .ok (.iload_n 3, 1) := by decide +kernel
theorem dX10_put_56 : decode cX10_put 56 = .ok (.iconst 3, 1) := by decide +kernel
theorem dX10_put_57 : decode cX10_put 57 = .ok (.invokevirtual 144, 3) := by decide +kernel
theorem dX10_put_60 : decode cX10_put 60 = .ok (.aload_n 0, 1) := by decide +kernel
theorem dX10_put_61 : decode cX10_put 61 = .ok (.iconst 3, 1) := by decide +kernel
theorem dX10_put_62 : decode cX10_put 62 = .ok (.iconst 2, 1) := by decide +kernel
theorem dX10_put_63 : decode cX10_put 63 = .ok (.aload_n 0, 1) := by decide +kernel
theorem dX10_put_64 : decode cX10_put 64 = .ok (.getfield 7, 3) := by decide +kernel
theorem dX10_put_67 : decode cX10_put 67 = .ok (.iconst 0, 1) := by decide +kernel
theorem dX10_put_68 : decode cX10_put 68 = .ok (.iaload, 1) := by decide +kernel
theorem dX10_put_69 : decode cX10_put 69 = .ok (.iconst 1, 1) := by decide +kernel
theorem dX10_put_70 : decode cX10_put 70 = .ok (.isub, 1) := by decide +kernel
theorem dX10_put_71 : decode cX10_put 71 = .ok (.invokevirtual 93, 3) := by decide +kernel
theorem dX10_put_74 : decode cX10_put 74 = .ok (.aload_n 0, 1) := by decide +kernel
theorem dX10_put_75 : decode cX10_put 75 = .ok (.bipush 8, 2) := by decide +kernel
theorem dX10_put_77 : decode cX10_put 77 = .ok (.iconst 2, 1) := by decide +kernel
theorem dX10_put_78 : decode cX10_put 78 = .ok (.iconst 2, 1) := by decide +kernel
theorem dX10_put_79 : decode cX10_put 79 = .ok (.invokevirtual 90, 3) := by decide +kernel
theorem dX10_put_82 : decode cX10_put 82 = .ok (.aload_n 0, 1) := by decide +kernel
theorem dX10_put_83 : decode cX10_put 83 = .ok (.iconst 2, 1) := by decide +kernel
theorem dX10_put_84 : decode cX10_put 84 = .ok (.iconst 0, 1) := by decide +kernel
theorem dX10_put_85 : decode cX10_put 85 = .ok (.iconst (-1), 1) := by decide +kernel
theorem dX10_put_86 : decode cX10_put 86 = .ok (.invokevirtual 81, 3) := by decide +kernel
theorem dX10_put_89 : decode cX10_put 89 = .ok (.aload_n 0, 1) := by decide +kernel
theorem dX10_put_90 : decode cX10_put 90 = .ok (.iconst 3, 1) := by decide +kernel
theorem dX10_put_91 : decode cX10_put 91 = .ok (.iconst 2, 1) := by decide +kernel
theorem dX10_put_92 : decode cX10_put 92 = .ok (.iconst 1, 1) := by decide +kernel
theorem dX10_put_93 : decode cX10_put 93 = .ok (.invokevirtual 93, 3) := by decide +kernel
theorem dX10_put_96 : decode cX10_put 96 = .ok (.aload_n 0, 1) := by decide +kernel
theorem dX10_put_97 : decode cX10_put 97 = .ok (.iload_n 1, 1) := by decide +kernel
theorem dX10_put_98 : decode cX10_put 98 = .ok (.iconst 3, 1) := by decide +kernel
theorem dX10_put_99 : decode cX10_put 99 = .ok (.invokevirtual 144, 3) := by decide +kernel
theorem dX10_put_102 : decode cX10_put 102 = .ok (.aload_n 0, 1) := by decide +kernel
theorem dX10_put_103 : decode cX10_put 103 = .ok (.iconst 2, 1) := by decide +kernel
theorem dX10_put_104 : decode cX10_put 104 = .ok (.iconst 5, 1) := by decide +kernel
theorem dX10_put_105 : decode cX10_put 105 = .ok (.invokevirtual 77, 3) := by decide +kernel
theorem dX10_put_108 : decode cX10_put 108 = .ok (.aload_n 0, 1) := by decide +kernel
theorem dX10_put_109 : decode cX10_put 109 = .ok (.iconst 3, 1) := by decide +kernel
theorem dX10_put_110 : decode cX10_put 110 = .ok (.iconst 5, 1) := by decide +kernel
theorem dX10_put_111 : decode cX10_put 111 = .ok (.aload_n 0, 1) := by decide +kernel
theorem dX10_put_112 : decode cX10_put 112 = .ok (.getfield 7, 3) := by decide +kernel
theorem dX10_put_115 : decode cX10_put 115 = .ok (.iconst 0, 1) := by decide +kernel
theorem dX10_put_116 : decode cX10_put 116 = .ok (.iaload, 1) := by decide +kernel
theorem dX10_put_117 : decode cX10_put 117 = .ok (.iconst 1, 1) := by decide +kernel
theorem dX10_put_118 : decode cX10_put 118 = .ok (.isub, 1) := by decide +kernel
theorem dX10_put_119 : decode cX10_put 119 = .ok (.invokevirtual 93, 3) := by decide +kernel
theorem dX10_put_122 : decode cX10_put 122 = .ok (.iconst 0, 1) := by decide +kernel
theorem dX10_put_123 : decode cX10_put 123 = .ok (.istore 4, 2) := by decide +kernel
theorem dX10_put_125 : decode cX10_put 125 = .ok (.iconst 0, 1) := by decide +kernel
theorem dX10_put_126 : decode cX10_put 126 = .ok (.istore 5, 2) := by decide +kernel
theorem dX10_put_128 : decode cX10_put 128 = .ok (.iload 5, 2) := by decide +kernel
theorem dX10_put_130 : decode cX10_put 130 = .ok (.aload_n 0, 1) := by decide +kernel
theorem dX10_put_131 : decode cX10_put 131 = .ok (.getfield 7, 3) := by decide +kernel
theorem dX10_put_134 : decode cX10_put 134 = .ok (.bipush 44, 2) := by decide +kernel
theorem dX10_put_136 : decode cX10_put 136 = .ok (.iaload, 1) := by decide +kernel
theorem dX10_put_137 : decode cX10_put 137 = .ok (.if_icmp .ge 34, 3) := by decide +kernel
theorem dX10_put_140 : decode cX10_put 140 = .ok (.aload_n 0, 1) := by decide +kernel
theorem dX10_put_141 : decode cX10_put 141 = .ok (.iload 5, 2) := by decide +kernel
theorem dX10_put_143 : decode cX10_put 143 = .ok (.iconst 1, 1) := by decide +kernel
theorem dX10_put_144 : decode cX10_put 144 = .ok (.invokevirtual 106, 3) := by decide +kernel
theorem dX10_put_147 : decode cX10_put 147 = .ok (.iload 4, 2) := by decide +kernel
theorem dX10_put_149 : decode cX10_put 149 = .ok (.aload_n 0, 1) := by decide +kernel
theorem dX10_put_150 : decode cX10_put 150 = .ok (.iconst 5, 1) := by decide +kernel
theorem dX10_put_151 : decode cX10_put 151 = .ok (.invokevirtual 125, 3) := by decide +kernel
theorem dX10_put_154 : decode cX10_put 154 = .ok (.ifCond .ne 7, 3) := by decide +kernel
theorem dX10_put_157 : decode cX10_put 157 = .ok (.iconst 0, 1) := by decide +kernel
theorem dX10_put_158 : decode cX10_put 158 = .ok (.goto 4, 3) := by decide +kernel
theorem dX10_put_161 : decode cX10_put 161 = .ok (.iconst 1, 1) := by decide +kernel
theorem dX10_put_162 : decode cX10_put 162 = .ok (.iadd, 1) := by decide +kernel
theorem dX10_put_163 : decode cX10_put 163 = .ok (.istore 4, 2) := by decide +kernel
theorem dX10_put_165 : decode cX10_put 165 = .ok (.iinc 5 1, 3) := by decide +kernel
theorem dX10_put_168 : decode cX10_put 168 = .ok (.goto (-40), 3) := by decide +kernel
theorem dX10_put_171 : decode cX10_put 171 = .ok (.iload 4, 2) := by decide +kernel
theorem dX10_put_173 : decode cX10_put 173 = .ok (.ifCond .ne 6, 3) := by decide +kernel
theorem dX10_put_176 : decode cX10_put 176 = .ok (.bipush (-5), 2) := by decide +kernel
theorem dX10_put_178 : decode cX10_put 178 = .ok (.ireturn, 1) := by decide +kernel
theorem dX10_put_179 : decode cX10_put 179 = .ok (.aload_n 0, 1) := by decide +kernel
theorem dX10_put_180 : decode cX10_put 180 = .ok (.invokevirtual 131, 3) := by decide +kernel
theorem dX10_put_183 : decode cX10_put 183 = .ok (.aload_n 0, 1) := by decide +kernel
theorem dX10_put_184 : decode cX10_put 184 = .ok (.iconst 2, 1) := by decide +kernel
theorem dX10_put_185 : decode cX10_put 185 = .ok (.iload_n 1, 1) := by decide +kernel
theorem dX10_put_186 : decode cX10_put 186 = .ok (.invokevirtual 147, 3) := by decide +kernel
theorem dX10_put_189 : decode cX10_put 189 = .ok (.iload 4, 2) := by decide +kernel
theorem dX10_put_191 : decode cX10_put 191 = .ok (.ireturn, 1) := by decide +kernel
theorem dX10_nothings_0 : decode cX10_nothings 0 = .ok (.aload_n 0, 1) := by decide +kernel
theorem dX10_nothings_1 : decode cX10_nothings 1 = .ok (.iload_n 1, 1) := by decide +kernel
theorem dX10_nothings_2 : decode cX10_nothings 2 = .ok (.iconst 2, 1) := by decide +kernel
theorem dX10_nothings_3 : decode cX10_nothings 3 = .ok (.invokevirtual 144, 3) := by decide +kernel
theorem dX10_nothings_6 : decode cX10_nothings 6 = .ok (.iconst 0, 1) := by decide +kernel
theorem dX10_nothings_7 : decode cX10_nothings 7 = .ok (.istore_n 2, 1) := by decide +kernel
theorem dX10_nothings_8 : decode cX10_nothings 8 = .ok (.iconst 0, 1) := by decide +kernel
theorem dX10_nothings_9 : decode cX10_nothings 9 = .ok (.istore_n 3, 1) := by decide +kernel
theorem dX10_nothings_10 : decode cX10_nothings 10 = .ok (.iload_n 3, 1) := by decide +kernel
theorem dX10_nothings_11 : decode cX10_nothings 11 = .ok (.aload_n 0, 1) := by decide +kernel
theorem dX10_nothings_12 : decode cX10_nothings 12 = .ok (.getfield 7, 3) := by decide +kernel
theorem dX10_nothings_15 : decode cX10_nothings 15 = .ok (.bipush 44, 2) := by decide +kernel
theorem dX10_nothings_17 : decode cX10_nothings 17 = .ok (.iaload, 1) := by decide +kernel
theorem dX10_nothings_18 : decode cX10_nothings 18 = .ok (.if_icmp .ge 31, 3) := by decide +kernel
theorem dX10_nothings_21 : decode cX10_nothings 21 = .ok (.aload_n 0, 1) := by decide +kernel
theorem dX10_nothings_22 : decode cX10_nothings 22 = .ok (.iload_n 3, 1) := by decide +kernel
theorem dX10_nothings_23 : decode cX10_nothings 23 = .ok (.iconst 1, 1) := by decide +kernel
theorem dX10_nothings_24 : decode cX10_nothings 24 = .ok (.invokevirtual 106, 3) := by decide +kernel
theorem dX10_nothings_27 : decode cX10_nothings 27 = .ok (.iload_n 2, 1) := by decide +kernel
theorem dX10_nothings_28 : decode cX10_nothings 28 = .ok (.aload_n 0, 1) := by decide +kernel
theorem dX10_nothings_29 : decode cX10_nothings 29 = .ok (.iconst 2, 1) := by decide +kernel
theorem dX10_nothings_30 : decode cX10_nothings 30 = .ok (.invokevirtual 125, 3) := by decide +kernel
theorem dX10_nothings_33 : decode cX10_nothings 33 = .ok (.ifCond .ne 7, 3) := by decide +kernel
theorem dX10_nothings_36 : decode cX10_nothings 36 = .ok (.iconst 1, 1) := by decide +kernel
theorem dX10_nothings_37 : decode cX10_nothings 37 = .ok (.goto 4, 3) := by decide +kernel
theorem dX10_nothings_40 : decode cX10_nothings 40 = .ok (.iconst 0, 1) := by decide +kernel
theorem dX10_nothings_41 : decode cX10_nothings 41 = .ok (.iadd, 1) := by decide +kernel
theorem dX10_nothings_42 : decode cX10_nothings 42 = .ok (.istore_n 2, 1) := by decide +kernel
theorem dX10_nothings_43 : decode cX10_nothings 43 = .ok (.iinc 3 1, 3) := by decide +kernel
theorem dX10_nothings_46 : decode cX10_nothings 46 = .ok (.goto (-36), 3) := by decide +kernel
theorem dX10_nothings_49 : decode cX10_nothings 49 = .ok (.iload_n 2, 1) := by decide +kernel
theorem dX10_nothings_50 : decode cX10_nothings 50 = .ok (.ireturn, 1) := by decide +kernel
theorem dX10_remembers_0 : decode cX10_remembers 0 = .ok (.iconst 0, 1) := by decide +kernel
theorem dX10_remembers_1 : decode cX10_remembers 1 = .ok (.istore_n 1, 1) := by decide +kernel
theorem dX10_remembers_2 : decode cX10_remembers 2 = .ok (.iload_n 1, 1) := by decide +kernel
theorem dX10_remembers_3 : decode cX10_remembers 3 = .ok (.bipush 87, 2) := by decide +kernel
theorem dX10_remembers_5 : decode cX10_remembers 5 = .ok (.if_icmp .ge 21, 3) := by decide +kernel
theorem dX10_remembers_8 : decode cX10_remembers 8 = .ok (.aload_n 0, 1) := by decide +kernel
theorem dX10_remembers_9 : decode cX10_remembers 9 = .ok (.getfield 25, 3) := by decide +kernel
theorem dX10_remembers_12 : decode cX10_remembers 12 = .ok (.iload_n 1, 1) := by decide +kernel
theorem dX10_remembers_13 : decode cX10_remembers 13 = .ok (.aload_n 0, 1) := by decide +kernel
theorem dX10_remembers_14 : decode cX10_remembers 14 = .ok (.getfield 7, 3) := by decide +kernel
theorem dX10_remembers_17 : decode cX10_remembers 17 = .ok (.iload_n 1, 1) := by decide +kernel
theorem dX10_remembers_18 : decode cX10_remembers 18 = .ok (.iaload, 1) := by decide +kernel
theorem dX10_remembers_19 : decode cX10_remembers 19 = .ok (.iastore, 1) := by decide +kernel
theorem dX10_remembers_20 : decode cX10_remembers 20 = .ok (.iinc 1 1, 3) := by decide +kernel
theorem dX10_remembers_23 : decode cX10_remembers 23 = .ok (.goto (-21), 3) := by decide +kernel
theorem dX10_remembers_26 : decode cX10_remembers 26 = .ok (.return_, 1) := by decide +kernel
theorem dX10_recordsBefore_0 : decode cX10_recordsBefore 0 = .ok (.iconst 0, 1) := by decide +kernel
theorem dX10_recordsBefore_1 : decode cX10_recordsBefore 1 = .ok (.istore_n 1, 1) := by decide +kernel
theorem dX10_recordsBefore_2 : decode cX10_recordsBefore 2 = .ok (.iload_n 1, 1) := by decide +kernel
theorem dX10_recordsBefore_3 : decode cX10_recordsBefore 3 = .ok (.bipush 87, 2) := by decide +kernel
theorem dX10_recordsBefore_5 : decode cX10_recordsBefore 5 = .ok (.if_icmp .ge 35, 3) := by decide +kernel
theorem dX10_recordsBefore_8 : decode cX10_recordsBefore 8 = .ok (.aload_n 0, 1) := by decide +kernel
theorem dX10_recordsBefore_9 : decode cX10_recordsBefore 9 = .ok (.getfield 7, 3) := by decide +kernel
theorem dX10_recordsBefore_12 : decode cX10_recordsBefore 12 = .ok (.iload_n 1, 1) := by decide +kernel
theorem dX10_recordsBefore_13 : decode cX10_recordsBefore 13 = .ok (.iaload, 1) := by decide +kernel
theorem dX10_recordsBefore_14 : decode cX10_recordsBefore 14 = .ok (.istore_n 2, 1) := by decide +kernel
theorem dX10_recordsBefore_15 : decode cX10_recordsBefore 15 = .ok (.aload_n 0, 1) := by decide +kernel
theorem dX10_recordsBefore_16 : decode cX10_recordsBefore 16 = .ok (.getfield 7, 3) := by decide +kernel
theorem dX10_recordsBefore_19 : decode cX10_recordsBefore 19 = .ok (.iload_n 1, 1) := by decide +kernel
theorem dX10_recordsBefore_20 : decode cX10_recordsBefore 20 = .ok (.aload_n 0, 1) := by decide +kernel
theorem dX10_recordsBefore_21 : decode cX10_recordsBefore 21 = .ok (.getfield 25, 3) := by decide +kernel
theorem dX10_recordsBefore_24 : decode cX10_recordsBefore 24 = .ok (.iload_n 1, 1) := by decide +kernel
theorem dX10_recordsBefore_25 : decode cX10_recordsBefore 25 = .ok (.iaload, 1) := by decide +kernel
theorem dX10_recordsBefore_26 : decode cX10_recordsBefore 26 = .ok (.iastore, 1) := by decide +kernel
theorem dX10_recordsBefore_27 : decode cX10_recordsBefore 27 = .ok (.aload_n 0, 1) := by decide +kernel
theorem dX10_recordsBefore_28 : decode cX10_recordsBefore 28 = .ok (.getfield 25, 3) := by decide +kernel
theorem dX10_recordsBefore_31 : decode cX10_recordsBefore 31 = .ok (.iload_n 1, 1) := by decide +kernel
theorem dX10_recordsBefore_32 : decode cX10_recordsBefore 32 = .ok (.iload_n 2, 1) := by decide +kernel
theorem dX10_recordsBefore_33 : decode cX10_recordsBefore 33 = .ok (.iastore, 1) := by decide +kernel
theorem dX10_recordsBefore_34 : decode cX10_recordsBefore 34 = .ok (.iinc 1 1, 3) := by decide +kernel
theorem dX10_recordsBefore_37 : decode cX10_recordsBefore 37 = .ok (.goto (-35), 3) := by decide +kernel
theorem dX10_recordsBefore_40 : decode cX10_recordsBefore 40 = .ok (.aload_n 0, 1) := by decide +kernel
theorem dX10_recordsBefore_41 : decode cX10_recordsBefore 41 = .ok (.invokevirtual 131, 3) := by decide +kernel
theorem dX10_recordsBefore_44 : decode cX10_recordsBefore 44 = .ok (.iconst 0, 1) := by decide +kernel
theorem dX10_recordsBefore_45 : decode cX10_recordsBefore 45 = .ok (.istore_n 1, 1) := by decide +kernel
theorem dX10_recordsBefore_46 : decode cX10_recordsBefore 46 = .ok (.iload_n 1, 1) := by decide +kernel
theorem dX10_recordsBefore_47 : decode cX10_recordsBefore 47 = .ok (.bipush 87, 2) := by decide +kernel
theorem dX10_recordsBefore_49 : decode cX10_recordsBefore 49 = .ok (.if_icmp .ge 21, 3) := by decide +kernel
theorem dX10_recordsBefore_52 : decode cX10_recordsBefore 52 = .ok (.aload_n 0, 1) := by decide +kernel
theorem dX10_recordsBefore_53 : decode cX10_recordsBefore 53 = .ok (.getfield 7, 3) := by decide +kernel
theorem dX10_recordsBefore_56 : decode cX10_recordsBefore 56 = .ok (.iload_n 1, 1) := by decide +kernel
theorem dX10_recordsBefore_57 : decode cX10_recordsBefore 57 = .ok (.aload_n 0, 1) := by decide +kernel
theorem dX10_recordsBefore_58 : decode cX10_recordsBefore 58 = .ok (.getfield 25, 3) := by decide +kernel
theorem dX10_recordsBefore_61 : decode cX10_recordsBefore 61 = .ok (.iload_n 1, 1) := by decide +kernel
theorem dX10_recordsBefore_62 : decode cX10_recordsBefore 62 = .ok (.iaload, 1) := by decide +kernel
theorem dX10_recordsBefore_63 : decode cX10_recordsBefore 63 = .ok (.iastore, 1) := by decide +kernel
theorem dX10_recordsBefore_64 : decode cX10_recordsBefore 64 = .ok (.iinc 1 1, 3) := by decide +kernel
theorem dX10_recordsBefore_67 : decode cX10_recordsBefore 67 = .ok (.goto (-21), 3) := by decide +kernel
theorem dX10_recordsBefore_70 : decode cX10_recordsBefore 70 = .ok (.return_, 1) := by decide +kernel
theorem dX10_part_0 : decode cX10_part 0 = .ok (.iload_n 1, 1) := by decide +kernel
theorem dX10_part_1 : decode cX10_part 1 = .ok (.invokestatic 156, 3) := by decide +kernel
theorem dX10_part_4 : decode cX10_part 4 = .ok (.ifCond .eq 5, 3) := by decide +kernel
theorem dX10_part_7 : decode cX10_part 7 = .ok (.iconst (-1), 1) := by decide +kernel
theorem dX10_part_8 : decode cX10_part 8 = .ok (.ireturn, 1) := by decide +kernel
theorem dX10_part_9 : decode cX10_part 9 = .ok (.aload_n 0, 1) := by decide +kernel
theorem dX10_part_10 : decode cX10_part 10 = .ok (.invokevirtual 165, 3) := by decide +kernel
theorem dX10_part_13 : decode cX10_part 13 = .ok (.aload_n 0, 1) := by decide +kernel
theorem dX10_part_14 : decode cX10_part 14 = .ok (.iload_n 1, 1) := by decide +kernel
theorem dX10_part_15 : decode cX10_part 15 = .ok (.iconst 2, 1) := by decide +kernel
theorem dX10_part_16 : decode cX10_part 16 = .ok (.invokevirtual 144, 3) := by decide +kernel
theorem dX10_part_19 : decode cX10_part 19 = .ok (.aload_n 0, 1) := by decide +kernel
theorem dX10_part_20 : decode cX10_part 20 = .ok (.iconst 2, 1) := by decide +kernel
theorem dX10_part_21 : decode cX10_part 21 = .ok (.invokevirtual 121, 3) := by decide +kernel
theorem dX10_part_24 : decode cX10_part 24 = .ok (.ifCond .ne 6, 3) := by decide +kernel
theorem dX10_part_27 : decode cX10_part 27 = .ok (.bipush (-5), 2) := by decide +kernel
theorem dX10_part_29 : decode cX10_part 29 = .ok (.ireturn, 1) := by decide +kernel
theorem dX10_part_30 : decode cX10_part 30 = .ok (.aload_n 0, 1) := by decide +kernel
theorem dX10_part_31 : decode cX10_part 31 = .ok (.invokevirtual 168, 3) := by decide +kernel
theorem dX10_part_34 : decode cX10_part 34 = .ok (.aload_n 0, 1) := by decide +kernel
theorem dX10_part_35 : decode cX10_part 35 = .ok (.iload_n 1, 1) := by decide +kernel
theorem dX10_part_36 : decode cX10_part 36 = .ok (.invokevirtual 171, 3) := by decide +kernel
theorem dX10_part_39 : decode cX10_part 39 = .ok (.ireturn, 1) := by decide +kernel
theorem dX10_takesDegree_0 : decode cX10_takesDegree 0 = .ok (.aload_n 0, 1) := by decide +kernel
theorem dX10_takesDegree_1 : decode cX10_takesDegree 1 = .ok (.iconst 2, 1) := by decide +kernel
theorem dX10_takesDegree_2 : decode cX10_takesDegree 2 = .ok (.invokevirtual 63, 3) := by decide +kernel
theorem dX10_takesDegree_5 : decode cX10_takesDegree 5 = .ok (.aload_n 0, 1) := by decide +kernel
theorem dX10_takesDegree_6 : decode cX10_takesDegree 6 = .ok (.iconst 2, 1) := by decide +kernel
theorem dX10_takesDegree_7 : decode cX10_takesDegree 7 = .ok (.iconst 1, 1) := by decide +kernel
theorem dX10_takesDegree_8 : decode cX10_takesDegree 8 = .ok (.iconst 1, 1) := by decide +kernel
theorem dX10_takesDegree_9 : decode cX10_takesDegree 9 = .ok (.invokevirtual 59, 3) := by decide +kernel
theorem dX10_takesDegree_12 : decode cX10_takesDegree 12 = .ok (.aload_n 0, 1) := by decide +kernel
theorem dX10_takesDegree_13 : decode cX10_takesDegree 13 = .ok (.iconst 2, 1) := by decide +kernel
theorem dX10_takesDegree_14 : decode cX10_takesDegree 14 = .ok (.iconst 3, 1) := by decide +kernel
theorem dX10_takesDegree_15 : decode cX10_takesDegree 15 = .ok (.invokevirtual 77, 3) := by decide +kernel
theorem dX10_takesDegree_18 : decode cX10_takesDegree 18 = .ok (.iconst 0, 1) := by decide +kernel
theorem dX10_takesDegree_19 : decode cX10_takesDegree 19 = .ok (.istore_n 3, 1) := by decide +kernel
theorem dX10_takesDegree_20 : decode cX10_takesDegree 20 = .ok (.iload_n 3, 1) := by decide +kernel
theorem dX10_takesDegree_21 : decode cX10_takesDegree 21 = .ok (.iload_n 1, 1) := by decide +kernel
theorem dX10_takesDegree_22 : decode cX10_takesDegree 22 = .ok (.if_icmp .ge 22, 3) := by decide +kernel
theorem dX10_takesDegree_25 : decode cX10_takesDegree 25 = .ok (.aload_n 0, 1) := by decide +kernel
theorem dX10_takesDegree_26 : decode cX10_takesDegree 26 = .ok (.iconst 3, 1) := by decide +kernel
theorem dX10_takesDegree_27 : decode cX10_takesDegree 27 = .ok (.aload_n 0, 1) := by decide +kernel
theorem dX10_takesDegree_28 : decode cX10_takesDegree 28 = .ok (.getfield 7, 3) := by decide +kernel
theorem dX10_takesDegree_31 : decode cX10_takesDegree 31 = .ok (.iconst 0, 1) := by decide +kernel
theorem dX10_takesDegree_32 : decode cX10_takesDegree 32 = .ok (.iaload, 1) := by decide +kernel
theorem dX10_takesDegree_33 : decode cX10_takesDegree 33 = .ok (.iconst 1, 1) := by decide +kernel
theorem dX10_takesDegree_34 : decode cX10_takesDegree 34 = .ok (.iconst 3, 1) := by decide +kernel
theorem dX10_takesDegree_35 : decode cX10_takesDegree 35 = .ok (.invokevirtual 174, 3) := by decide +kernel
theorem dX10_takesDegree_38 : decode cX10_takesDegree 38 = .ok (.iinc 3 1, 3) := by decide +kernel
theorem dX10_takesDegree_41 : decode cX10_takesDegree 41 = .ok (.goto (-21), 3) := by decide +kernel
theorem dX10_takesDegree_44 : decode cX10_takesDegree 44 = .ok (.aload_n 0, 1) := by decide +kernel
theorem dX10_takesDegree_45 : decode cX10_takesDegree 45 = .ok (.iconst 2, 1) := by decide +kernel
theorem dX10_takesDegree_46 : decode cX10_takesDegree 46 = .ok (.iconst 3, 1) := by decide +kernel
theorem dX10_takesDegree_47 : decode cX10_takesDegree 47 = .ok (.aload_n 0, 1) := by decide +kernel
theorem dX10_takesDegree_48 : decode cX10_takesDegree 48 = .ok (.getfield 7, 3) := by decide +kernel
theorem dX10_takesDegree_51 : decode cX10_takesDegree 51 = .ok (.iconst 0, 1) := by decide +kernel
theorem dX10_takesDegree_52 : decode cX10_takesDegree 52 = .ok (.iaload, 1) := by decide +kernel
theorem dX10_takesDegree_53 : decode cX10_takesDegree 53 = .ok (.iconst 1, 1) := by decide +kernel
theorem dX10_takesDegree_54 : decode cX10_takesDegree 54 = .ok (.isub, 1) := by decide +kernel
theorem dX10_takesDegree_55 : decode cX10_takesDegree 55 = .ok (.invokevirtual 93, 3) := by decide +kernel
theorem dX10_takesDegree_58 : decode cX10_takesDegree 58 = .ok (.aload_n 0, 1) := by decide +kernel
theorem dX10_takesDegree_59 : decode cX10_takesDegree 59 = .ok (.iconst 3, 1) := by decide +kernel
theorem dX10_takesDegree_60 : decode cX10_takesDegree 60 = .ok (.iconst 1, 1) := by decide +kernel
theorem dX10_takesDegree_61 : decode cX10_takesDegree 61 = .ok (.iconst (-1), 1) := by decide +kernel
theorem dX10_takesDegree_62 : decode cX10_takesDegree 62 = .ok (.invokevirtual 81, 3) := by decide +kernel
theorem dX10_takesDegree_65 : decode cX10_takesDegree 65 = .ok (.aload_n 0, 1) := by decide +kernel
theorem dX10_takesDegree_66 : decode cX10_takesDegree 66 = .ok (.iconst 1, 1) := by decide +kernel
theorem dX10_takesDegree_67 : decode cX10_takesDegree 67 = .ok (.iconst 3, 1) := by decide +kernel
theorem dX10_takesDegree_68 : decode cX10_takesDegree 68 = .ok (.iload_n 2, 1) := by decide +kernel
theorem dX10_takesDegree_69 : decode cX10_takesDegree 69 = .ok (.invokevirtual 109, 3) := by decide +kernel
theorem dX10_takesDegree_72 : decode cX10_takesDegree 72 = .ok (.aload_n 0, 1) := by decide +kernel
theorem dX10_takesDegree_73 : decode cX10_takesDegree 73 = .ok (.iconst 1, 1) := by decide +kernel
theorem dX10_takesDegree_74 : decode cX10_takesDegree 74 = .ok (.iload_n 2, 1) := by decide +kernel
theorem dX10_takesDegree_75 : decode cX10_takesDegree 75 = .ok (.iconst 5, 1) := by decide +kernel
theorem dX10_takesDegree_76 : decode cX10_takesDegree 76 = .ok (.invokevirtual 81, 3) := by decide +kernel
theorem dX10_takesDegree_79 : decode cX10_takesDegree 79 = .ok (.aload_n 0, 1) := by decide +kernel
theorem dX10_takesDegree_80 : decode cX10_takesDegree 80 = .ok (.iconst 5, 1) := by decide +kernel
theorem dX10_takesDegree_81 : decode cX10_takesDegree 81 = .ok (.iconst 1, 1) := by decide +kernel
theorem dX10_takesDegree_82 : decode cX10_takesDegree 82 = .ok (.invokevirtual 77, 3) := by decide +kernel
theorem dX10_takesDegree_85 : decode cX10_takesDegree 85 = .ok (.return_, 1) := by decide +kernel
theorem dX10_partByDegrees_0 : decode cX10_partByDegrees 0 = .ok (.aload_n 0, 1) := by decide +kernel
theorem dX10_partByDegrees_1 : decode cX10_partByDegrees 1 = .ok (.invokevirtual 165, 3) := by decide +kernel
theorem dX10_partByDegrees_4 : decode cX10_partByDegrees 4 = .ok (.aload_n 0, 1) := by decide +kernel
theorem dX10_partByDegrees_5 : decode cX10_partByDegrees 5 = .ok (.getfield 7, 3) := by decide +kernel
theorem dX10_partByDegrees_8 : decode cX10_partByDegrees 8 = .ok (.bipush 44, 2) := by decide +kernel
theorem dX10_partByDegrees_10 : decode cX10_partByDegrees 10 = .ok (.iaload, 1) := by decide +kernel
theorem dX10_partByDegrees_11 : decode cX10_partByDegrees 11 = .ok (.istore_n 1, 1) := by decide +kernel
theorem dX10_partByDegrees_12 : decode cX10_partByDegrees 12 = .ok (.iconst 0, 1) := by decide +kernel
theorem dX10_partByDegrees_13 : decode cX10_partByDegrees 13 = .ok (.istore_n 2, 1) := by decide +kernel
theorem dX10_partByDegrees_14 : decode cX10_partByDegrees 14 = .ok (.iload_n 2, 1) := by decide +kernel
theorem dX10_partByDegrees_15 : decode cX10_partByDegrees 15 = .ok (.iload_n 1, 1) := by decide +kernel
theorem dX10_partByDegrees_16 : decode cX10_partByDegrees 16 = .ok (.if_icmp .ge 84, 3) := by decide +kernel
theorem dX10_partByDegrees_19 : decode cX10_partByDegrees 19 = .ok (.aload_n 0, 1) := by decide +kernel
theorem dX10_partByDegrees_20 : decode cX10_partByDegrees 20 = .ok (.iload_n 2, 1) := by decide +kernel
theorem dX10_partByDegrees_21 : decode cX10_partByDegrees 21 = .ok (.iconst 1, 1) := by decide +kernel
theorem dX10_partByDegrees_22 : decode cX10_partByDegrees 22 = .ok (.invokevirtual 106, 3) := by decide +kernel
theorem dX10_partByDegrees_25 : decode cX10_partByDegrees 25 = .ok (.iconst 1, 1) := by decide +kernel
theorem dX10_partByDegrees_26 : decode cX10_partByDegrees 26 = .ok (.istore_n 3, 1) := by decide +kernel
theorem dX10_partByDegrees_27 : decode cX10_partByDegrees 27 = .ok (.iconst 1, 1) := by decide +kernel
theorem dX10_partByDegrees_28 : decode cX10_partByDegrees 28 = .ok (.istore 4, 2) := by decide +kernel
theorem dX10_partByDegrees_30 : decode cX10_partByDegrees 30 = .ok (.iload 4, 2) := by decide +kernel
theorem dX10_partByDegrees_32 : decode cX10_partByDegrees 32 = .ok (.bipush 6, 2) := by decide +kernel
theorem dX10_partByDegrees_34 : decode cX10_partByDegrees 34 = .ok (.if_icmp .gt 60, 3) := by decide +kernel
theorem dX10_partByDegrees_37 : decode cX10_partByDegrees 37 = .ok (.aload_n 0, 1) := by decide +kernel
theorem dX10_partByDegrees_38 : decode cX10_partByDegrees 38 = .ok (.iconst 1, 1) := by decide +kernel
theorem dX10_partByDegrees_39 : decode cX10_partByDegrees 39 = .ok (.invokevirtual 70, 3) := by decide +kernel
theorem dX10_partByDegrees_42 : decode cX10_partByDegrees 42 = .ok (.ifCond .le 52, 3) := by decide +kernel
theorem dX10_partByDegrees_45 : decode cX10_partByDegrees 45 = .ok (.aload_n 0, 1) := by decide +kernel
theorem dX10_partByDegrees_46 : decode cX10_partByDegrees 46 = .ok (.iload 4, 2) := by decide +kernel
theorem dX10_partByDegrees_48 : decode cX10_partByDegrees 48 = .ok (.iconst 4, 1) := by decide +kernel
theorem dX10_partByDegrees_49 : decode cX10_partByDegrees 49 = .ok (.invokevirtual 178, 3) := by decide +kernel
theorem dX10_partByDegrees_52 : decode cX10_partByDegrees 52 = .ok (.aload_n 0, 1) := by decide +kernel
theorem dX10_partByDegrees_53 : decode cX10_partByDegrees 53 = .ok (.iconst 4, 1) := by decide +kernel
theorem dX10_partByDegrees_54 : decode cX10_partByDegrees 54 = .ok (.invokevirtual 70, 3) := by decide +kernel
theorem dX10_partByDegrees_57 : decode cX10_partByDegrees 57 = .ok (.ifCond .le 18, 3) := by decide +kernel
theorem dX10_partByDegrees_60 : decode cX10_partByDegrees 60 = .ok (.iload_n 3, 1) := by decide +kernel
theorem dX10_partByDegrees_61 : decode cX10_partByDegrees 61 = .ok (.ifCond .eq 14, 3) := by decide +kernel
theorem dX10_partByDegrees_64 : decode cX10_partByDegrees 64 = .ok (.aload_n 0, 1) := by decide +kernel
theorem dX10_partByDegrees_65 : decode cX10_partByDegrees 65 = .ok (.iconst 4, 1) := by decide +kernel
theorem dX10_partByDegrees_66 : decode cX10_partByDegrees 66 = .ok (.iload_n 2, 1) := by decide +kernel
theorem dX10_partByDegrees_67 : decode cX10_partByDegrees 67 = .ok (.invokevirtual 103, 3) := by decide +kernel
theorem dX10_partByDegrees_70 : decode cX10_partByDegrees 70 = .ok (.iconst 0, 1) := by decide +kernel
theorem dX10_partByDegrees_71 : decode cX10_partByDegrees 71 = .ok (.istore_n 3, 1) := by decide +kernel
theorem dX10_partByDegrees_72 : decode cX10_partByDegrees 72 = .ok (.goto 16, 3) := by decide +kernel
theorem dX10_partByDegrees_75 : decode cX10_partByDegrees 75 = .ok (.aload_n 0, 1) := by decide +kernel
theorem dX10_partByDegrees_76 : decode cX10_partByDegrees 76 = .ok (.iconst 4, 1) := by decide +kernel
theorem dX10_partByDegrees_77 : decode cX10_partByDegrees 77 = .ok (.invokevirtual 70, 3) := by decide +kernel
theorem dX10_partByDegrees_80 : decode cX10_partByDegrees 80 = .ok (.ifCond .le 8, 3) := by decide +kernel
theorem dX10_partByDegrees_83 : decode cX10_partByDegrees 83 = .ok (.aload_n 0, 1) := by decide +kernel
theorem dX10_partByDegrees_84 : decode cX10_partByDegrees 84 = .ok (.iconst 4, 1) := by decide +kernel
theorem dX10_partByDegrees_85 : decode cX10_partByDegrees 85 = .ok (.invokevirtual 112, 3) := by decide +kernel
theorem dX10_partByDegrees_88 : decode cX10_partByDegrees 88 = .ok (.iinc 4 1, 3) := by decide +kernel
theorem dX10_partByDegrees_91 : decode cX10_partByDegrees 91 = .ok (.goto (-61), 3) := by decide +kernel
theorem dX10_partByDegrees_94 : decode cX10_partByDegrees 94 = .ok (.iinc 2 1, 3) := by decide +kernel
theorem dX10_partByDegrees_97 : decode cX10_partByDegrees 97 = .ok (.goto (-83), 3) := by decide +kernel
theorem dX10_partByDegrees_100 : decode cX10_partByDegrees 100 = .ok (.aload_n 0, 1) := by decide +kernel
theorem dX10_partByDegrees_101 : decode cX10_partByDegrees 101 = .ok (.getfield 7, 3) := by decide +kernel
theorem dX10_partByDegrees_104 : decode cX10_partByDegrees 104 = .ok (.bipush 44, 2) := by decide +kernel
theorem dX10_partByDegrees_106 : decode cX10_partByDegrees 106 = .ok (.iaload, 1) := by decide +kernel
theorem dX10_partByDegrees_107 : decode cX10_partByDegrees 107 = .ok (.iload_n 1, 1) := by decide +kernel
theorem dX10_partByDegrees_108 : decode cX10_partByDegrees 108 = .ok (.if_icmp .ne 6, 3) := by decide +kernel
theorem dX10_partByDegrees_111 : decode cX10_partByDegrees 111 = .ok (.bipush (-5), 2) := by decide +kernel
theorem dX10_partByDegrees_113 : decode cX10_partByDegrees 113 = .ok (.ireturn, 1) := by decide +kernel
theorem dX10_partByDegrees_114 : decode cX10_partByDegrees 114 = .ok (.aload_n 0, 1) := by decide +kernel
theorem dX10_partByDegrees_115 : decode cX10_partByDegrees 115 = .ok (.invokevirtual 115, 3) := by decide +kernel
theorem dX10_partByDegrees_118 : decode cX10_partByDegrees 118 = .ok (.aload_n 0, 1) := by decide +kernel
theorem dX10_partByDegrees_119 : decode cX10_partByDegrees 119 = .ok (.invokevirtual 168, 3) := by decide +kernel
theorem dX10_partByDegrees_122 : decode cX10_partByDegrees 122 = .ok (.aload_n 0, 1) := by decide +kernel
theorem dX10_partByDegrees_123 : decode cX10_partByDegrees 123 = .ok (.getfield 7, 3) := by decide +kernel
theorem dX10_partByDegrees_126 : decode cX10_partByDegrees 126 = .ok (.bipush 44, 2) := by decide +kernel
theorem dX10_partByDegrees_128 : decode cX10_partByDegrees 128 = .ok (.iaload, 1) := by decide +kernel
theorem dX10_partByDegrees_129 : decode cX10_partByDegrees 129 = .ok (.ireturn, 1) := by decide +kernel
theorem dX10_placeOf_0 : decode cX10_placeOf 0 = .ok (.iconst 0, 1) := by decide +kernel
theorem dX10_placeOf_1 : decode cX10_placeOf 1 = .ok (.istore_n 2, 1) := by decide +kernel
theorem dX10_placeOf_2 : decode cX10_placeOf 2 = .ok (.iload_n 2, 1) := by decide +kernel
theorem dX10_placeOf_3 : decode cX10_placeOf 3 = .ok (.aload_n 0, 1) := by decide +kernel
theorem dX10_placeOf_4 : decode cX10_placeOf 4 = .ok (.getfield 7, 3) := by decide +kernel
theorem dX10_placeOf_7 : decode cX10_placeOf 7 = .ok (.bipush 44, 2) := by decide +kernel
theorem dX10_placeOf_9 : decode cX10_placeOf 9 = .ok (.iaload, 1) := by decide +kernel
theorem dX10_placeOf_10 : decode cX10_placeOf 10 = .ok (.if_icmp .ge 66, 3) := by decide +kernel
theorem dX10_placeOf_13 : decode cX10_placeOf 13 = .ok (.iconst 1, 1) := by decide +kernel
theorem dX10_placeOf_14 : decode cX10_placeOf 14 = .ok (.istore_n 3, 1) := by decide +kernel
theorem dX10_placeOf_15 : decode cX10_placeOf 15 = .ok (.iconst 0, 1) := by decide +kernel
theorem dX10_placeOf_16 : decode cX10_placeOf 16 = .ok (.istore 4, 2) := by decide +kernel
theorem dX10_placeOf_18 : decode cX10_placeOf 18 = .ok (.iload 4, 2) := by decide +kernel
theorem dX10_placeOf_20 : decode cX10_placeOf 20 = .ok (.bipush 7, 2) := by decide +kernel
theorem dX10_placeOf_22 : decode cX10_placeOf 22 = .ok (.if_icmp .ge 42, 3) := by decide +kernel
theorem dX10_placeOf_25 : decode cX10_placeOf 25 = .ok (.iload_n 3, 1) := by decide +kernel
theorem dX10_placeOf_26 : decode cX10_placeOf 26 = .ok (.aload_n 0, 1) := by decide +kernel
theorem dX10_placeOf_27 : decode cX10_placeOf 27 = .ok (.getfield 7, 3) := by decide +kernel
theorem dX10_placeOf_30 : decode cX10_placeOf 30 = .ok (.bipush 45, 2) := by decide +kernel
theorem dX10_placeOf_32 : decode cX10_placeOf 32 = .ok (.bipush 7, 2) := by decide +kernel
theorem dX10_placeOf_34 : decode cX10_placeOf 34 = .ok (.iload_n 2, 1) := by decide +kernel
theorem dX10_placeOf_35 : decode cX10_placeOf 35 = .ok (.imul, 1) := by decide +kernel
theorem dX10_placeOf_36 : decode cX10_placeOf 36 = .ok (.iadd, 1) := by decide +kernel
theorem dX10_placeOf_37 : decode cX10_placeOf 37 = .ok (.iload 4, 2) := by decide +kernel
theorem dX10_placeOf_39 : decode cX10_placeOf 39 = .ok (.iadd, 1) := by decide +kernel
theorem dX10_placeOf_40 : decode cX10_placeOf 40 = .ok (.iaload, 1) := by decide +kernel
theorem dX10_placeOf_41 : decode cX10_placeOf 41 = .ok (.aload_n 0, 1) := by decide +kernel
theorem dX10_placeOf_42 : decode cX10_placeOf 42 = .ok (.iload_n 1, 1) := by decide +kernel
theorem dX10_placeOf_43 : decode cX10_placeOf 43 = .ok (.iload 4, 2) := by decide +kernel
theorem dX10_placeOf_45 : decode cX10_placeOf 45 = .ok (.invokevirtual 55, 3) := by decide +kernel
theorem dX10_placeOf_48 : decode cX10_placeOf 48 = .ok (.if_icmp .ne 7, 3) := by decide +kernel
theorem dX10_placeOf_51 : decode cX10_placeOf 51 = .ok (.iconst 1, 1) := by decide +kernel
theorem dX10_placeOf_52 : decode cX10_placeOf 52 = .ok (.goto 4, 3) := by decide +kernel
theorem dX10_placeOf_55 : decode cX10_placeOf 55 = .ok (.iconst 0, 1) := by decide +kernel
theorem dX10_placeOf_56 : decode cX10_placeOf 56 = .ok (.iand, 1) := by decide +kernel
theorem dX10_placeOf_57 : decode cX10_placeOf 57 = .ok (.istore_n 3, 1) := by decide +kernel
theorem dX10_placeOf_58 : decode cX10_placeOf 58 = .ok (.iinc 4 1, 3) := by decide +kernel
theorem dX10_placeOf_61 : decode cX10_placeOf 61 = .ok (.goto (-43), 3) := by decide +kernel
theorem dX10_placeOf_64 : decode cX10_placeOf 64 = .ok (.iload_n 3, 1) := by decide +kernel
theorem dX10_placeOf_65 : decode cX10_placeOf 65 = .ok (.ifCond .eq 5, 3) := by decide +kernel
theorem dX10_placeOf_68 : decode cX10_placeOf 68 = .ok (.iload_n 2, 1) := by decide +kernel
theorem dX10_placeOf_69 : decode cX10_placeOf 69 = .ok (.ireturn, 1) := by decide +kernel
theorem dX10_placeOf_70 : decode cX10_placeOf 70 = .ok (.iinc 2 1, 3) := by decide +kernel
theorem dX10_placeOf_73 : decode cX10_placeOf 73 = .ok (.goto (-71), 3) := by decide +kernel
theorem dX10_placeOf_76 : decode cX10_placeOf 76 = .ok (.bipush (-5), 2) := by decide +kernel
theorem dX10_placeOf_78 : decode cX10_placeOf 78 = .ok (.ireturn, 1) := by decide +kernel
theorem dX10_join_0 : decode cX10_join 0 = .ok (.aload_n 0, 1) := by decide +kernel
theorem dX10_join_1 : decode cX10_join 1 = .ok (.iload_n 1, 1) := by decide +kernel
theorem dX10_join_2 : decode cX10_join 2 = .ok (.invokevirtual 162, 3) := by decide +kernel
theorem dX10_join_5 : decode cX10_join 5 = .ok (.ifCond .ne 11, 3) := by decide +kernel
theorem dX10_join_8 : decode cX10_join 8 = .ok (.aload_n 0, 1) := by decide +kernel
theorem dX10_join_9 : decode cX10_join 9 = .ok (.iload_n 2, 1) := by decide +kernel
theorem dX10_join_10 : decode cX10_join 10 = .ok (.invokevirtual 162, 3) := by decide +kernel
theorem dX10_join_13 : decode cX10_join 13 = .ok (.ifCond .eq 5, 3) := by decide +kernel
theorem dX10_join_16 : decode cX10_join 16 = .ok (.iconst (-1), 1) := by decide +kernel
theorem dX10_join_17 : decode cX10_join 17 = .ok (.ireturn, 1) := by decide +kernel
theorem dX10_join_18 : decode cX10_join 18 = .ok (.iload_n 1, 1) := by decide +kernel
theorem dX10_join_19 : decode cX10_join 19 = .ok (.iload_n 2, 1) := by decide +kernel
theorem dX10_join_20 : decode cX10_join 20 = .ok (.if_icmp .ne 6, 3) := by decide +kernel
theorem dX10_join_23 : decode cX10_join 23 = .ok (.bipush (-2), 2) := by decide +kernel
theorem dX10_join_25 : decode cX10_join 25 = .ok (.ireturn, 1) := by decide +kernel
theorem dX10_join_26 : decode cX10_join 26 = .ok (.aload_n 0, 1) := by decide +kernel
theorem dX10_join_27 : decode cX10_join 27 = .ok (.invokevirtual 131, 3) := by decide +kernel
theorem dX10_join_30 : decode cX10_join 30 = .ok (.aload_n 0, 1) := by decide +kernel
theorem dX10_join_31 : decode cX10_join 31 = .ok (.iload_n 1, 1) := by decide +kernel
theorem dX10_join_32 : decode cX10_join 32 = .ok (.iconst 2, 1) := by decide +kernel
theorem dX10_join_33 : decode cX10_join 33 = .ok (.invokevirtual 106, 3) := by decide +kernel
theorem dX10_join_36 : decode cX10_join 36 = .ok (.aload_n 0, 1) := by decide +kernel
theorem dX10_join_37 : decode cX10_join 37 = .ok (.iload_n 2, 1) := by decide +kernel
theorem dX10_join_38 : decode cX10_join 38 = .ok (.iconst 3, 1) := by decide +kernel
theorem dX10_join_39 : decode cX10_join 39 = .ok (.invokevirtual 106, 3) := by decide +kernel
theorem dX10_join_42 : decode cX10_join 42 = .ok (.aload_n 0, 1) := by decide +kernel
theorem dX10_join_43 : decode cX10_join 43 = .ok (.iconst 2, 1) := by decide +kernel
theorem dX10_join_44 : decode cX10_join 44 = .ok (.iconst 3, 1) := by decide +kernel
theorem dX10_join_45 : decode cX10_join 45 = .ok (.iconst 2, 1) := by decide +kernel
theorem dX10_join_46 : decode cX10_join 46 = .ok (.invokevirtual 90, 3) := by decide +kernel
theorem dX10_join_49 : decode cX10_join 49 = .ok (.aload_n 0, 1) := by decide +kernel
theorem dX10_join_50 : decode cX10_join 50 = .ok (.iload_n 1, 1) := by decide +kernel
theorem dX10_join_51 : decode cX10_join 51 = .ok (.iload_n 2, 1) := by decide +kernel
theorem dX10_join_52 : decode cX10_join 52 = .ok (.if_icmp .le 7, 3) := by decide +kernel
theorem dX10_join_55 : decode cX10_join 55 = .ok (.iload_n 1, 1) := by decide +kernel
theorem dX10_join_56 : decode cX10_join 56 = .ok (.goto 4, 3) := by decide +kernel
theorem dX10_join_59 : decode cX10_join 59 = .ok (.iload_n 2, 1) := by decide +kernel
theorem dX10_join_60 : decode cX10_join 60 = .ok (.invokevirtual 181, 3) := by decide +kernel
theorem dX10_join_63 : decode cX10_join 63 = .ok (.aload_n 0, 1) := by decide +kernel
theorem dX10_join_64 : decode cX10_join 64 = .ok (.iconst 2, 1) := by decide +kernel
theorem dX10_join_65 : decode cX10_join 65 = .ok (.iload_n 1, 1) := by decide +kernel
theorem dX10_join_66 : decode cX10_join 66 = .ok (.iload_n 2, 1) := by decide +kernel
theorem dX10_join_67 : decode cX10_join 67 = .ok (.if_icmp .le 7, 3) := by decide +kernel
theorem dX10_join_70 : decode cX10_join 70 = .ok (.iload_n 2, 1) := by decide +kernel
theorem dX10_join_71 : decode cX10_join 71 = .ok (.goto 4, 3) := by decide +kernel
theorem dX10_join_74 : decode cX10_join 74 = .ok (.iload_n 1, 1) := by decide +kernel
theorem dX10_join_75 : decode cX10_join 75 = .ok (.invokevirtual 103, 3) := by decide +kernel
theorem dX10_join_78 : decode cX10_join 78 = .ok (.aload_n 0, 1) := by decide +kernel
theorem dX10_join_79 : decode cX10_join 79 = .ok (.invokevirtual 115, 3) := by decide +kernel
theorem dX10_join_82 : decode cX10_join 82 = .ok (.aload_n 0, 1) := by decide +kernel
theorem dX10_join_83 : decode cX10_join 83 = .ok (.iconst 2, 1) := by decide +kernel
theorem dX10_join_84 : decode cX10_join 84 = .ok (.invokevirtual 184, 3) := by decide +kernel
theorem dX10_join_87 : decode cX10_join 87 = .ok (.ireturn, 1) := by decide +kernel
theorem dX10_joinAlike_0 : decode cX10_joinAlike 0 = .ok (.iload_n 1, 1) := by decide +kernel
theorem dX10_joinAlike_1 : decode cX10_joinAlike 1 = .ok (.invokestatic 156, 3) := by decide +kernel
theorem dX10_joinAlike_4 : decode cX10_joinAlike 4 = .ok (.ifCond .eq 5, 3) := by decide +kernel
theorem dX10_joinAlike_7 : decode cX10_joinAlike 7 = .ok (.iconst (-1), 1) := by decide +kernel
theorem dX10_joinAlike_8 : decode cX10_joinAlike 8 = .ok (.ireturn, 1) := by decide +kernel
theorem dX10_joinAlike_9 : decode cX10_joinAlike 9 = .ok (.aload_n 0, 1) := by decide +kernel
theorem dX10_joinAlike_10 : decode cX10_joinAlike 10 = .ok (.iload_n 1, 1) := by decide +kernel
theorem dX10_joinAlike_11 : decode cX10_joinAlike 11 = .ok (.iconst 2, 1) := by decide +kernel
theorem dX10_joinAlike_12 : decode cX10_joinAlike 12 = .ok (.invokevirtual 144, 3) := by decide +kernel
theorem dX10_joinAlike_15 : decode cX10_joinAlike 15 = .ok (.aload_n 0, 1) := by decide +kernel
theorem dX10_joinAlike_16 : decode cX10_joinAlike 16 = .ok (.bipush 8, 2) := by decide +kernel
theorem dX10_joinAlike_18 : decode cX10_joinAlike 18 = .ok (.iconst 1, 1) := by decide +kernel
theorem dX10_joinAlike_19 : decode cX10_joinAlike 19 = .ok (.invokevirtual 87, 3) := by decide +kernel
theorem dX10_joinAlike_22 : decode cX10_joinAlike 22 = .ok (.aload_n 0, 1) := by decide +kernel
theorem dX10_joinAlike_23 : decode cX10_joinAlike 23 = .ok (.bipush 9, 2) := by decide +kernel
theorem dX10_joinAlike_25 : decode cX10_joinAlike 25 = .ok (.iconst 1, 1) := by decide +kernel
theorem dX10_joinAlike_26 : decode cX10_joinAlike 26 = .ok (.invokevirtual 87, 3) := by decide +kernel
theorem dX10_joinAlike_29 : decode cX10_joinAlike 29 = .ok (.aload_n 0, 1) := by decide +kernel
theorem dX10_joinAlike_30 : decode cX10_joinAlike 30 = .ok (.getfield 7, 3) := by decide +kernel
theorem dX10_joinAlike_33 : decode cX10_joinAlike 33 = .ok (.bipush 44, 2) := by decide +kernel
theorem dX10_joinAlike_35 : decode cX10_joinAlike 35 = .ok (.iaload, 1) := by decide +kernel
theorem dX10_joinAlike_36 : decode cX10_joinAlike 36 = .ok (.istore_n 2, 1) := by decide +kernel
theorem dX10_joinAlike_37 : decode cX10_joinAlike 37 = .ok (.iconst 0, 1) := by decide +kernel
theorem dX10_joinAlike_38 : decode cX10_joinAlike 38 = .ok (.istore_n 3, 1) := by decide +kernel
theorem dX10_joinAlike_39 : decode cX10_joinAlike 39 = .ok (.iconst 0, 1) := by decide +kernel
theorem dX10_joinAlike_40 : decode cX10_joinAlike 40 = .ok (.istore 4, 2) := by decide +kernel
theorem dX10_joinAlike_42 : decode cX10_joinAlike 42 = .ok (.iload 4, 2) := by decide +kernel
theorem dX10_joinAlike_44 : decode cX10_joinAlike 44 = .ok (.iload_n 2, 1) := by decide +kernel
theorem dX10_joinAlike_45 : decode cX10_joinAlike 45 = .ok (.if_icmp .ge 74, 3) := by decide +kernel
theorem dX10_joinAlike_48 : decode cX10_joinAlike 48 = .ok (.aload_n 0, 1) := by decide +kernel
theorem dX10_joinAlike_49 : decode cX10_joinAlike 49 = .ok (.iload 4, 2) := by decide +kernel
theorem dX10_joinAlike_51 : decode cX10_joinAlike 51 = .ok (.iconst 1, 1) := by decide +kernel
theorem dX10_joinAlike_52 : decode cX10_joinAlike 52 = .ok (.invokevirtual 106, 3) := by decide +kernel
theorem dX10_joinAlike_55 : decode cX10_joinAlike 55 = .ok (.aload_n 0, 1) := by decide +kernel
theorem dX10_joinAlike_56 : decode cX10_joinAlike 56 = .ok (.iconst 2, 1) := by decide +kernel
theorem dX10_joinAlike_57 : decode cX10_joinAlike 57 = .ok (.invokevirtual 125, 3) := by decide +kernel
theorem dX10_joinAlike_60 : decode cX10_joinAlike 60 = .ok (.istore 5, 2) := by decide +kernel
theorem dX10_joinAlike_62 : decode cX10_joinAlike 62 = .ok (.iload 5, 2) := by decide +kernel
theorem dX10_joinAlike_64 : decode cX10_joinAlike 64 = .ok (.iconst 2, 1) := by decide +kernel
theorem dX10_joinAlike_65 : decode cX10_joinAlike 65 = .ok (.if_icmp .ne 6, 3) := by decide +kernel
theorem dX10_joinAlike_68 : decode cX10_joinAlike 68 = .ok (.bipush (-4), 2) := by decide +kernel
theorem dX10_joinAlike_70 : decode cX10_joinAlike 70 = .ok (.ireturn, 1) := by decide +kernel
theorem dX10_joinAlike_71 : decode cX10_joinAlike 71 = .ok (.iload_n 3, 1) := by decide +kernel
theorem dX10_joinAlike_72 : decode cX10_joinAlike 72 = .ok (.iload 5, 2) := by decide +kernel
theorem dX10_joinAlike_74 : decode cX10_joinAlike 74 = .ok (.ifCond .ne 7, 3) := by decide +kernel
theorem dX10_joinAlike_77 : decode cX10_joinAlike 77 = .ok (.iconst 1, 1) := by decide +kernel
theorem dX10_joinAlike_78 : decode cX10_joinAlike 78 = .ok (.goto 4, 3) := by decide +kernel
theorem dX10_joinAlike_81 : decode cX10_joinAlike 81 = .ok (.iconst 0, 1) := by decide +kernel
theorem dX10_joinAlike_82 : decode cX10_joinAlike 82 = .ok (.iadd, 1) := by decide +kernel
theorem dX10_joinAlike_83 : decode cX10_joinAlike 83 = .ok (.istore_n 3, 1) := by decide +kernel
theorem dX10_joinAlike_84 : decode cX10_joinAlike 84 = .ok (.aload_n 0, 1) := by decide +kernel
theorem dX10_joinAlike_85 : decode cX10_joinAlike 85 = .ok (.iconst 1, 1) := by decide +kernel
theorem dX10_joinAlike_86 : decode cX10_joinAlike 86 = .ok (.iload 5, 2) := by decide +kernel
theorem dX10_joinAlike_88 : decode cX10_joinAlike 88 = .ok (.ifCond .ne 8, 3) := by decide +kernel
theorem dX10_joinAlike_91 : decode cX10_joinAlike 91 = .ok (.bipush 8, 2) := by decide +kernel
theorem dX10_joinAlike_93 : decode cX10_joinAlike 93 = .ok (.goto 5, 3) := by decide +kernel
theorem dX10_joinAlike_96 : decode cX10_joinAlike 96 = .ok (.bipush 9, 2) := by decide +kernel
theorem dX10_joinAlike_98 : decode cX10_joinAlike 98 = .ok (.iload 5, 2) := by decide +kernel
theorem dX10_joinAlike_100 : decode cX10_joinAlike 100 = .ok (.ifCond .ne 8, 3) := by decide +kernel
theorem dX10_joinAlike_103 : decode cX10_joinAlike 103 = .ok (.bipush 8, 2) := by decide +kernel
theorem dX10_joinAlike_105 : decode cX10_joinAlike 105 = .ok (.goto 5, 3) := by decide +kernel
theorem dX10_joinAlike_108 : decode cX10_joinAlike 108 = .ok (.bipush 9, 2) := by decide +kernel
theorem dX10_joinAlike_110 : decode cX10_joinAlike 110 = .ok (.invokevirtual 90, 3) := by decide +kernel
theorem dX10_joinAlike_113 : decode cX10_joinAlike 113 = .ok (.iinc 4 1, 3) := by decide +kernel
theorem dX10_joinAlike_116 : decode cX10_joinAlike 116 = .ok (.goto (-74), 3) := by decide +kernel
theorem dX10_joinAlike_119 : decode cX10_joinAlike 119 = .ok (.iload_n 3, 1) := by decide +kernel
theorem dX10_joinAlike_120 : decode cX10_joinAlike 120 = .ok (.iconst 2, 1) := by decide +kernel
theorem dX10_joinAlike_121 : decode cX10_joinAlike 121 = .ok (.if_icmp .ge 13, 3) := by decide +kernel
theorem dX10_joinAlike_124 : decode cX10_joinAlike 124 = .ok (.iload_n 2, 1) := by decide +kernel
theorem dX10_joinAlike_125 : decode cX10_joinAlike 125 = .ok (.iload_n 3, 1) := by decide +kernel
theorem dX10_joinAlike_126 : decode cX10_joinAlike 126 = .ok (.isub, 1) := by decide +kernel
theorem dX10_joinAlike_127 : decode cX10_joinAlike 127 = .ok (.iconst 2, 1) := by decide +kernel
theorem dX10_joinAlike_128 : decode cX10_joinAlike 128 = .ok (.if_icmp .ge 6, 3) := by decide +kernel
theorem dX10_joinAlike_131 : decode cX10_joinAlike 131 = .ok (.bipush (-5), 2) := by decide +kernel
theorem dX10_joinAlike_133 : decode cX10_joinAlike 133 = .ok (.ireturn, 1) := by decide +kernel
theorem dX10_joinAlike_134 : decode cX10_joinAlike 134 = .ok (.aload_n 0, 1) := by decide +kernel
theorem dX10_joinAlike_135 : decode cX10_joinAlike 135 = .ok (.invokevirtual 131, 3) := by decide +kernel
theorem dX10_joinAlike_138 : decode cX10_joinAlike 138 = .ok (.aload_n 0, 1) := by decide +kernel
theorem dX10_joinAlike_139 : decode cX10_joinAlike 139 = .ok (.getfield 7, 3) := by decide +kernel
theorem dX10_joinAlike_142 : decode cX10_joinAlike 142 = .ok (.bipush 44, 2) := by decide +kernel
theorem dX10_joinAlike_144 : decode cX10_joinAlike 144 = .ok (.iconst 0, 1) := by decide +kernel
theorem dX10_joinAlike_145 : decode cX10_joinAlike 145 = .ok (.iastore, 1) := by decide +kernel
theorem dX10_joinAlike_146 : decode cX10_joinAlike 146 = .ok (.iload_n 3, 1) := by decide +kernel
theorem dX10_joinAlike_147 : decode cX10_joinAlike 147 = .ok (.ifCond .le 9, 3) := by decide +kernel
theorem dX10_joinAlike_150 : decode cX10_joinAlike 150 = .ok (.aload_n 0, 1) := by decide +kernel
theorem dX10_joinAlike_151 : decode cX10_joinAlike 151 = .ok (.bipush 8, 2) := by decide +kernel
theorem dX10_joinAlike_153 : decode cX10_joinAlike 153 = .ok (.invokevirtual 112, 3) := by decide +kernel
theorem dX10_joinAlike_156 : decode cX10_joinAlike 156 = .ok (.iload_n 2, 1) := by decide +kernel
theorem dX10_joinAlike_157 : decode cX10_joinAlike 157 = .ok (.iload_n 3, 1) := by decide +kernel
theorem dX10_joinAlike_158 : decode cX10_joinAlike 158 = .ok (.if_icmp .le 9, 3) := by decide +kernel
theorem dX10_joinAlike_161 : decode cX10_joinAlike 161 = .ok (.aload_n 0, 1) := by decide +kernel
theorem dX10_joinAlike_162 : decode cX10_joinAlike 162 = .ok (.bipush 9, 2) := by decide +kernel
theorem dX10_joinAlike_164 : decode cX10_joinAlike 164 = .ok (.invokevirtual 112, 3) := by decide +kernel
theorem dX10_joinAlike_167 : decode cX10_joinAlike 167 = .ok (.aload_n 0, 1) := by decide +kernel
theorem dX10_joinAlike_168 : decode cX10_joinAlike 168 = .ok (.invokevirtual 115, 3) := by decide +kernel
theorem dX10_joinAlike_171 : decode cX10_joinAlike 171 = .ok (.aload_n 0, 1) := by decide +kernel
theorem dX10_joinAlike_172 : decode cX10_joinAlike 172 = .ok (.getfield 7, 3) := by decide +kernel
theorem dX10_joinAlike_175 : decode cX10_joinAlike 175 = .ok (.bipush 44, 2) := by decide +kernel
theorem dX10_joinAlike_177 : decode cX10_joinAlike 177 = .ok (.iaload, 1) := by decide +kernel
theorem dX10_joinAlike_178 : decode cX10_joinAlike 178 = .ok (.ireturn, 1) := by decide +kernel
theorem dX10_type_0 : decode cX10_type 0 = .ok (.aload_n 0, 1) := by decide +kernel
theorem dX10_type_1 : decode cX10_type 1 = .ok (.getfield 187, 3) := by decide +kernel
theorem dX10_type_4 : decode cX10_type 4 = .ok (.bipush 60, 2) := by decide +kernel
theorem dX10_type_6 : decode cX10_type 6 = .ok (.if_icmp .ne 6, 3) := by decide +kernel
theorem dX10_type_9 : decode cX10_type 9 = .ok (.bipush (-3), 2) := by decide +kernel
theorem dX10_type_11 : decode cX10_type 11 = .ok (.ireturn, 1) := by decide +kernel
theorem dX10_type_12 : decode cX10_type 12 = .ok (.aload_n 0, 1) := by decide +kernel
theorem dX10_type_13 : decode cX10_type 13 = .ok (.getfield 28, 3) := by decide +kernel
theorem dX10_type_16 : decode cX10_type 16 = .ok (.aload_n 0, 1) := by decide +kernel
theorem dX10_type_17 : decode cX10_type 17 = .ok (.getfield 187, 3) := by decide +kernel
theorem dX10_type_20 : decode cX10_type 20 = .ok (.iload_n 1, 1) := by decide +kernel
theorem dX10_type_21 : decode cX10_type 21 = .ok (.castore, 1) := by decide +kernel
theorem dX10_type_22 : decode cX10_type 22 = .ok (.aload_n 0, 1) := by decide +kernel
theorem dX10_type_23 : decode cX10_type 23 = .ok (.dup, 1) := by decide +kernel
theorem dX10_type_24 : decode cX10_type 24 = .ok (.getfield 187, 3) := by decide +kernel
theorem dX10_type_27 : decode cX10_type 27 = .ok (.iconst 1, 1) := by decide +kernel
theorem dX10_type_28 : decode cX10_type 28 = .ok (.iadd, 1) := by decide +kernel
theorem dX10_type_29 : decode cX10_type 29 = .ok (.putfield 187, 3) := by decide +kernel
theorem dX10_type_32 : decode cX10_type 32 = .ok (.aload_n 0, 1) := by decide +kernel
theorem dX10_type_33 : decode cX10_type 33 = .ok (.getfield 187, 3) := by decide +kernel
theorem dX10_type_36 : decode cX10_type 36 = .ok (.ireturn, 1) := by decide +kernel
theorem dX10_clearText_0 : decode cX10_clearText 0 = .ok (.aload_n 0, 1) := by decide +kernel
theorem dX10_clearText_1 : decode cX10_clearText 1 = .ok (.getfield 187, 3) := by decide +kernel
theorem dX10_clearText_4 : decode cX10_clearText 4 = .ok (.istore_n 1, 1) := by decide +kernel
theorem dX10_clearText_5 : decode cX10_clearText 5 = .ok (.aload_n 0, 1) := by decide +kernel
theorem dX10_clearText_6 : decode cX10_clearText 6 = .ok (.iconst 0, 1) := by decide +kernel
theorem dX10_clearText_7 : decode cX10_clearText 7 = .ok (.putfield 187, 3) := by decide +kernel
theorem dX10_clearText_10 : decode cX10_clearText 10 = .ok (.iload_n 1, 1) := by decide +kernel
theorem dX10_clearText_11 : decode cX10_clearText 11 = .ok (.ireturn, 1) := by decide +kernel
theorem dX10_isBetween_0 : decode cX10_isBetween 0 = .ok (.aload_n 0, 1) := by decide +kernel
theorem dX10_isBetween_1 : decode cX10_isBetween 1 = .ok (.getfield 138, 3) := by decide +kernel
theorem dX10_isBetween_4 : decode cX10_isBetween 4 = .ok (.aload_n 0, 1) := by decide +kernel
theorem dX10_isBetween_5 : decode cX10_isBetween 5 = .ok (.getfield 187, 3) := by decide +kernel
theorem dX10_isBetween_8 : decode cX10_isBetween 8 = .ok (.if_icmp .ge 24, 3) := by decide +kernel
theorem dX10_isBetween_11 : decode cX10_isBetween 11 = .ok (.aload_n 0, 1) := by decide +kernel
theorem dX10_isBetween_12 : decode cX10_isBetween 12 = .ok (.getfield 28, 3) := by decide +kernel
theorem dX10_isBetween_15 : decode cX10_isBetween 15 = .ok (.aload_n 0, 1) := by decide +kernel
theorem dX10_isBetween_16 : decode cX10_isBetween 16 = .ok (.getfield 138, 3) := by decide +kernel
theorem dX10_isBetween_19 : decode cX10_isBetween 19 = .ok (.caload, 1) := by decide +kernel
theorem dX10_isBetween_20 : decode cX10_isBetween 20 = .ok (.iload_n 1, 1) := by decide +kernel
theorem dX10_isBetween_21 : decode cX10_isBetween 21 = .ok (.iload_n 2, 1) := by decide +kernel
theorem dX10_isBetween_22 : decode cX10_isBetween 22 = .ok (.invokestatic 47, 3) := by decide +kernel
theorem dX10_isBetween_25 : decode cX10_isBetween 25 = .ok (.ifCond .eq 7, 3) := by decide +kernel
theorem dX10_isBetween_28 : decode cX10_isBetween 28 = .ok (.iconst 1, 1) := by decide +kernel
theorem dX10_isBetween_29 : decode cX10_isBetween 29 = .ok (.goto 4, 3) := by decide +kernel
theorem dX10_isBetween_32 : decode cX10_isBetween 32 = .ok (.iconst 0, 1) := by decide +kernel
theorem dX10_isBetween_33 : decode cX10_isBetween 33 = .ok (.ireturn, 1) := by decide +kernel
theorem dX10_takes_0 : decode cX10_takes 0 = .ok (.aload_n 0, 1) := by decide +kernel
theorem dX10_takes_1 : decode cX10_takes 1 = .ok (.iload_n 1, 1) := by decide +kernel
theorem dX10_takes_2 : decode cX10_takes 2 = .ok (.iload_n 1, 1) := by decide +kernel
theorem dX10_takes_3 : decode cX10_takes 3 = .ok (.invokevirtual 190, 3) := by decide +kernel
theorem dX10_takes_6 : decode cX10_takes 6 = .ok (.istore_n 2, 1) := by decide +kernel
theorem dX10_takes_7 : decode cX10_takes 7 = .ok (.aload_n 0, 1) := by decide +kernel
theorem dX10_takes_8 : decode cX10_takes 8 = .ok (.dup, 1) := by decide +kernel
theorem dX10_takes_9 : decode cX10_takes 9 = .ok (.getfield 138, 3) := by decide +kernel
theorem dX10_takes_12 : decode cX10_takes 12 = .ok (.iload_n 2, 1) := by decide +kernel
theorem dX10_takes_13 : decode cX10_takes 13 = .ok (.ifCond .eq 7, 3) := by decide +kernel
theorem dX10_takes_16 : decode cX10_takes 16 = .ok (.iconst 1, 1) := by decide +kernel
theorem dX10_takes_17 : decode cX10_takes 17 = .ok (.goto 4, 3) := by decide +kernel
theorem dX10_takes_20 : decode cX10_takes 20 = .ok (.iconst 0, 1) := by decide +kernel
theorem dX10_takes_21 : decode cX10_takes 21 = .ok (.iadd, 1) := by decide +kernel
theorem dX10_takes_22 : decode cX10_takes 22 = .ok (.putfield 138, 3) := by decide +kernel
theorem dX10_takes_25 : decode cX10_takes 25 = .ok (.iload_n 2, 1) := by decide +kernel
theorem dX10_takes_26 : decode cX10_takes 26 = .ok (.ireturn, 1) := by decide +kernel
theorem dX10_coefficients_0 : decode cX10_coefficients 0 = .ok (.aload_n 0, 1) := by decide +kernel
theorem dX10_coefficients_1 : decode cX10_coefficients 1 = .ok (.iconst 0, 1) := by decide +kernel
theorem dX10_coefficients_2 : decode cX10_coefficients 2 = .ok (.putfield 138, 3) := by decide +kernel
theorem dX10_coefficients_5 : decode cX10_coefficients 5 = .ok (.iconst 0, 1) := by decide +kernel
theorem dX10_coefficients_6 : decode cX10_coefficients 6 = .ok (.istore_n 1, 1) := by decide +kernel
theorem dX10_coefficients_7 : decode cX10_coefficients 7 = .ok (.iconst 1, 1) := by decide +kernel
theorem dX10_coefficients_8 : decode cX10_coefficients 8 = .ok (.istore_n 2, 1) := by decide +kernel
theorem dX10_coefficients_9 : decode cX10_coefficients 9 = .ok (.iload_n 2, 1) := by decide +kernel
theorem dX10_coefficients_10 : decode cX10_coefficients 10 = .ok (.ifCond .eq 139, 3) := by decide +kernel
theorem dX10_coefficients_13 : decode cX10_coefficients 13 = .ok (.aload_n 0, 1) := by decide +kernel
theorem dX10_coefficients_14 : decode cX10_coefficients 14 = .ok (.bipush 48, 2) := by decide +kernel
theorem dX10_coefficients_16 : decode cX10_coefficients 16 = .ok (.bipush 57, 2) := by decide +kernel
theorem dX10_coefficients_18 : decode cX10_coefficients 18 = .ok (.invokevirtual 190, 3) := by decide +kernel
theorem dX10_coefficients_21 : decode cX10_coefficients 21 = .ok (.ifCond .ne 6, 3) := by decide +kernel
theorem dX10_coefficients_24 : decode cX10_coefficients 24 = .ok (.bipush (-5), 2) := by decide +kernel
theorem dX10_coefficients_26 : decode cX10_coefficients 26 = .ok (.ireturn, 1) := by decide +kernel
theorem dX10_coefficients_27 : decode cX10_coefficients 27 = .ok (.aload_n 0, 1) := by decide +kernel
theorem dX10_coefficients_28 : decode cX10_coefficients 28 = .ok (.getfield 32, 3) := by decide +kernel
theorem dX10_coefficients_31 : decode cX10_coefficients 31 = .ok (.iload_n 1, 1) := by decide +kernel
theorem dX10_coefficients_32 : decode cX10_coefficients 32 = .ok (.aload_n 0, 1) := by decide +kernel
theorem dX10_coefficients_33 : decode cX10_coefficients 33 = .ok (.getfield 28, 3) := by decide +kernel
theorem dX10_coefficients_36 : decode cX10_coefficients 36 = .ok (.aload_n 0, 1) := by decide +kernel
theorem dX10_coefficients_37 : decode cX10_coefficients 37 = .ok (.getfield 138, 3) := by decide +kernel
theorem dX10_coefficients_40 : decode cX10_coefficients 40 = .ok (.caload, 1) := by decide +kernel
theorem dX10_coefficients_41 : decode cX10_coefficients 41 = .ok (.bipush 48, 2) := by decide +kernel
theorem dX10_coefficients_43 : decode cX10_coefficients 43 = .ok (.isub, 1) := by decide +kernel
theorem dX10_coefficients_44 : decode cX10_coefficients 44 = .ok (.iastore, 1) := by decide +kernel
theorem dX10_coefficients_45 : decode cX10_coefficients 45 = .ok (.aload_n 0, 1) := by decide +kernel
theorem dX10_coefficients_46 : decode cX10_coefficients 46 = .ok (.dup, 1) := by decide +kernel
theorem dX10_coefficients_47 : decode cX10_coefficients 47 = .ok (.getfield 138, 3) := by decide +kernel
theorem dX10_coefficients_50 : decode cX10_coefficients 50 = .ok (.iconst 1, 1) := by decide +kernel
theorem dX10_coefficients_51 : decode cX10_coefficients 51 = .ok (.iadd, 1) := by decide +kernel
theorem dX10_coefficients_52 : decode cX10_coefficients 52 = .ok (.putfield 138, 3) := by decide +kernel
theorem dX10_coefficients_55 : decode cX10_coefficients 55 = .ok (.aload_n 0, 1) := by decide +kernel
theorem dX10_coefficients_56 : decode cX10_coefficients 56 = .ok (.getfield 32, 3) := by decide +kernel
theorem dX10_coefficients_59 : decode cX10_coefficients 59 = .ok (.iload_n 1, 1) := by decide +kernel
theorem dX10_coefficients_60 : decode cX10_coefficients 60 = .ok (.iaload, 1) := by decide +kernel
theorem dX10_coefficients_61 : decode cX10_coefficients 61 = .ok (.iconst 1, 1) := by decide +kernel
theorem dX10_coefficients_62 : decode cX10_coefficients 62 = .ok (.if_icmp .ne 45, 3) := by decide +kernel
theorem dX10_coefficients_65 : decode cX10_coefficients 65 = .ok (.aload_n 0, 1) := by decide +kernel
theorem dX10_coefficients_66 : decode cX10_coefficients 66 = .ok (.bipush 48, 2) := by decide +kernel
theorem dX10_coefficients_68 : decode cX10_coefficients 68 = .ok (.bipush 50, 2) := by decide +kernel
theorem dX10_coefficients_70 : decode cX10_coefficients 70 = .ok (.invokevirtual 190, 3) := by decide +kernel
theorem dX10_coefficients_73 : decode cX10_coefficients 73 = .ok (.ifCond .eq 34, 3) := by decide +kernel
theorem dX10_coefficients_76 : decode cX10_coefficients 76 = .ok (.aload_n 0, 1) := by decide +kernel
theorem dX10_coefficients_77 : decode cX10_coefficients 77 = .ok (.getfield 32, 3) := by decide +kernel
theorem dX10_coefficients_80 : decode cX10_coefficients 80 = .ok (.iload_n 1, 1) := by decide +kernel
theorem dX10_coefficients_81 : decode cX10_coefficients 81 = .ok (.bipush 10, 2) := by decide +kernel
theorem dX10_coefficients_83 : decode cX10_coefficients 83 = .ok (.aload_n 0, 1) := by decide +kernel
theorem dX10_coefficients_84 : decode cX10_coefficients 84 = .ok (.getfield 28, 3) := by decide +kernel
theorem dX10_coefficients_87 : decode cX10_coefficients 87 = .ok (.aload_n 0, 1) := by decide +kernel
theorem dX10_coefficients_88 : decode cX10_coefficients 88 = .ok (.getfield 138, 3) := by decide +kernel
theorem dX10_coefficients_91 : decode cX10_coefficients 91 = .ok (.caload, 1) := by decide +kernel
theorem dX10_coefficients_92 : decode cX10_coefficients 92 = .ok (.iadd, 1) := by decide +kernel
theorem dX10_coefficients_93 : decode cX10_coefficients 93 = .ok (.bipush 48, 2) := by decide +kernel
theorem dX10_coefficients_95 : decode cX10_coefficients 95 = .ok (.isub, 1) := by decide +kernel
theorem dX10_coefficients_96 : decode cX10_coefficients 96 = .ok (.iastore, 1) := by decide +kernel
theorem dX10_coefficients_97 : decode cX10_coefficients 97 = .ok (.aload_n 0, 1) := by decide +kernel
theorem dX10_coefficients_98 : decode cX10_coefficients 98 = .ok (.dup, 1) := by decide +kernel
theorem dX10_coefficients_99 : decode cX10_coefficients 99 = .ok (.getfield 138, 3) := by decide +kernel
theorem dX10_coefficients_102 : decode cX10_coefficients 102 = .ok (.iconst 1, 1) := by decide +kernel
theorem dX10_coefficients_103 : decode cX10_coefficients 103 = .ok (.iadd, 1) := by decide +kernel
theorem dX10_coefficients_104 : decode cX10_coefficients 104 = .ok (.putfield 138, 3) := by decide +kernel
theorem dX10_coefficients_107 : decode cX10_coefficients 107 = .ok (.iinc 1 1, 3) := by decide +kernel
theorem dX10_coefficients_110 : decode cX10_coefficients 110 = .ok (.aload_n 0, 1) := by decide +kernel
theorem dX10_coefficients_111 : decode cX10_coefficients 111 = .ok (.getfield 138, 3) := by decide +kernel
theorem dX10_coefficients_114 : decode cX10_coefficients 114 = .ok (.aload_n 0, 1) := by decide +kernel
theorem dX10_coefficients_115 : decode cX10_coefficients 115 = .ok (.getfield 187, 3) := by decide +kernel
theorem dX10_coefficients_118 : decode cX10_coefficients 118 = .ok (.if_icmp .ge 7, 3) := by decide +kernel
theorem dX10_coefficients_121 : decode cX10_coefficients 121 = .ok (.iconst 1, 1) := by decide +kernel
theorem dX10_coefficients_122 : decode cX10_coefficients 122 = .ok (.goto 4, 3) := by decide +kernel
theorem dX10_coefficients_125 : decode cX10_coefficients 125 = .ok (.iconst 0, 1) := by decide +kernel
theorem dX10_coefficients_126 : decode cX10_coefficients 126 = .ok (.istore_n 2, 1) := by decide +kernel
theorem dX10_coefficients_127 : decode cX10_coefficients 127 = .ok (.iload_n 2, 1) := by decide +kernel
theorem dX10_coefficients_128 : decode cX10_coefficients 128 = .ok (.ifCond .eq (-119), 3) := by decide +kernel
theorem dX10_coefficients_131 : decode cX10_coefficients 131 = .ok (.iload_n 1, 1) := by decide +kernel
theorem dX10_coefficients_132 : decode cX10_coefficients 132 = .ok (.bipush 7, 2) := by decide +kernel
theorem dX10_coefficients_134 : decode cX10_coefficients 134 = .ok (.if_icmp .eq 12, 3) := by decide +kernel
theorem dX10_coefficients_137 : decode cX10_coefficients 137 = .ok (.aload_n 0, 1) := by decide +kernel
theorem dX10_coefficients_138 : decode cX10_coefficients 138 = .ok (.bipush 44, 2) := by decide +kernel
theorem dX10_coefficients_140 : decode cX10_coefficients 140 = .ok (.invokevirtual 193, 3) := by decide +kernel
theorem dX10_coefficients_143 : decode cX10_coefficients 143 = .ok (.ifCond .ne (-134), 3) := by decide +kernel
theorem dX10_coefficients_146 : decode cX10_coefficients 146 = .ok (.bipush (-5), 2) := by decide +kernel
theorem dX10_coefficients_148 : decode cX10_coefficients 148 = .ok (.ireturn, 1) := by decide +kernel
theorem dX10_coefficients_149 : decode cX10_coefficients 149 = .ok (.iload_n 1, 1) := by decide +kernel
theorem dX10_coefficients_150 : decode cX10_coefficients 150 = .ok (.ireturn, 1) := by decide +kernel
theorem dX10_joinsProduct_0 : decode cX10_joinsProduct 0 = .ok (.iload_n 2, 1) := by decide +kernel
theorem dX10_joinsProduct_1 : decode cX10_joinsProduct 1 = .ok (.ifCond .ne 4, 3) := by decide +kernel
theorem dX10_joinsProduct_4 : decode cX10_joinsProduct 4 = .ok (.return_, 1) := by decide +kernel
theorem dX10_joinsProduct_5 : decode cX10_joinsProduct 5 = .ok (.bipush 26, 2) := by decide +kernel
theorem dX10_joinsProduct_7 : decode cX10_joinsProduct 7 = .ok (.iload_n 1, 1) := by decide +kernel
theorem dX10_joinsProduct_8 : decode cX10_joinsProduct 8 = .ok (.iadd, 1) := by decide +kernel
theorem dX10_joinsProduct_9 : decode cX10_joinsProduct 9 = .ok (.istore_n 3, 1) := by decide +kernel
theorem dX10_joinsProduct_10 : decode cX10_joinsProduct 10 = .ok (.aload_n 0, 1) := by decide +kernel
theorem dX10_joinsProduct_11 : decode cX10_joinsProduct 11 = .ok (.getfield 38, 3) := by decide +kernel
theorem dX10_joinsProduct_14 : decode cX10_joinsProduct 14 = .ok (.iload_n 1, 1) := by decide +kernel
theorem dX10_joinsProduct_15 : decode cX10_joinsProduct 15 = .ok (.iaload, 1) := by decide +kernel
theorem dX10_joinsProduct_16 : decode cX10_joinsProduct 16 = .ok (.ifCond .ne 13, 3) := by decide +kernel
theorem dX10_joinsProduct_19 : decode cX10_joinsProduct 19 = .ok (.aload_n 0, 1) := by decide +kernel
theorem dX10_joinsProduct_20 : decode cX10_joinsProduct 20 = .ok (.bipush 32, 2) := by decide +kernel
theorem dX10_joinsProduct_22 : decode cX10_joinsProduct 22 = .ok (.iload_n 3, 1) := by decide +kernel
theorem dX10_joinsProduct_23 : decode cX10_joinsProduct 23 = .ok (.invokevirtual 77, 3) := by decide +kernel
theorem dX10_joinsProduct_26 : decode cX10_joinsProduct 26 = .ok (.goto 40, 3) := by decide +kernel
theorem dX10_joinsProduct_29 : decode cX10_joinsProduct 29 = .ok (.aload_n 0, 1) := by decide +kernel
theorem dX10_joinsProduct_30 : decode cX10_joinsProduct 30 = .ok (.getfield 38, 3) := by decide +kernel
theorem dX10_joinsProduct_33 : decode cX10_joinsProduct 33 = .ok (.iload_n 1, 1) := by decide +kernel
theorem dX10_joinsProduct_34 : decode cX10_joinsProduct 34 = .ok (.iaload, 1) := by decide +kernel
theorem dX10_joinsProduct_35 : decode cX10_joinsProduct 35 = .ok (.bipush 42, 2) := by decide +kernel
theorem dX10_joinsProduct_37 : decode cX10_joinsProduct 37 = .ok (.if_icmp .ne 21, 3) := by decide +kernel
theorem dX10_joinsProduct_40 : decode cX10_joinsProduct 40 = .ok (.aload_n 0, 1) := by decide +kernel
theorem dX10_joinsProduct_41 : decode cX10_joinsProduct 41 = .ok (.iload_n 3, 1) := by decide +kernel
theorem dX10_joinsProduct_42 : decode cX10_joinsProduct 42 = .ok (.bipush 32, 2) := by decide +kernel
theorem dX10_joinsProduct_44 : decode cX10_joinsProduct 44 = .ok (.iload_n 3, 1) := by decide +kernel
theorem dX10_joinsProduct_45 : decode cX10_joinsProduct 45 = .ok (.invokevirtual 90, 3) := by decide +kernel
theorem dX10_joinsProduct_48 : decode cX10_joinsProduct 48 = .ok (.aload_n 0, 1) := by decide +kernel
theorem dX10_joinsProduct_49 : decode cX10_joinsProduct 49 = .ok (.iload_n 3, 1) := by decide +kernel
theorem dX10_joinsProduct_50 : decode cX10_joinsProduct 50 = .ok (.iconst 0, 1) := by decide +kernel
theorem dX10_joinsProduct_51 : decode cX10_joinsProduct 51 = .ok (.iconst (-1), 1) := by decide +kernel
theorem dX10_joinsProduct_52 : decode cX10_joinsProduct 52 = .ok (.invokevirtual 81, 3) := by decide +kernel
theorem dX10_joinsProduct_55 : decode cX10_joinsProduct 55 = .ok (.goto 11, 3) := by decide +kernel
theorem dX10_joinsProduct_58 : decode cX10_joinsProduct 58 = .ok (.aload_n 0, 1) := by decide +kernel
theorem dX10_joinsProduct_59 : decode cX10_joinsProduct 59 = .ok (.iload_n 3, 1) := by decide +kernel
theorem dX10_joinsProduct_60 : decode cX10_joinsProduct 60 = .ok (.bipush 32, 2) := by decide +kernel
theorem dX10_joinsProduct_62 : decode cX10_joinsProduct 62 = .ok (.iload_n 3, 1) := by decide +kernel
theorem dX10_joinsProduct_63 : decode cX10_joinsProduct 63 = .ok (.invokevirtual 196, 3) := by decide +kernel
theorem dX10_joinsProduct_66 : decode cX10_joinsProduct 66 = .ok (.return_, 1) := by decide +kernel
theorem dX10_joinsSum_0 : decode cX10_joinsSum 0 = .ok (.iload_n 2, 1) := by decide +kernel
theorem dX10_joinsSum_1 : decode cX10_joinsSum 1 = .ok (.ifCond .ne 4, 3) := by decide +kernel
theorem dX10_joinsSum_4 : decode cX10_joinsSum 4 = .ok (.return_, 1) := by decide +kernel
theorem dX10_joinsSum_5 : decode cX10_joinsSum 5 = .ok (.aload_n 0, 1) := by decide +kernel
theorem dX10_joinsSum_6 : decode cX10_joinsSum 6 = .ok (.getfield 35, 3) := by decide +kernel
theorem dX10_joinsSum_9 : decode cX10_joinsSum 9 = .ok (.iload_n 1, 1) := by decide +kernel
theorem dX10_joinsSum_10 : decode cX10_joinsSum 10 = .ok (.iaload, 1) := by decide +kernel
theorem dX10_joinsSum_11 : decode cX10_joinsSum 11 = .ok (.ifCond .ne 18, 3) := by decide +kernel
theorem dX10_joinsSum_14 : decode cX10_joinsSum 14 = .ok (.aload_n 0, 1) := by decide +kernel
theorem dX10_joinsSum_15 : decode cX10_joinsSum 15 = .ok (.bipush 26, 2) := by decide +kernel
theorem dX10_joinsSum_17 : decode cX10_joinsSum 17 = .ok (.iload_n 1, 1) := by decide +kernel
theorem dX10_joinsSum_18 : decode cX10_joinsSum 18 = .ok (.iadd, 1) := by decide +kernel
theorem dX10_joinsSum_19 : decode cX10_joinsSum 19 = .ok (.bipush 20, 2) := by decide +kernel
theorem dX10_joinsSum_21 : decode cX10_joinsSum 21 = .ok (.iload_n 1, 1) := by decide +kernel
theorem dX10_joinsSum_22 : decode cX10_joinsSum 22 = .ok (.iadd, 1) := by decide +kernel
theorem dX10_joinsSum_23 : decode cX10_joinsSum 23 = .ok (.invokevirtual 77, 3) := by decide +kernel
theorem dX10_joinsSum_26 : decode cX10_joinsSum 26 = .ok (.goto 38, 3) := by decide +kernel
theorem dX10_joinsSum_29 : decode cX10_joinsSum 29 = .ok (.aload_n 0, 1) := by decide +kernel
theorem dX10_joinsSum_30 : decode cX10_joinsSum 30 = .ok (.bipush 26, 2) := by decide +kernel
theorem dX10_joinsSum_32 : decode cX10_joinsSum 32 = .ok (.iload_n 1, 1) := by decide +kernel
theorem dX10_joinsSum_33 : decode cX10_joinsSum 33 = .ok (.iadd, 1) := by decide +kernel
theorem dX10_joinsSum_34 : decode cX10_joinsSum 34 = .ok (.bipush 20, 2) := by decide +kernel
theorem dX10_joinsSum_36 : decode cX10_joinsSum 36 = .ok (.iload_n 1, 1) := by decide +kernel
theorem dX10_joinsSum_37 : decode cX10_joinsSum 37 = .ok (.iadd, 1) := by decide +kernel
theorem dX10_joinsSum_38 : decode cX10_joinsSum 38 = .ok (.aload_n 0, 1) := by decide +kernel
theorem dX10_joinsSum_39 : decode cX10_joinsSum 39 = .ok (.getfield 35, 3) := by decide +kernel
theorem dX10_joinsSum_42 : decode cX10_joinsSum 42 = .ok (.iload_n 1, 1) := by decide +kernel
theorem dX10_joinsSum_43 : decode cX10_joinsSum 43 = .ok (.iaload, 1) := by decide +kernel
theorem dX10_joinsSum_44 : decode cX10_joinsSum 44 = .ok (.bipush 43, 2) := by decide +kernel
theorem dX10_joinsSum_46 : decode cX10_joinsSum 46 = .ok (.if_icmp .ne 7, 3) := by decide +kernel
theorem dX10_joinsSum_49 : decode cX10_joinsSum 49 = .ok (.iconst 1, 1) := by decide +kernel
theorem dX10_joinsSum_50 : decode cX10_joinsSum 50 = .ok (.goto 11, 3) := by decide +kernel
theorem dX10_joinsSum_53 : decode cX10_joinsSum 53 = .ok (.aload_n 0, 1) := by decide +kernel
theorem dX10_joinsSum_54 : decode cX10_joinsSum 54 = .ok (.getfield 7, 3) := by decide +kernel
theorem dX10_joinsSum_57 : decode cX10_joinsSum 57 = .ok (.iconst 0, 1) := by decide +kernel
theorem dX10_joinsSum_58 : decode cX10_joinsSum 58 = .ok (.iaload, 1) := by decide +kernel
theorem dX10_joinsSum_59 : decode cX10_joinsSum 59 = .ok (.iconst 1, 1) := by decide +kernel
theorem dX10_joinsSum_60 : decode cX10_joinsSum 60 = .ok (.isub, 1) := by decide +kernel
theorem dX10_joinsSum_61 : decode cX10_joinsSum 61 = .ok (.invokevirtual 93, 3) := by decide +kernel
theorem dX10_joinsSum_64 : decode cX10_joinsSum 64 = .ok (.return_, 1) := by decide +kernel
theorem dX10_takesSimple_0 : decode cX10_takesSimple 0 = .ok (.aload_n 0, 1) := by decide +kernel
theorem dX10_takesSimple_1 : decode cX10_takesSimple 1 = .ok (.bipush 97, 2) := by decide +kernel
theorem dX10_takesSimple_3 : decode cX10_takesSimple 3 = .ok (.bipush 102, 2) := by decide +kernel
theorem dX10_takesSimple_5 : decode cX10_takesSimple 5 = .ok (.invokevirtual 190, 3) := by decide +kernel
theorem dX10_takesSimple_8 : decode cX10_takesSimple 8 = .ok (.ifCond .eq 24, 3) := by decide +kernel
theorem dX10_takesSimple_11 : decode cX10_takesSimple 11 = .ok (.aload_n 0, 1) := by decide +kernel
theorem dX10_takesSimple_12 : decode cX10_takesSimple 12 = .ok (.aload_n 0, 1) := by decide +kernel
theorem dX10_takesSimple_13 : decode cX10_takesSimple 13 = .ok (.getfield 28, 3) := by decide +kernel
theorem dX10_takesSimple_16 : decode cX10_takesSimple 16 = .ok (.aload_n 0, 1) := by decide +kernel
theorem dX10_takesSimple_17 : decode cX10_takesSimple 17 = .ok (.getfield 138, 3) := by decide +kernel
theorem dX10_takesSimple_20 : decode cX10_takesSimple 20 = .ok (.caload, 1) := by decide +kernel
theorem dX10_takesSimple_21 : decode cX10_takesSimple 21 = .ok (.bipush 97, 2) := by decide +kernel
theorem dX10_takesSimple_23 : decode cX10_takesSimple 23 = .ok (.isub, 1) := by decide +kernel
theorem dX10_takesSimple_24 : decode cX10_takesSimple 24 = .ok (.bipush 32, 2) := by decide +kernel
theorem dX10_takesSimple_26 : decode cX10_takesSimple 26 = .ok (.invokevirtual 144, 3) := by decide +kernel
theorem dX10_takesSimple_29 : decode cX10_takesSimple 29 = .ok (.goto 65, 3) := by decide +kernel
theorem dX10_takesSimple_32 : decode cX10_takesSimple 32 = .ok (.aload_n 0, 1) := by decide +kernel
theorem dX10_takesSimple_33 : decode cX10_takesSimple 33 = .ok (.bipush 120, 2) := by decide +kernel
theorem dX10_takesSimple_35 : decode cX10_takesSimple 35 = .ok (.bipush 120, 2) := by decide +kernel
theorem dX10_takesSimple_37 : decode cX10_takesSimple 37 = .ok (.invokevirtual 190, 3) := by decide +kernel
theorem dX10_takesSimple_40 : decode cX10_takesSimple 40 = .ok (.ifCond .eq 20, 3) := by decide +kernel
theorem dX10_takesSimple_43 : decode cX10_takesSimple 43 = .ok (.aload_n 0, 1) := by decide +kernel
theorem dX10_takesSimple_44 : decode cX10_takesSimple 44 = .ok (.bipush 32, 2) := by decide +kernel
theorem dX10_takesSimple_46 : decode cX10_takesSimple 46 = .ok (.invokevirtual 63, 3) := by decide +kernel
theorem dX10_takesSimple_49 : decode cX10_takesSimple 49 = .ok (.aload_n 0, 1) := by decide +kernel
theorem dX10_takesSimple_50 : decode cX10_takesSimple 50 = .ok (.bipush 32, 2) := by decide +kernel
theorem dX10_takesSimple_52 : decode cX10_takesSimple 52 = .ok (.iconst 1, 1) := by decide +kernel
theorem dX10_takesSimple_53 : decode cX10_takesSimple 53 = .ok (.iconst 1, 1) := by decide +kernel
theorem dX10_takesSimple_54 : decode cX10_takesSimple 54 = .ok (.invokevirtual 59, 3) := by decide +kernel
theorem dX10_takesSimple_57 : decode cX10_takesSimple 57 = .ok (.goto 37, 3) := by decide +kernel
theorem dX10_takesSimple_60 : decode cX10_takesSimple 60 = .ok (.aload_n 0, 1) := by decide +kernel
theorem dX10_takesSimple_61 : decode cX10_takesSimple 61 = .ok (.bipush 48, 2) := by decide +kernel
theorem dX10_takesSimple_63 : decode cX10_takesSimple 63 = .ok (.bipush 57, 2) := by decide +kernel
theorem dX10_takesSimple_65 : decode cX10_takesSimple 65 = .ok (.invokevirtual 190, 3) := by decide +kernel
theorem dX10_takesSimple_68 : decode cX10_takesSimple 68 = .ok (.ifCond .eq 24, 3) := by decide +kernel
theorem dX10_takesSimple_71 : decode cX10_takesSimple 71 = .ok (.aload_n 0, 1) := by decide +kernel
theorem dX10_takesSimple_72 : decode cX10_takesSimple 72 = .ok (.bipush 32, 2) := by decide +kernel
theorem dX10_takesSimple_74 : decode cX10_takesSimple 74 = .ok (.aload_n 0, 1) := by decide +kernel
theorem dX10_takesSimple_75 : decode cX10_takesSimple 75 = .ok (.getfield 28, 3) := by decide +kernel
theorem dX10_takesSimple_78 : decode cX10_takesSimple 78 = .ok (.aload_n 0, 1) := by decide +kernel
theorem dX10_takesSimple_79 : decode cX10_takesSimple 79 = .ok (.getfield 138, 3) := by decide +kernel
theorem dX10_takesSimple_82 : decode cX10_takesSimple 82 = .ok (.caload, 1) := by decide +kernel
theorem dX10_takesSimple_83 : decode cX10_takesSimple 83 = .ok (.bipush 48, 2) := by decide +kernel
theorem dX10_takesSimple_85 : decode cX10_takesSimple 85 = .ok (.isub, 1) := by decide +kernel
theorem dX10_takesSimple_86 : decode cX10_takesSimple 86 = .ok (.invokevirtual 87, 3) := by decide +kernel
theorem dX10_takesSimple_89 : decode cX10_takesSimple 89 = .ok (.goto 5, 3) := by decide +kernel
theorem dX10_takesSimple_92 : decode cX10_takesSimple 92 = .ok (.iconst 0, 1) := by decide +kernel
theorem dX10_takesSimple_93 : decode cX10_takesSimple 93 = .ok (.ireturn, 1) := by decide +kernel
theorem dX10_takesSimple_94 : decode cX10_takesSimple 94 = .ok (.aload_n 0, 1) := by decide +kernel
theorem dX10_takesSimple_95 : decode cX10_takesSimple 95 = .ok (.dup, 1) := by decide +kernel
theorem dX10_takesSimple_96 : decode cX10_takesSimple 96 = .ok (.getfield 138, 3) := by decide +kernel
theorem dX10_takesSimple_99 : decode cX10_takesSimple 99 = .ok (.iconst 1, 1) := by decide +kernel
theorem dX10_takesSimple_100 : decode cX10_takesSimple 100 = .ok (.iadd, 1) := by decide +kernel
theorem dX10_takesSimple_101 : decode cX10_takesSimple 101 = .ok (.putfield 138, 3) := by decide +kernel
theorem dX10_takesSimple_104 : decode cX10_takesSimple 104 = .ok (.iload_n 1, 1) := by decide +kernel
theorem dX10_takesSimple_105 : decode cX10_takesSimple 105 = .ok (.ifCond .eq 11, 3) := by decide +kernel
theorem dX10_takesSimple_108 : decode cX10_takesSimple 108 = .ok (.aload_n 0, 1) := by decide +kernel
theorem dX10_takesSimple_109 : decode cX10_takesSimple 109 = .ok (.bipush 32, 2) := by decide +kernel
theorem dX10_takesSimple_111 : decode cX10_takesSimple 111 = .ok (.iconst 0, 1) := by decide +kernel
theorem dX10_takesSimple_112 : decode cX10_takesSimple 112 = .ok (.iconst (-1), 1) := by decide +kernel
theorem dX10_takesSimple_113 : decode cX10_takesSimple 113 = .ok (.invokevirtual 81, 3) := by decide +kernel
theorem dX10_takesSimple_116 : decode cX10_takesSimple 116 = .ok (.iconst 1, 1) := by decide +kernel
theorem dX10_takesSimple_117 : decode cX10_takesSimple 117 = .ok (.ireturn, 1) := by decide +kernel
theorem dX10_takesPower_0 : decode cX10_takesPower 0 = .ok (.aload_n 0, 1) := by decide +kernel
theorem dX10_takesPower_1 : decode cX10_takesPower 1 = .ok (.bipush 94, 2) := by decide +kernel
theorem dX10_takesPower_3 : decode cX10_takesPower 3 = .ok (.invokevirtual 193, 3) := by decide +kernel
theorem dX10_takesPower_6 : decode cX10_takesPower 6 = .ok (.ifCond .ne 5, 3) := by decide +kernel
theorem dX10_takesPower_9 : decode cX10_takesPower 9 = .ok (.iconst 1, 1) := by decide +kernel
theorem dX10_takesPower_10 : decode cX10_takesPower 10 = .ok (.ireturn, 1) := by decide +kernel
theorem dX10_takesPower_11 : decode cX10_takesPower 11 = .ok (.aload_n 0, 1) := by decide +kernel
theorem dX10_takesPower_12 : decode cX10_takesPower 12 = .ok (.bipush 48, 2) := by decide +kernel
theorem dX10_takesPower_14 : decode cX10_takesPower 14 = .ok (.bipush 57, 2) := by decide +kernel
theorem dX10_takesPower_16 : decode cX10_takesPower 16 = .ok (.invokevirtual 190, 3) := by decide +kernel
theorem dX10_takesPower_19 : decode cX10_takesPower 19 = .ok (.ifCond .ne 5, 3) := by decide +kernel
theorem dX10_takesPower_22 : decode cX10_takesPower 22 = .ok (.iconst 0, 1) := by decide +kernel
theorem dX10_takesPower_23 : decode cX10_takesPower 23 = .ok (.ireturn, 1) := by decide +kernel
theorem dX10_takesPower_24 : decode cX10_takesPower 24 = .ok (.iload_n 1, 1) := by decide +kernel
theorem dX10_takesPower_25 : decode cX10_takesPower 25 = .ok (.ifCond .eq 24, 3) := by decide +kernel
theorem dX10_takesPower_28 : decode cX10_takesPower 28 = .ok (.aload_n 0, 1) := by decide +kernel
theorem dX10_takesPower_29 : decode cX10_takesPower 29 = .ok (.bipush 32, 2) := by decide +kernel
theorem dX10_takesPower_31 : decode cX10_takesPower 31 = .ok (.aload_n 0, 1) := by decide +kernel
theorem dX10_takesPower_32 : decode cX10_takesPower 32 = .ok (.getfield 28, 3) := by decide +kernel
theorem dX10_takesPower_35 : decode cX10_takesPower 35 = .ok (.aload_n 0, 1) := by decide +kernel
theorem dX10_takesPower_36 : decode cX10_takesPower 36 = .ok (.getfield 138, 3) := by decide +kernel
theorem dX10_takesPower_39 : decode cX10_takesPower 39 = .ok (.caload, 1) := by decide +kernel
theorem dX10_takesPower_40 : decode cX10_takesPower 40 = .ok (.bipush 48, 2) := by decide +kernel
theorem dX10_takesPower_42 : decode cX10_takesPower 42 = .ok (.isub, 1) := by decide +kernel
theorem dX10_takesPower_43 : decode cX10_takesPower 43 = .ok (.iconst 0, 1) := by decide +kernel
theorem dX10_takesPower_44 : decode cX10_takesPower 44 = .ok (.bipush 32, 2) := by decide +kernel
theorem dX10_takesPower_46 : decode cX10_takesPower 46 = .ok (.invokevirtual 174, 3) := by decide +kernel
theorem dX10_takesPower_49 : decode cX10_takesPower 49 = .ok (.aload_n 0, 1) := by decide +kernel
theorem dX10_takesPower_50 : decode cX10_takesPower 50 = .ok (.dup, 1) := by decide +kernel
theorem dX10_takesPower_51 : decode cX10_takesPower 51 = .ok (.getfield 138, 3) := by decide +kernel
theorem dX10_takesPower_54 : decode cX10_takesPower 54 = .ok (.iconst 1, 1) := by decide +kernel
theorem dX10_takesPower_55 : decode cX10_takesPower 55 = .ok (.iadd, 1) := by decide +kernel
theorem dX10_takesPower_56 : decode cX10_takesPower 56 = .ok (.putfield 138, 3) := by decide +kernel
theorem dX10_takesPower_59 : decode cX10_takesPower 59 = .ok (.iconst 1, 1) := by decide +kernel
theorem dX10_takesPower_60 : decode cX10_takesPower 60 = .ok (.ireturn, 1) := by decide +kernel
theorem dX10_goesAlong_0 : decode cX10_goesAlong 0 = .ok (.aload_n 0, 1) := by decide +kernel
theorem dX10_goesAlong_1 : decode cX10_goesAlong 1 = .ok (.iconst 0, 1) := by decide +kernel
theorem dX10_goesAlong_2 : decode cX10_goesAlong 2 = .ok (.putfield 138, 3) := by decide +kernel
theorem dX10_goesAlong_5 : decode cX10_goesAlong 5 = .ok (.aload_n 0, 1) := by decide +kernel
theorem dX10_goesAlong_6 : decode cX10_goesAlong 6 = .ok (.bipush 97, 2) := by decide +kernel
theorem dX10_goesAlong_8 : decode cX10_goesAlong 8 = .ok (.bipush 102, 2) := by decide +kernel
theorem dX10_goesAlong_10 : decode cX10_goesAlong 10 = .ok (.invokevirtual 190, 3) := by decide +kernel
theorem dX10_goesAlong_13 : decode cX10_goesAlong 13 = .ok (.ifCond .ne 5, 3) := by decide +kernel
theorem dX10_goesAlong_16 : decode cX10_goesAlong 16 = .ok (.iconst 0, 1) := by decide +kernel
theorem dX10_goesAlong_17 : decode cX10_goesAlong 17 = .ok (.ireturn, 1) := by decide +kernel
theorem dX10_goesAlong_18 : decode cX10_goesAlong 18 = .ok (.aload_n 0, 1) := by decide +kernel
theorem dX10_goesAlong_19 : decode cX10_goesAlong 19 = .ok (.dup, 1) := by decide +kernel
theorem dX10_goesAlong_20 : decode cX10_goesAlong 20 = .ok (.getfield 138, 3) := by decide +kernel
theorem dX10_goesAlong_23 : decode cX10_goesAlong 23 = .ok (.iconst 1, 1) := by decide +kernel
theorem dX10_goesAlong_24 : decode cX10_goesAlong 24 = .ok (.iadd, 1) := by decide +kernel
theorem dX10_goesAlong_25 : decode cX10_goesAlong 25 = .ok (.putfield 138, 3) := by decide +kernel
theorem dX10_goesAlong_28 : decode cX10_goesAlong 28 = .ok (.aload_n 0, 1) := by decide +kernel
theorem dX10_goesAlong_29 : decode cX10_goesAlong 29 = .ok (.bipush 61, 2) := by decide +kernel
theorem dX10_goesAlong_31 : decode cX10_goesAlong 31 = .ok (.invokevirtual 193, 3) := by decide +kernel
theorem dX10_goesAlong_34 : decode cX10_goesAlong 34 = .ok (.ifCond .ne 5, 3) := by decide +kernel
theorem dX10_goesAlong_37 : decode cX10_goesAlong 37 = .ok (.iconst 0, 1) := by decide +kernel
theorem dX10_goesAlong_38 : decode cX10_goesAlong 38 = .ok (.ireturn, 1) := by decide +kernel
theorem dX10_goesAlong_39 : decode cX10_goesAlong 39 = .ok (.iconst 0, 1) := by decide +kernel
theorem dX10_goesAlong_40 : decode cX10_goesAlong 40 = .ok (.istore_n 2, 1) := by decide +kernel
theorem dX10_goesAlong_41 : decode cX10_goesAlong 41 = .ok (.aload_n 0, 1) := by decide +kernel
theorem dX10_goesAlong_42 : decode cX10_goesAlong 42 = .ok (.getfield 35, 3) := by decide +kernel
theorem dX10_goesAlong_45 : decode cX10_goesAlong 45 = .ok (.iconst 0, 1) := by decide +kernel
theorem dX10_goesAlong_46 : decode cX10_goesAlong 46 = .ok (.iconst 0, 1) := by decide +kernel
theorem dX10_goesAlong_47 : decode cX10_goesAlong 47 = .ok (.iastore, 1) := by decide +kernel
theorem dX10_goesAlong_48 : decode cX10_goesAlong 48 = .ok (.aload_n 0, 1) := by decide +kernel
theorem dX10_goesAlong_49 : decode cX10_goesAlong 49 = .ok (.getfield 38, 3) := by decide +kernel
theorem dX10_goesAlong_52 : decode cX10_goesAlong 52 = .ok (.iconst 0, 1) := by decide +kernel
theorem dX10_goesAlong_53 : decode cX10_goesAlong 53 = .ok (.iconst 0, 1) := by decide +kernel
theorem dX10_goesAlong_54 : decode cX10_goesAlong 54 = .ok (.iastore, 1) := by decide +kernel
theorem dX10_goesAlong_55 : decode cX10_goesAlong 55 = .ok (.iload_n 2, 1) := by decide +kernel
theorem dX10_goesAlong_56 : decode cX10_goesAlong 56 = .ok (.iconst 5, 1) := by decide +kernel
theorem dX10_goesAlong_57 : decode cX10_goesAlong 57 = .ok (.if_icmp .ge 32, 3) := by decide +kernel
theorem dX10_goesAlong_60 : decode cX10_goesAlong 60 = .ok (.aload_n 0, 1) := by decide +kernel
theorem dX10_goesAlong_61 : decode cX10_goesAlong 61 = .ok (.bipush 40, 2) := by decide +kernel
theorem dX10_goesAlong_63 : decode cX10_goesAlong 63 = .ok (.invokevirtual 193, 3) := by decide +kernel
theorem dX10_goesAlong_66 : decode cX10_goesAlong 66 = .ok (.ifCond .eq 23, 3) := by decide +kernel
theorem dX10_goesAlong_69 : decode cX10_goesAlong 69 = .ok (.iinc 2 1, 3) := by decide +kernel
theorem dX10_goesAlong_72 : decode cX10_goesAlong 72 = .ok (.aload_n 0, 1) := by decide +kernel
theorem dX10_goesAlong_73 : decode cX10_goesAlong 73 = .ok (.getfield 35, 3) := by decide +kernel
theorem dX10_goesAlong_76 : decode cX10_goesAlong 76 = .ok (.iload_n 2, 1) := by decide +kernel
theorem dX10_goesAlong_77 : decode cX10_goesAlong 77 = .ok (.iconst 0, 1) := by decide +kernel
theorem dX10_goesAlong_78 : decode cX10_goesAlong 78 = .ok (.iastore, 1) := by decide +kernel
theorem dX10_goesAlong_79 : decode cX10_goesAlong 79 = .ok (.aload_n 0, 1) := by decide +kernel
theorem dX10_goesAlong_80 : decode cX10_goesAlong 80 = .ok (.getfield 38, 3) := by decide +kernel
theorem dX10_goesAlong_83 : decode cX10_goesAlong 83 = .ok (.iload_n 2, 1) := by decide +kernel
theorem dX10_goesAlong_84 : decode cX10_goesAlong 84 = .ok (.iconst 0, 1) := by decide +kernel
theorem dX10_goesAlong_85 : decode cX10_goesAlong 85 = .ok (.iastore, 1) := by decide +kernel
theorem dX10_goesAlong_86 : decode cX10_goesAlong 86 = .ok (.goto (-31), 3) := by decide +kernel
theorem dX10_goesAlong_89 : decode cX10_goesAlong 89 = .ok (.aload_n 0, 1) := by decide +kernel
theorem dX10_goesAlong_90 : decode cX10_goesAlong 90 = .ok (.iload_n 1, 1) := by decide +kernel
theorem dX10_goesAlong_91 : decode cX10_goesAlong 91 = .ok (.invokevirtual 199, 3) := by decide +kernel
theorem dX10_goesAlong_94 : decode cX10_goesAlong 94 = .ok (.ifCond .eq 11, 3) := by decide +kernel
theorem dX10_goesAlong_97 : decode cX10_goesAlong 97 = .ok (.aload_n 0, 1) := by decide +kernel
theorem dX10_goesAlong_98 : decode cX10_goesAlong 98 = .ok (.iload_n 1, 1) := by decide +kernel
theorem dX10_goesAlong_99 : decode cX10_goesAlong 99 = .ok (.invokevirtual 203, 3) := by decide +kernel
theorem dX10_goesAlong_102 : decode cX10_goesAlong 102 = .ok (.ifCond .ne 5, 3) := by decide +kernel
theorem dX10_goesAlong_105 : decode cX10_goesAlong 105 = .ok (.iconst 0, 1) := by decide +kernel
theorem dX10_goesAlong_106 : decode cX10_goesAlong 106 = .ok (.ireturn, 1) := by decide +kernel
theorem dX10_goesAlong_107 : decode cX10_goesAlong 107 = .ok (.aload_n 0, 1) := by decide +kernel
theorem dX10_goesAlong_108 : decode cX10_goesAlong 108 = .ok (.iload_n 2, 1) := by decide +kernel
theorem dX10_goesAlong_109 : decode cX10_goesAlong 109 = .ok (.iload_n 1, 1) := by decide +kernel
theorem dX10_goesAlong_110 : decode cX10_goesAlong 110 = .ok (.invokevirtual 206, 3) := by decide +kernel
theorem dX10_goesAlong_113 : decode cX10_goesAlong 113 = .ok (.iload_n 2, 1) := by decide +kernel
theorem dX10_goesAlong_114 : decode cX10_goesAlong 114 = .ok (.ifCond .le 50, 3) := by decide +kernel
theorem dX10_goesAlong_117 : decode cX10_goesAlong 117 = .ok (.aload_n 0, 1) := by decide +kernel
theorem dX10_goesAlong_118 : decode cX10_goesAlong 118 = .ok (.bipush 41, 2) := by decide +kernel
theorem dX10_goesAlong_120 : decode cX10_goesAlong 120 = .ok (.invokevirtual 193, 3) := by decide +kernel
theorem dX10_goesAlong_123 : decode cX10_goesAlong 123 = .ok (.ifCond .eq 41, 3) := by decide +kernel
theorem dX10_goesAlong_126 : decode cX10_goesAlong 126 = .ok (.aload_n 0, 1) := by decide +kernel
theorem dX10_goesAlong_127 : decode cX10_goesAlong 127 = .ok (.iload_n 2, 1) := by decide +kernel
theorem dX10_goesAlong_128 : decode cX10_goesAlong 128 = .ok (.iload_n 1, 1) := by decide +kernel
theorem dX10_goesAlong_129 : decode cX10_goesAlong 129 = .ok (.invokevirtual 210, 3) := by decide +kernel
theorem dX10_goesAlong_132 : decode cX10_goesAlong 132 = .ok (.aload_n 0, 1) := by decide +kernel
theorem dX10_goesAlong_133 : decode cX10_goesAlong 133 = .ok (.bipush 20, 2) := by decide +kernel
theorem dX10_goesAlong_135 : decode cX10_goesAlong 135 = .ok (.iload_n 2, 1) := by decide +kernel
theorem dX10_goesAlong_136 : decode cX10_goesAlong 136 = .ok (.iadd, 1) := by decide +kernel
theorem dX10_goesAlong_137 : decode cX10_goesAlong 137 = .ok (.bipush 32, 2) := by decide +kernel
theorem dX10_goesAlong_139 : decode cX10_goesAlong 139 = .ok (.invokevirtual 77, 3) := by decide +kernel
theorem dX10_goesAlong_142 : decode cX10_goesAlong 142 = .ok (.iinc 2 (-1), 3) := by decide +kernel
theorem dX10_goesAlong_145 : decode cX10_goesAlong 145 = .ok (.aload_n 0, 1) := by decide +kernel
theorem dX10_goesAlong_146 : decode cX10_goesAlong 146 = .ok (.iload_n 1, 1) := by decide +kernel
theorem dX10_goesAlong_147 : decode cX10_goesAlong 147 = .ok (.invokevirtual 203, 3) := by decide +kernel
theorem dX10_goesAlong_150 : decode cX10_goesAlong 150 = .ok (.ifCond .ne 5, 3) := by decide +kernel
theorem dX10_goesAlong_153 : decode cX10_goesAlong 153 = .ok (.iconst 0, 1) := by decide +kernel
theorem dX10_goesAlong_154 : decode cX10_goesAlong 154 = .ok (.ireturn, 1) := by decide +kernel
theorem dX10_goesAlong_155 : decode cX10_goesAlong 155 = .ok (.aload_n 0, 1) := by decide +kernel
theorem dX10_goesAlong_156 : decode cX10_goesAlong 156 = .ok (.iload_n 2, 1) := by decide +kernel
theorem dX10_goesAlong_157 : decode cX10_goesAlong 157 = .ok (.iload_n 1, 1) := by decide +kernel
theorem dX10_goesAlong_158 : decode cX10_goesAlong 158 = .ok (.invokevirtual 206, 3) := by decide +kernel
theorem dX10_goesAlong_161 : decode cX10_goesAlong 161 = .ok (.goto (-48), 3) := by decide +kernel
theorem dX10_goesAlong_164 : decode cX10_goesAlong 164 = .ok (.aload_n 0, 1) := by decide +kernel
theorem dX10_goesAlong_165 : decode cX10_goesAlong 165 = .ok (.getfield 138, 3) := by decide +kernel
theorem dX10_goesAlong_168 : decode cX10_goesAlong 168 = .ok (.aload_n 0, 1) := by decide +kernel
theorem dX10_goesAlong_169 : decode cX10_goesAlong 169 = .ok (.getfield 187, 3) := by decide +kernel
theorem dX10_goesAlong_172 : decode cX10_goesAlong 172 = .ok (.if_icmp .ne 31, 3) := by decide +kernel
theorem dX10_goesAlong_175 : decode cX10_goesAlong 175 = .ok (.aload_n 0, 1) := by decide +kernel
theorem dX10_goesAlong_176 : decode cX10_goesAlong 176 = .ok (.iconst 0, 1) := by decide +kernel
theorem dX10_goesAlong_177 : decode cX10_goesAlong 177 = .ok (.iload_n 1, 1) := by decide +kernel
theorem dX10_goesAlong_178 : decode cX10_goesAlong 178 = .ok (.ifCond .eq 11, 3) := by decide +kernel
theorem dX10_goesAlong_181 : decode cX10_goesAlong 181 = .ok (.iload_n 2, 1) := by decide +kernel
theorem dX10_goesAlong_182 : decode cX10_goesAlong 182 = .ok (.ifCond .ne 7, 3) := by decide +kernel
theorem dX10_goesAlong_185 : decode cX10_goesAlong 185 = .ok (.iconst 1, 1) := by decide +kernel
theorem dX10_goesAlong_186 : decode cX10_goesAlong 186 = .ok (.goto 4, 3) := by decide +kernel
theorem dX10_goesAlong_189 : decode cX10_goesAlong 189 = .ok (.iconst 0, 1) := by decide +kernel
theorem dX10_goesAlong_190 : decode cX10_goesAlong 190 = .ok (.invokevirtual 210, 3) := by decide +kernel
theorem dX10_goesAlong_193 : decode cX10_goesAlong 193 = .ok (.iload_n 2, 1) := by decide +kernel
theorem dX10_goesAlong_194 : decode cX10_goesAlong 194 = .ok (.ifCond .ne 7, 3) := by decide +kernel
theorem dX10_goesAlong_197 : decode cX10_goesAlong 197 = .ok (.iconst 1, 1) := by decide +kernel
theorem dX10_goesAlong_198 : decode cX10_goesAlong 198 = .ok (.goto 4, 3) := by decide +kernel
theorem dX10_goesAlong_201 : decode cX10_goesAlong 201 = .ok (.iconst 0, 1) := by decide +kernel
theorem dX10_goesAlong_202 : decode cX10_goesAlong 202 = .ok (.ireturn, 1) := by decide +kernel
theorem dX10_goesAlong_203 : decode cX10_goesAlong 203 = .ok (.aload_n 0, 1) := by decide +kernel
theorem dX10_goesAlong_204 : decode cX10_goesAlong 204 = .ok (.getfield 28, 3) := by decide +kernel
theorem dX10_goesAlong_207 : decode cX10_goesAlong 207 = .ok (.aload_n 0, 1) := by decide +kernel
theorem dX10_goesAlong_208 : decode cX10_goesAlong 208 = .ok (.getfield 138, 3) := by decide +kernel
theorem dX10_goesAlong_211 : decode cX10_goesAlong 211 = .ok (.caload, 1) := by decide +kernel
theorem dX10_goesAlong_212 : decode cX10_goesAlong 212 = .ok (.istore_n 3, 1) := by decide +kernel
theorem dX10_goesAlong_213 : decode cX10_goesAlong 213 = .ok (.iload_n 3, 1) := by decide +kernel
theorem dX10_goesAlong_214 : decode cX10_goesAlong 214 = .ok (.bipush 43, 2) := by decide +kernel
theorem dX10_goesAlong_216 : decode cX10_goesAlong 216 = .ok (.if_icmp .eq 9, 3) := by decide +kernel
theorem dX10_goesAlong_219 : decode cX10_goesAlong 219 = .ok (.iload_n 3, 1) := by decide +kernel
theorem dX10_goesAlong_220 : decode cX10_goesAlong 220 = .ok (.bipush 45, 2) := by decide +kernel
theorem dX10_goesAlong_222 : decode cX10_goesAlong 222 = .ok (.if_icmp .ne 26, 3) := by decide +kernel
theorem dX10_goesAlong_225 : decode cX10_goesAlong 225 = .ok (.aload_n 0, 1) := by decide +kernel
theorem dX10_goesAlong_226 : decode cX10_goesAlong 226 = .ok (.iload_n 2, 1) := by decide +kernel
theorem dX10_goesAlong_227 : decode cX10_goesAlong 227 = .ok (.iload_n 1, 1) := by decide +kernel
theorem dX10_goesAlong_228 : decode cX10_goesAlong 228 = .ok (.invokevirtual 210, 3) := by decide +kernel
theorem dX10_goesAlong_231 : decode cX10_goesAlong 231 = .ok (.aload_n 0, 1) := by decide +kernel
theorem dX10_goesAlong_232 : decode cX10_goesAlong 232 = .ok (.getfield 35, 3) := by decide +kernel
theorem dX10_goesAlong_235 : decode cX10_goesAlong 235 = .ok (.iload_n 2, 1) := by decide +kernel
theorem dX10_goesAlong_236 : decode cX10_goesAlong 236 = .ok (.iload_n 3, 1) := by decide +kernel
theorem dX10_goesAlong_237 : decode cX10_goesAlong 237 = .ok (.iastore, 1) := by decide +kernel
theorem dX10_goesAlong_238 : decode cX10_goesAlong 238 = .ok (.aload_n 0, 1) := by decide +kernel
theorem dX10_goesAlong_239 : decode cX10_goesAlong 239 = .ok (.getfield 38, 3) := by decide +kernel
theorem dX10_goesAlong_242 : decode cX10_goesAlong 242 = .ok (.iload_n 2, 1) := by decide +kernel
theorem dX10_goesAlong_243 : decode cX10_goesAlong 243 = .ok (.iconst 0, 1) := by decide +kernel
theorem dX10_goesAlong_244 : decode cX10_goesAlong 244 = .ok (.iastore, 1) := by decide +kernel
theorem dX10_goesAlong_245 : decode cX10_goesAlong 245 = .ok (.goto 27, 3) := by decide +kernel
theorem dX10_goesAlong_248 : decode cX10_goesAlong 248 = .ok (.iload_n 3, 1) := by decide +kernel
theorem dX10_goesAlong_249 : decode cX10_goesAlong 249 = .ok (.bipush 42, 2) := by decide +kernel
theorem dX10_goesAlong_251 : decode cX10_goesAlong 251 = .ok (.if_icmp .eq 9, 3) := by decide +kernel
theorem dX10_goesAlong_254 : decode cX10_goesAlong 254 = .ok (.iload_n 3, 1) := by decide +kernel
theorem dX10_goesAlong_255 : decode cX10_goesAlong 255 = .ok (.bipush 47, 2) := by decide +kernel
theorem dX10_goesAlong_257 : decode cX10_goesAlong 257 = .ok (.if_icmp .ne 13, 3) := by decide +kernel
theorem dX10_goesAlong_260 : decode cX10_goesAlong 260 = .ok (.aload_n 0, 1) := by decide +kernel
theorem dX10_goesAlong_261 : decode cX10_goesAlong 261 = .ok (.getfield 38, 3) := by decide +kernel
theorem dX10_goesAlong_264 : decode cX10_goesAlong 264 = .ok (.iload_n 2, 1) := by decide +kernel
theorem dX10_goesAlong_265 : decode cX10_goesAlong 265 = .ok (.iload_n 3, 1) := by decide +kernel
theorem dX10_goesAlong_266 : decode cX10_goesAlong 266 = .ok (.iastore, 1) := by decide +kernel
theorem dX10_goesAlong_267 : decode cX10_goesAlong 267 = .ok (.goto 5, 3) := by decide +kernel
theorem dX10_goesAlong_270 : decode cX10_goesAlong 270 = .ok (.iconst 0, 1) := by decide +kernel
theorem dX10_goesAlong_271 : decode cX10_goesAlong 271 = .ok (.ireturn, 1) := by decide +kernel
theorem dX10_goesAlong_272 : decode cX10_goesAlong 272 = .ok (.aload_n 0, 1) := by decide +kernel
theorem dX10_goesAlong_273 : decode cX10_goesAlong 273 = .ok (.dup, 1) := by decide +kernel
theorem dX10_goesAlong_274 : decode cX10_goesAlong 274 = .ok (.getfield 138, 3) := by decide +kernel
theorem dX10_goesAlong_277 : decode cX10_goesAlong 277 = .ok (.iconst 1, 1) := by decide +kernel
theorem dX10_goesAlong_278 : decode cX10_goesAlong 278 = .ok (.iadd, 1) := by decide +kernel
theorem dX10_goesAlong_279 : decode cX10_goesAlong 279 = .ok (.putfield 138, 3) := by decide +kernel
theorem dX10_goesAlong_282 : decode cX10_goesAlong 282 = .ok (.goto (-227), 3) := by decide +kernel
theorem dX10_assign_0 : decode cX10_assign 0 = .ok (.aload_n 0, 1) := by decide +kernel
theorem dX10_assign_1 : decode cX10_assign 1 = .ok (.iconst 0, 1) := by decide +kernel
theorem dX10_assign_2 : decode cX10_assign 2 = .ok (.invokevirtual 213, 3) := by decide +kernel
theorem dX10_assign_5 : decode cX10_assign 5 = .ok (.ifCond .ne 11, 3) := by decide +kernel
theorem dX10_assign_8 : decode cX10_assign 8 = .ok (.bipush (-100), 2) := by decide +kernel
theorem dX10_assign_10 : decode cX10_assign 10 = .ok (.aload_n 0, 1) := by decide +kernel
theorem dX10_assign_11 : decode cX10_assign 11 = .ok (.getfield 138, 3) := by decide +kernel
theorem dX10_assign_14 : decode cX10_assign 14 = .ok (.isub, 1) := by decide +kernel
theorem dX10_assign_15 : decode cX10_assign 15 = .ok (.ireturn, 1) := by decide +kernel
theorem dX10_assign_16 : decode cX10_assign 16 = .ok (.aload_n 0, 1) := by decide +kernel
theorem dX10_assign_17 : decode cX10_assign 17 = .ok (.invokevirtual 131, 3) := by decide +kernel
theorem dX10_assign_20 : decode cX10_assign 20 = .ok (.aload_n 0, 1) := by decide +kernel
theorem dX10_assign_21 : decode cX10_assign 21 = .ok (.invokevirtual 150, 3) := by decide +kernel
theorem dX10_assign_24 : decode cX10_assign 24 = .ok (.aload_n 0, 1) := by decide +kernel
theorem dX10_assign_25 : decode cX10_assign 25 = .ok (.iconst 1, 1) := by decide +kernel
theorem dX10_assign_26 : decode cX10_assign 26 = .ok (.invokevirtual 213, 3) := by decide +kernel
theorem dX10_assign_29 : decode cX10_assign 29 = .ok (.pop, 1) := by decide +kernel
theorem dX10_assign_30 : decode cX10_assign 30 = .ok (.aload_n 0, 1) := by decide +kernel
theorem dX10_assign_31 : decode cX10_assign 31 = .ok (.bipush 20, 2) := by decide +kernel
theorem dX10_assign_33 : decode cX10_assign 33 = .ok (.aload_n 0, 1) := by decide +kernel
theorem dX10_assign_34 : decode cX10_assign 34 = .ok (.getfield 28, 3) := by decide +kernel
theorem dX10_assign_37 : decode cX10_assign 37 = .ok (.iconst 0, 1) := by decide +kernel
theorem dX10_assign_38 : decode cX10_assign 38 = .ok (.caload, 1) := by decide +kernel
theorem dX10_assign_39 : decode cX10_assign 39 = .ok (.bipush 97, 2) := by decide +kernel
theorem dX10_assign_41 : decode cX10_assign 41 = .ok (.isub, 1) := by decide +kernel
theorem dX10_assign_42 : decode cX10_assign 42 = .ok (.invokevirtual 147, 3) := by decide +kernel
theorem dX10_assign_45 : decode cX10_assign 45 = .ok (.aload_n 0, 1) := by decide +kernel
theorem dX10_assign_46 : decode cX10_assign 46 = .ok (.getfield 7, 3) := by decide +kernel
theorem dX10_assign_49 : decode cX10_assign 49 = .ok (.bipush 44, 2) := by decide +kernel
theorem dX10_assign_51 : decode cX10_assign 51 = .ok (.iaload, 1) := by decide +kernel
theorem dX10_assign_52 : decode cX10_assign 52 = .ok (.ireturn, 1) := by decide +kernel
theorem dX10_undo_0 : decode cX10_undo 0 = .ok (.aload_n 0, 1) := by decide +kernel
theorem dX10_undo_1 : decode cX10_undo 1 = .ok (.getfield 51, 3) := by decide +kernel
theorem dX10_undo_4 : decode cX10_undo 4 = .ok (.ifCond .ne 6, 3) := by decide +kernel
theorem dX10_undo_7 : decode cX10_undo 7 = .ok (.bipush (-5), 2) := by decide +kernel
theorem dX10_undo_9 : decode cX10_undo 9 = .ok (.ireturn, 1) := by decide +kernel
theorem dX10_undo_10 : decode cX10_undo 10 = .ok (.aload_n 0, 1) := by decide +kernel
theorem dX10_undo_11 : decode cX10_undo 11 = .ok (.dup, 1) := by decide +kernel
theorem dX10_undo_12 : decode cX10_undo 12 = .ok (.getfield 51, 3) := by decide +kernel
theorem dX10_undo_15 : decode cX10_undo 15 = .ok (.iconst 1, 1) := by decide +kernel
theorem dX10_undo_16 : decode cX10_undo 16 = .ok (.isub, 1) := by decide +kernel
theorem dX10_undo_17 : decode cX10_undo 17 = .ok (.putfield 51, 3) := by decide +kernel
theorem dX10_undo_20 : decode cX10_undo 20 = .ok (.iconst 0, 1) := by decide +kernel
theorem dX10_undo_21 : decode cX10_undo 21 = .ok (.istore_n 1, 1) := by decide +kernel
theorem dX10_undo_22 : decode cX10_undo 22 = .ok (.iload_n 1, 1) := by decide +kernel
theorem dX10_undo_23 : decode cX10_undo 23 = .ok (.bipush 87, 2) := by decide +kernel
theorem dX10_undo_25 : decode cX10_undo 25 = .ok (.if_icmp .ge 29, 3) := by decide +kernel
theorem dX10_undo_28 : decode cX10_undo 28 = .ok (.aload_n 0, 1) := by decide +kernel
theorem dX10_undo_29 : decode cX10_undo 29 = .ok (.getfield 7, 3) := by decide +kernel
theorem dX10_undo_32 : decode cX10_undo 32 = .ok (.iload_n 1, 1) := by decide +kernel
theorem dX10_undo_33 : decode cX10_undo 33 = .ok (.aload_n 0, 1) := by decide +kernel
theorem dX10_undo_34 : decode cX10_undo 34 = .ok (.getfield 13, 3) := by decide +kernel
theorem dX10_undo_37 : decode cX10_undo 37 = .ok (.bipush 87, 2) := by decide +kernel
theorem dX10_undo_39 : decode cX10_undo 39 = .ok (.aload_n 0, 1) := by decide +kernel
theorem dX10_undo_40 : decode cX10_undo 40 = .ok (.getfield 51, 3) := by decide +kernel
theorem dX10_undo_43 : decode cX10_undo 43 = .ok (.imul, 1) := by decide +kernel
theorem dX10_undo_44 : decode cX10_undo 44 = .ok (.iload_n 1, 1) := by decide +kernel
theorem dX10_undo_45 : decode cX10_undo 45 = .ok (.iadd, 1) := by decide +kernel
theorem dX10_undo_46 : decode cX10_undo 46 = .ok (.iaload, 1) := by decide +kernel
theorem dX10_undo_47 : decode cX10_undo 47 = .ok (.iastore, 1) := by decide +kernel
theorem dX10_undo_48 : decode cX10_undo 48 = .ok (.iinc 1 1, 3) := by decide +kernel
theorem dX10_undo_51 : decode cX10_undo 51 = .ok (.goto (-29), 3) := by decide +kernel
theorem dX10_undo_54 : decode cX10_undo 54 = .ok (.aload_n 0, 1) := by decide +kernel
theorem dX10_undo_55 : decode cX10_undo 55 = .ok (.getfield 51, 3) := by decide +kernel
theorem dX10_undo_58 : decode cX10_undo 58 = .ok (.ireturn, 1) := by decide +kernel
theorem dX10_keep_0 : decode cX10_keep 0 = .ok (.iconst 0, 1) := by decide +kernel
theorem dX10_keep_1 : decode cX10_keep 1 = .ok (.istore_n 1, 1) := by decide +kernel
theorem dX10_keep_2 : decode cX10_keep 2 = .ok (.iload_n 1, 1) := by decide +kernel
theorem dX10_keep_3 : decode cX10_keep 3 = .ok (.bipush 87, 2) := by decide +kernel
theorem dX10_keep_5 : decode cX10_keep 5 = .ok (.if_icmp .ge 21, 3) := by decide +kernel
theorem dX10_keep_8 : decode cX10_keep 8 = .ok (.aload_n 0, 1) := by decide +kernel
theorem dX10_keep_9 : decode cX10_keep 9 = .ok (.getfield 16, 3) := by decide +kernel
theorem dX10_keep_12 : decode cX10_keep 12 = .ok (.iload_n 1, 1) := by decide +kernel
theorem dX10_keep_13 : decode cX10_keep 13 = .ok (.aload_n 0, 1) := by decide +kernel
theorem dX10_keep_14 : decode cX10_keep 14 = .ok (.getfield 7, 3) := by decide +kernel
theorem dX10_keep_17 : decode cX10_keep 17 = .ok (.iload_n 1, 1) := by decide +kernel
theorem dX10_keep_18 : decode cX10_keep 18 = .ok (.iaload, 1) := by decide +kernel
theorem dX10_keep_19 : decode cX10_keep 19 = .ok (.iastore, 1) := by decide +kernel
theorem dX10_keep_20 : decode cX10_keep 20 = .ok (.iinc 1 1, 3) := by decide +kernel
theorem dX10_keep_23 : decode cX10_keep 23 = .ok (.goto (-21), 3) := by decide +kernel
theorem dX10_keep_26 : decode cX10_keep 26 = .ok (.aload_n 0, 1) := by decide +kernel
theorem dX10_keep_27 : decode cX10_keep 27 = .ok (.iconst 1, 1) := by decide +kernel
theorem dX10_keep_28 : decode cX10_keep 28 = .ok (.putfield 216, 3) := by decide +kernel
theorem dX10_keep_31 : decode cX10_keep 31 = .ok (.aload_n 0, 1) := by decide +kernel
theorem dX10_keep_32 : decode cX10_keep 32 = .ok (.getfield 7, 3) := by decide +kernel
theorem dX10_keep_35 : decode cX10_keep 35 = .ok (.bipush 44, 2) := by decide +kernel
theorem dX10_keep_37 : decode cX10_keep 37 = .ok (.iaload, 1) := by decide +kernel
theorem dX10_keep_38 : decode cX10_keep 38 = .ok (.ireturn, 1) := by decide +kernel
theorem dX10_restore_0 : decode cX10_restore 0 = .ok (.aload_n 0, 1) := by decide +kernel
theorem dX10_restore_1 : decode cX10_restore 1 = .ok (.getfield 216, 3) := by decide +kernel
theorem dX10_restore_4 : decode cX10_restore 4 = .ok (.ifCond .ne 6, 3) := by decide +kernel
theorem dX10_restore_7 : decode cX10_restore 7 = .ok (.bipush (-5), 2) := by decide +kernel
theorem dX10_restore_9 : decode cX10_restore 9 = .ok (.ireturn, 1) := by decide +kernel
theorem dX10_restore_10 : decode cX10_restore 10 = .ok (.aload_n 0, 1) := by decide +kernel
theorem dX10_restore_11 : decode cX10_restore 11 = .ok (.invokevirtual 131, 3) := by decide +kernel
theorem dX10_restore_14 : decode cX10_restore 14 = .ok (.iconst 0, 1) := by decide +kernel
theorem dX10_restore_15 : decode cX10_restore 15 = .ok (.istore_n 1, 1) := by decide +kernel
theorem dX10_restore_16 : decode cX10_restore 16 = .ok (.iload_n 1, 1) := by decide +kernel
theorem dX10_restore_17 : decode cX10_restore 17 = .ok (.bipush 87, 2) := by decide +kernel
theorem dX10_restore_19 : decode cX10_restore 19 = .ok (.if_icmp .ge 21, 3) := by decide +kernel
theorem dX10_restore_22 : decode cX10_restore 22 = .ok (.aload_n 0, 1) := by decide +kernel
theorem dX10_restore_23 : decode cX10_restore 23 = .ok (.getfield 7, 3) := by decide +kernel
theorem dX10_restore_26 : decode cX10_restore 26 = .ok (.iload_n 1, 1) := by decide +kernel
theorem dX10_restore_27 : decode cX10_restore 27 = .ok (.aload_n 0, 1) := by decide +kernel
theorem dX10_restore_28 : decode cX10_restore 28 = .ok (.getfield 16, 3) := by decide +kernel
theorem dX10_restore_31 : decode cX10_restore 31 = .ok (.iload_n 1, 1) := by decide +kernel
theorem dX10_restore_32 : decode cX10_restore 32 = .ok (.iaload, 1) := by decide +kernel
theorem dX10_restore_33 : decode cX10_restore 33 = .ok (.iastore, 1) := by decide +kernel
theorem dX10_restore_34 : decode cX10_restore 34 = .ok (.iinc 1 1, 3) := by decide +kernel
theorem dX10_restore_37 : decode cX10_restore 37 = .ok (.goto (-21), 3) := by decide +kernel
theorem dX10_restore_40 : decode cX10_restore 40 = .ok (.aload_n 0, 1) := by decide +kernel
theorem dX10_restore_41 : decode cX10_restore 41 = .ok (.getfield 7, 3) := by decide +kernel
theorem dX10_restore_44 : decode cX10_restore 44 = .ok (.bipush 44, 2) := by decide +kernel
theorem dX10_restore_46 : decode cX10_restore 46 = .ok (.iaload, 1) := by decide +kernel
theorem dX10_restore_47 : decode cX10_restore 47 = .ok (.ireturn, 1) := by decide +kernel
theorem dX10_modulus_0 : decode cX10_modulus 0 = .ok (.iload_n 1, 1) := by decide +kernel
theorem dX10_modulus_1 : decode cX10_modulus 1 = .ok (.ifCond .ge 6, 3) := by decide +kernel
theorem dX10_modulus_4 : decode cX10_modulus 4 = .ok (.bipush (-2), 2) := by decide +kernel
theorem dX10_modulus_6 : decode cX10_modulus 6 = .ok (.ireturn, 1) := by decide +kernel
theorem dX10_modulus_7 : decode cX10_modulus 7 = .ok (.iload_n 1, 1) := by decide +kernel
theorem dX10_modulus_8 : decode cX10_modulus 8 = .ok (.aload_n 0, 1) := by decide +kernel
theorem dX10_modulus_9 : decode cX10_modulus 9 = .ok (.invokevirtual 153, 3) := by decide +kernel
theorem dX10_modulus_12 : decode cX10_modulus 12 = .ok (.if_icmp .gt 14, 3) := by decide +kernel
theorem dX10_modulus_15 : decode cX10_modulus 15 = .ok (.aload_n 0, 1) := by decide +kernel
theorem dX10_modulus_16 : decode cX10_modulus 16 = .ok (.getfield 7, 3) := by decide +kernel
theorem dX10_modulus_19 : decode cX10_modulus 19 = .ok (.iconst 1, 1) := by decide +kernel
theorem dX10_modulus_20 : decode cX10_modulus 20 = .ok (.iload_n 1, 1) := by decide +kernel
theorem dX10_modulus_21 : decode cX10_modulus 21 = .ok (.iadd, 1) := by decide +kernel
theorem dX10_modulus_22 : decode cX10_modulus 22 = .ok (.iaload, 1) := by decide +kernel
theorem dX10_modulus_23 : decode cX10_modulus 23 = .ok (.goto 5, 3) := by decide +kernel
theorem dX10_modulus_26 : decode cX10_modulus 26 = .ok (.bipush (-5), 2) := by decide +kernel
theorem dX10_modulus_28 : decode cX10_modulus 28 = .ok (.ireturn, 1) := by decide +kernel
theorem dX10_number_0 : decode cX10_number 0 = .ok (.iload_n 1, 1) := by decide +kernel
theorem dX10_number_1 : decode cX10_number 1 = .ok (.invokestatic 156, 3) := by decide +kernel
theorem dX10_number_4 : decode cX10_number 4 = .ok (.ifCond .eq 5, 3) := by decide +kernel
theorem dX10_number_7 : decode cX10_number 7 = .ok (.iconst (-1), 1) := by decide +kernel
theorem dX10_number_8 : decode cX10_number 8 = .ok (.ireturn, 1) := by decide +kernel
theorem dX10_number_9 : decode cX10_number 9 = .ok (.aload_n 0, 1) := by decide +kernel
theorem dX10_number_10 : decode cX10_number 10 = .ok (.iload_n 2, 1) := by decide +kernel
theorem dX10_number_11 : decode cX10_number 11 = .ok (.invokevirtual 159, 3) := by decide +kernel
theorem dX10_number_14 : decode cX10_number 14 = .ok (.ifCond .eq 8, 3) := by decide +kernel
theorem dX10_number_17 : decode cX10_number 17 = .ok (.bipush (-2), 2) := by decide +kernel
theorem dX10_number_19 : decode cX10_number 19 = .ok (.goto 17, 3) := by decide +kernel
theorem dX10_number_22 : decode cX10_number 22 = .ok (.aload_n 0, 1) := by decide +kernel
theorem dX10_number_23 : decode cX10_number 23 = .ok (.getfield 7, 3) := by decide +kernel
theorem dX10_number_26 : decode cX10_number 26 = .ok (.bipush 8, 2) := by decide +kernel
theorem dX10_number_28 : decode cX10_number 28 = .ok (.bipush 6, 2) := by decide +kernel
theorem dX10_number_30 : decode cX10_number 30 = .ok (.iload_n 1, 1) := by decide +kernel
theorem dX10_number_31 : decode cX10_number 31 = .ok (.imul, 1) := by decide +kernel
theorem dX10_number_32 : decode cX10_number 32 = .ok (.iadd, 1) := by decide +kernel
theorem dX10_number_33 : decode cX10_number 33 = .ok (.iload_n 2, 1) := by decide +kernel
theorem dX10_number_34 : decode cX10_number 34 = .ok (.iadd, 1) := by decide +kernel
theorem dX10_number_35 : decode cX10_number 35 = .ok (.iaload, 1) := by decide +kernel
theorem dX10_number_36 : decode cX10_number 36 = .ok (.ireturn, 1) := by decide +kernel
theorem dX10_degreeOfBranch_0 : decode cX10_degreeOfBranch 0 = .ok (.aload_n 0, 1) := by decide +kernel
theorem dX10_degreeOfBranch_1 : decode cX10_degreeOfBranch 1 = .ok (.iload_n 1, 1) := by decide +kernel
theorem dX10_degreeOfBranch_2 : decode cX10_degreeOfBranch 2 = .ok (.iconst 1, 1) := by decide +kernel
theorem dX10_degreeOfBranch_3 : decode cX10_degreeOfBranch 3 = .ok (.invokevirtual 106, 3) := by decide +kernel
theorem dX10_degreeOfBranch_6 : decode cX10_degreeOfBranch 6 = .ok (.aload_n 0, 1) := by decide +kernel
theorem dX10_degreeOfBranch_7 : decode cX10_degreeOfBranch 7 = .ok (.iconst 1, 1) := by decide +kernel
theorem dX10_degreeOfBranch_8 : decode cX10_degreeOfBranch 8 = .ok (.invokevirtual 70, 3) := by decide +kernel
theorem dX10_degreeOfBranch_11 : decode cX10_degreeOfBranch 11 = .ok (.ireturn, 1) := by decide +kernel
theorem dX10_branch_0 : decode cX10_branch 0 = .ok (.aload_n 0, 1) := by decide +kernel
theorem dX10_branch_1 : decode cX10_branch 1 = .ok (.iload_n 1, 1) := by decide +kernel
theorem dX10_branch_2 : decode cX10_branch 2 = .ok (.invokevirtual 162, 3) := by decide +kernel
theorem dX10_branch_5 : decode cX10_branch 5 = .ok (.ifCond .eq 5, 3) := by decide +kernel
theorem dX10_branch_8 : decode cX10_branch 8 = .ok (.iconst (-1), 1) := by decide +kernel
theorem dX10_branch_9 : decode cX10_branch 9 = .ok (.ireturn, 1) := by decide +kernel
theorem dX10_branch_10 : decode cX10_branch 10 = .ok (.iload_n 2, 1) := by decide +kernel
theorem dX10_branch_11 : decode cX10_branch 11 = .ok (.ifCond .ge 6, 3) := by decide +kernel
theorem dX10_branch_14 : decode cX10_branch 14 = .ok (.bipush (-2), 2) := by decide +kernel
theorem dX10_branch_16 : decode cX10_branch 16 = .ok (.ireturn, 1) := by decide +kernel
theorem dX10_branch_17 : decode cX10_branch 17 = .ok (.iload_n 2, 1) := by decide +kernel
theorem dX10_branch_18 : decode cX10_branch 18 = .ok (.aload_n 0, 1) := by decide +kernel
theorem dX10_branch_19 : decode cX10_branch 19 = .ok (.iload_n 1, 1) := by decide +kernel
theorem dX10_branch_20 : decode cX10_branch 20 = .ok (.invokevirtual 220, 3) := by decide +kernel
theorem dX10_branch_23 : decode cX10_branch 23 = .ok (.if_icmp .gt 20, 3) := by decide +kernel
theorem dX10_branch_26 : decode cX10_branch 26 = .ok (.aload_n 0, 1) := by decide +kernel
theorem dX10_branch_27 : decode cX10_branch 27 = .ok (.getfield 7, 3) := by decide +kernel
theorem dX10_branch_30 : decode cX10_branch 30 = .ok (.bipush 45, 2) := by decide +kernel
theorem dX10_branch_32 : decode cX10_branch 32 = .ok (.bipush 7, 2) := by decide +kernel
theorem dX10_branch_34 : decode cX10_branch 34 = .ok (.iload_n 1, 1) := by decide +kernel
theorem dX10_branch_35 : decode cX10_branch 35 = .ok (.imul, 1) := by decide +kernel
theorem dX10_branch_36 : decode cX10_branch 36 = .ok (.iadd, 1) := by decide +kernel
theorem dX10_branch_37 : decode cX10_branch 37 = .ok (.iload_n 2, 1) := by decide +kernel
theorem dX10_branch_38 : decode cX10_branch 38 = .ok (.iadd, 1) := by decide +kernel
theorem dX10_branch_39 : decode cX10_branch 39 = .ok (.iaload, 1) := by decide +kernel
theorem dX10_branch_40 : decode cX10_branch 40 = .ok (.goto 5, 3) := by decide +kernel
theorem dX10_branch_43 : decode cX10_branch 43 = .ok (.bipush (-5), 2) := by decide +kernel
theorem dX10_branch_45 : decode cX10_branch 45 = .ok (.ireturn, 1) := by decide +kernel
theorem dX10_seen_0 : decode cX10_seen 0 = .ok (.iload_n 1, 1) := by decide +kernel
theorem dX10_seen_1 : decode cX10_seen 1 = .ok (.invokestatic 156, 3) := by decide +kernel
theorem dX10_seen_4 : decode cX10_seen 4 = .ok (.ifCond .ne 11, 3) := by decide +kernel
theorem dX10_seen_7 : decode cX10_seen 7 = .ok (.aload_n 0, 1) := by decide +kernel
theorem dX10_seen_8 : decode cX10_seen 8 = .ok (.iload_n 2, 1) := by decide +kernel
theorem dX10_seen_9 : decode cX10_seen 9 = .ok (.invokevirtual 162, 3) := by decide +kernel
theorem dX10_seen_12 : decode cX10_seen 12 = .ok (.ifCond .eq 5, 3) := by decide +kernel
theorem dX10_seen_15 : decode cX10_seen 15 = .ok (.iconst (-1), 1) := by decide +kernel
theorem dX10_seen_16 : decode cX10_seen 16 = .ok (.ireturn, 1) := by decide +kernel
theorem dX10_seen_17 : decode cX10_seen 17 = .ok (.iload_n 3, 1) := by decide +kernel
theorem dX10_seen_18 : decode cX10_seen 18 = .ok (.iconst 0, 1) := by decide +kernel
theorem dX10_seen_19 : decode cX10_seen 19 = .ok (.aload_n 0, 1) := by decide +kernel
theorem dX10_seen_20 : decode cX10_seen 20 = .ok (.iload_n 2, 1) := by decide +kernel
theorem dX10_seen_21 : decode cX10_seen 21 = .ok (.invokevirtual 220, 3) := by decide +kernel
theorem dX10_seen_24 : decode cX10_seen 24 = .ok (.iconst 1, 1) := by decide +kernel
theorem dX10_seen_25 : decode cX10_seen 25 = .ok (.isub, 1) := by decide +kernel
theorem dX10_seen_26 : decode cX10_seen 26 = .ok (.invokestatic 47, 3) := by decide +kernel
theorem dX10_seen_29 : decode cX10_seen 29 = .ok (.ifCond .ne 6, 3) := by decide +kernel
theorem dX10_seen_32 : decode cX10_seen 32 = .ok (.bipush (-2), 2) := by decide +kernel
theorem dX10_seen_34 : decode cX10_seen 34 = .ok (.ireturn, 1) := by decide +kernel
theorem dX10_seen_35 : decode cX10_seen 35 = .ok (.aload_n 0, 1) := by decide +kernel
theorem dX10_seen_36 : decode cX10_seen 36 = .ok (.iload_n 1, 1) := by decide +kernel
theorem dX10_seen_37 : decode cX10_seen 37 = .ok (.iconst 2, 1) := by decide +kernel
theorem dX10_seen_38 : decode cX10_seen 38 = .ok (.invokevirtual 144, 3) := by decide +kernel
theorem dX10_seen_41 : decode cX10_seen 41 = .ok (.aload_n 0, 1) := by decide +kernel
theorem dX10_seen_42 : decode cX10_seen 42 = .ok (.iconst 2, 1) := by decide +kernel
theorem dX10_seen_43 : decode cX10_seen 43 = .ok (.iconst 1, 1) := by decide +kernel
theorem dX10_seen_44 : decode cX10_seen 44 = .ok (.iconst (-1), 1) := by decide +kernel
theorem dX10_seen_45 : decode cX10_seen 45 = .ok (.invokevirtual 81, 3) := by decide +kernel
theorem dX10_seen_48 : decode cX10_seen 48 = .ok (.aload_n 0, 1) := by decide +kernel
theorem dX10_seen_49 : decode cX10_seen 49 = .ok (.iconst 2, 1) := by decide +kernel
theorem dX10_seen_50 : decode cX10_seen 50 = .ok (.iload_n 3, 1) := by decide +kernel
theorem dX10_seen_51 : decode cX10_seen 51 = .ok (.invokevirtual 55, 3) := by decide +kernel
theorem dX10_seen_54 : decode cX10_seen 54 = .ok (.ireturn, 1) := by decide +kernel
theorem dX10_kind_0 : decode cX10_kind 0 = .ok (.iload_n 1, 1) := by decide +kernel
theorem dX10_kind_1 : decode cX10_kind 1 = .ok (.invokestatic 156, 3) := by decide +kernel
theorem dX10_kind_4 : decode cX10_kind 4 = .ok (.ifCond .ne 11, 3) := by decide +kernel
theorem dX10_kind_7 : decode cX10_kind 7 = .ok (.aload_n 0, 1) := by decide +kernel
theorem dX10_kind_8 : decode cX10_kind 8 = .ok (.iload_n 2, 1) := by decide +kernel
theorem dX10_kind_9 : decode cX10_kind 9 = .ok (.invokevirtual 162, 3) := by decide +kernel
theorem dX10_kind_12 : decode cX10_kind 12 = .ok (.ifCond .eq 5, 3) := by decide +kernel
theorem dX10_kind_15 : decode cX10_kind 15 = .ok (.iconst (-1), 1) := by decide +kernel
theorem dX10_kind_16 : decode cX10_kind 16 = .ok (.ireturn, 1) := by decide +kernel
theorem dX10_kind_17 : decode cX10_kind 17 = .ok (.aload_n 0, 1) := by decide +kernel
theorem dX10_kind_18 : decode cX10_kind 18 = .ok (.iload_n 1, 1) := by decide +kernel
theorem dX10_kind_19 : decode cX10_kind 19 = .ok (.iconst 2, 1) := by decide +kernel
theorem dX10_kind_20 : decode cX10_kind 20 = .ok (.invokevirtual 144, 3) := by decide +kernel
theorem dX10_kind_23 : decode cX10_kind 23 = .ok (.aload_n 0, 1) := by decide +kernel
theorem dX10_kind_24 : decode cX10_kind 24 = .ok (.iload_n 2, 1) := by decide +kernel
theorem dX10_kind_25 : decode cX10_kind 25 = .ok (.iconst 1, 1) := by decide +kernel
theorem dX10_kind_26 : decode cX10_kind 26 = .ok (.invokevirtual 106, 3) := by decide +kernel
theorem dX10_kind_29 : decode cX10_kind 29 = .ok (.aload_n 0, 1) := by decide +kernel
theorem dX10_kind_30 : decode cX10_kind 30 = .ok (.iconst 2, 1) := by decide +kernel
theorem dX10_kind_31 : decode cX10_kind 31 = .ok (.invokevirtual 125, 3) := by decide +kernel
theorem dX10_kind_34 : decode cX10_kind 34 = .ok (.ireturn, 1) := by decide +kernel
theorem dX10_unit_0 : decode cX10_unit 0 = .ok (.aload_n 0, 1) := by decide +kernel
theorem dX10_unit_1 : decode cX10_unit 1 = .ok (.iload_n 1, 1) := by decide +kernel
theorem dX10_unit_2 : decode cX10_unit 2 = .ok (.invokevirtual 162, 3) := by decide +kernel
theorem dX10_unit_5 : decode cX10_unit 5 = .ok (.ifCond .eq 5, 3) := by decide +kernel
theorem dX10_unit_8 : decode cX10_unit 8 = .ok (.iconst (-1), 1) := by decide +kernel
theorem dX10_unit_9 : decode cX10_unit 9 = .ok (.ireturn, 1) := by decide +kernel
theorem dX10_unit_10 : decode cX10_unit 10 = .ok (.aload_n 0, 1) := by decide +kernel
theorem dX10_unit_11 : decode cX10_unit 11 = .ok (.iload_n 2, 1) := by decide +kernel
theorem dX10_unit_12 : decode cX10_unit 12 = .ok (.invokevirtual 159, 3) := by decide +kernel
theorem dX10_unit_15 : decode cX10_unit 15 = .ok (.ifCond .eq 6, 3) := by decide +kernel
theorem dX10_unit_18 : decode cX10_unit 18 = .ok (.bipush (-2), 2) := by decide +kernel
theorem dX10_unit_20 : decode cX10_unit 20 = .ok (.ireturn, 1) := by decide +kernel
theorem dX10_unit_21 : decode cX10_unit 21 = .ok (.aload_n 0, 1) := by decide +kernel
theorem dX10_unit_22 : decode cX10_unit 22 = .ok (.iload_n 1, 1) := by decide +kernel
theorem dX10_unit_23 : decode cX10_unit 23 = .ok (.iconst 1, 1) := by decide +kernel
theorem dX10_unit_24 : decode cX10_unit 24 = .ok (.invokevirtual 106, 3) := by decide +kernel
theorem dX10_unit_27 : decode cX10_unit 27 = .ok (.aload_n 0, 1) := by decide +kernel
theorem dX10_unit_28 : decode cX10_unit 28 = .ok (.iconst 2, 1) := by decide +kernel
theorem dX10_unit_29 : decode cX10_unit 29 = .ok (.invokevirtual 128, 3) := by decide +kernel
theorem dX10_unit_32 : decode cX10_unit 32 = .ok (.aload_n 0, 1) := by decide +kernel
theorem dX10_unit_33 : decode cX10_unit 33 = .ok (.iconst 2, 1) := by decide +kernel
theorem dX10_unit_34 : decode cX10_unit 34 = .ok (.iload_n 2, 1) := by decide +kernel
theorem dX10_unit_35 : decode cX10_unit 35 = .ok (.invokevirtual 55, 3) := by decide +kernel
theorem dX10_unit_38 : decode cX10_unit 38 = .ok (.ireturn, 1) := by decide +kernel
theorem dX10_power_0 : decode cX10_power 0 = .ok (.iload_n 1, 1) := by decide +kernel
theorem dX10_power_1 : decode cX10_power 1 = .ok (.invokestatic 156, 3) := by decide +kernel
theorem dX10_power_4 : decode cX10_power 4 = .ok (.ifCond .eq 5, 3) := by decide +kernel
theorem dX10_power_7 : decode cX10_power 7 = .ok (.iconst (-1), 1) := by decide +kernel
theorem dX10_power_8 : decode cX10_power 8 = .ok (.ireturn, 1) := by decide +kernel
theorem dX10_power_9 : decode cX10_power 9 = .ok (.iload_n 2, 1) := by decide +kernel
theorem dX10_power_10 : decode cX10_power 10 = .ok (.iconst 0, 1) := by decide +kernel
theorem dX10_power_11 : decode cX10_power 11 = .ok (.ldc 223, 2) := by decide +kernel
theorem dX10_power_13 : decode cX10_power 13 = .ok (.invokestatic 47, 3) := by decide +kernel
theorem dX10_power_16 : decode cX10_power 16 = .ok (.ifCond .eq 11, 3) := by decide +kernel
theorem dX10_power_19 : decode cX10_power 19 = .ok (.aload_n 0, 1) := by decide +kernel
theorem dX10_power_20 : decode cX10_power 20 = .ok (.iload_n 3, 1) := by decide +kernel
theorem dX10_power_21 : decode cX10_power 21 = .ok (.invokevirtual 159, 3) := by decide +kernel
theorem dX10_power_24 : decode cX10_power 24 = .ok (.ifCond .eq 6, 3) := by decide +kernel
theorem dX10_power_27 : decode cX10_power 27 = .ok (.bipush (-2), 2) := by decide +kernel
theorem dX10_power_29 : decode cX10_power 29 = .ok (.ireturn, 1) := by decide +kernel
theorem dX10_power_30 : decode cX10_power 30 = .ok (.aload_n 0, 1) := by decide +kernel
theorem dX10_power_31 : decode cX10_power 31 = .ok (.iload_n 1, 1) := by decide +kernel
theorem dX10_power_32 : decode cX10_power 32 = .ok (.iconst 2, 1) := by decide +kernel
theorem dX10_power_33 : decode cX10_power 33 = .ok (.invokevirtual 144, 3) := by decide +kernel
theorem dX10_power_36 : decode cX10_power 36 = .ok (.aload_n 0, 1) := by decide +kernel
theorem dX10_power_37 : decode cX10_power 37 = .ok (.iconst 2, 1) := by decide +kernel
theorem dX10_power_38 : decode cX10_power 38 = .ok (.iload_n 2, 1) := by decide +kernel
theorem dX10_power_39 : decode cX10_power 39 = .ok (.iconst 0, 1) := by decide +kernel
theorem dX10_power_40 : decode cX10_power 40 = .ok (.iconst 2, 1) := by decide +kernel
theorem dX10_power_41 : decode cX10_power 41 = .ok (.invokevirtual 174, 3) := by decide +kernel
theorem dX10_power_44 : decode cX10_power 44 = .ok (.aload_n 0, 1) := by decide +kernel
theorem dX10_power_45 : decode cX10_power 45 = .ok (.iconst 2, 1) := by decide +kernel
theorem dX10_power_46 : decode cX10_power 46 = .ok (.iload_n 3, 1) := by decide +kernel
theorem dX10_power_47 : decode cX10_power 47 = .ok (.invokevirtual 55, 3) := by decide +kernel
theorem dX10_power_50 : decode cX10_power 50 = .ok (.ireturn, 1) := by decide +kernel
theorem dX10_findsLeast_0 : decode cX10_findsLeast 0 = .ok (.aload_n 0, 1) := by decide +kernel
theorem dX10_findsLeast_1 : decode cX10_findsLeast 1 = .ok (.iconst 0, 1) := by decide +kernel
theorem dX10_findsLeast_2 : decode cX10_findsLeast 2 = .ok (.invokevirtual 70, 3) := by decide +kernel
theorem dX10_findsLeast_5 : decode cX10_findsLeast 5 = .ok (.istore_n 1, 1) := by decide +kernel
theorem dX10_findsLeast_6 : decode cX10_findsLeast 6 = .ok (.aload_n 0, 1) := by decide +kernel
theorem dX10_findsLeast_7 : decode cX10_findsLeast 7 = .ok (.getfield 7, 3) := by decide +kernel
theorem dX10_findsLeast_10 : decode cX10_findsLeast 10 = .ok (.iconst 0, 1) := by decide +kernel
theorem dX10_findsLeast_11 : decode cX10_findsLeast 11 = .ok (.iaload, 1) := by decide +kernel
theorem dX10_findsLeast_12 : decode cX10_findsLeast 12 = .ok (.istore_n 2, 1) := by decide +kernel
theorem dX10_findsLeast_13 : decode cX10_findsLeast 13 = .ok (.aload_n 0, 1) := by decide +kernel
theorem dX10_findsLeast_14 : decode cX10_findsLeast 14 = .ok (.iconst 4, 1) := by decide +kernel
theorem dX10_findsLeast_15 : decode cX10_findsLeast 15 = .ok (.iconst 1, 1) := by decide +kernel
theorem dX10_findsLeast_16 : decode cX10_findsLeast 16 = .ok (.invokevirtual 87, 3) := by decide +kernel
theorem dX10_findsLeast_19 : decode cX10_findsLeast 19 = .ok (.iconst 0, 1) := by decide +kernel
theorem dX10_findsLeast_20 : decode cX10_findsLeast 20 = .ok (.istore_n 3, 1) := by decide +kernel
theorem dX10_findsLeast_21 : decode cX10_findsLeast 21 = .ok (.iload_n 3, 1) := by decide +kernel
theorem dX10_findsLeast_22 : decode cX10_findsLeast 22 = .ok (.iload_n 1, 1) := by decide +kernel
theorem dX10_findsLeast_23 : decode cX10_findsLeast 23 = .ok (.if_icmp .gt 164, 3) := by decide +kernel
theorem dX10_findsLeast_26 : decode cX10_findsLeast 26 = .ok (.bipush 34, 2) := by decide +kernel
theorem dX10_findsLeast_28 : decode cX10_findsLeast 28 = .ok (.iconst 2, 1) := by decide +kernel
theorem dX10_findsLeast_29 : decode cX10_findsLeast 29 = .ok (.iload_n 3, 1) := by decide +kernel
theorem dX10_findsLeast_30 : decode cX10_findsLeast 30 = .ok (.imul, 1) := by decide +kernel
theorem dX10_findsLeast_31 : decode cX10_findsLeast 31 = .ok (.iadd, 1) := by decide +kernel
theorem dX10_findsLeast_32 : decode cX10_findsLeast 32 = .ok (.istore 4, 2) := by decide +kernel
theorem dX10_findsLeast_34 : decode cX10_findsLeast 34 = .ok (.aload_n 0, 1) := by decide +kernel
theorem dX10_findsLeast_35 : decode cX10_findsLeast 35 = .ok (.iconst 4, 1) := by decide +kernel
theorem dX10_findsLeast_36 : decode cX10_findsLeast 36 = .ok (.iload 4, 2) := by decide +kernel
theorem dX10_findsLeast_38 : decode cX10_findsLeast 38 = .ok (.invokevirtual 77, 3) := by decide +kernel
theorem dX10_findsLeast_41 : decode cX10_findsLeast 41 = .ok (.aload_n 0, 1) := by decide +kernel
theorem dX10_findsLeast_42 : decode cX10_findsLeast 42 = .ok (.iload 4, 2) := by decide +kernel
theorem dX10_findsLeast_44 : decode cX10_findsLeast 44 = .ok (.iconst 1, 1) := by decide +kernel
theorem dX10_findsLeast_45 : decode cX10_findsLeast 45 = .ok (.iadd, 1) := by decide +kernel
theorem dX10_findsLeast_46 : decode cX10_findsLeast 46 = .ok (.invokevirtual 63, 3) := by decide +kernel
theorem dX10_findsLeast_49 : decode cX10_findsLeast 49 = .ok (.aload_n 0, 1) := by decide +kernel
theorem dX10_findsLeast_50 : decode cX10_findsLeast 50 = .ok (.iload 4, 2) := by decide +kernel
theorem dX10_findsLeast_52 : decode cX10_findsLeast 52 = .ok (.iconst 1, 1) := by decide +kernel
theorem dX10_findsLeast_53 : decode cX10_findsLeast 53 = .ok (.iadd, 1) := by decide +kernel
theorem dX10_findsLeast_54 : decode cX10_findsLeast 54 = .ok (.iload_n 3, 1) := by decide +kernel
theorem dX10_findsLeast_55 : decode cX10_findsLeast 55 = .ok (.iconst 1, 1) := by decide +kernel
theorem dX10_findsLeast_56 : decode cX10_findsLeast 56 = .ok (.invokevirtual 59, 3) := by decide +kernel
theorem dX10_findsLeast_59 : decode cX10_findsLeast 59 = .ok (.iconst 0, 1) := by decide +kernel
theorem dX10_findsLeast_60 : decode cX10_findsLeast 60 = .ok (.istore 5, 2) := by decide +kernel
theorem dX10_findsLeast_62 : decode cX10_findsLeast 62 = .ok (.iload 5, 2) := by decide +kernel
theorem dX10_findsLeast_64 : decode cX10_findsLeast 64 = .ok (.iload_n 3, 1) := by decide +kernel
theorem dX10_findsLeast_65 : decode cX10_findsLeast 65 = .ok (.if_icmp .ge 83, 3) := by decide +kernel
theorem dX10_findsLeast_68 : decode cX10_findsLeast 68 = .ok (.bipush 34, 2) := by decide +kernel
theorem dX10_findsLeast_70 : decode cX10_findsLeast 70 = .ok (.iconst 2, 1) := by decide +kernel
theorem dX10_findsLeast_71 : decode cX10_findsLeast 71 = .ok (.iload 5, 2) := by decide +kernel
theorem dX10_findsLeast_73 : decode cX10_findsLeast 73 = .ok (.imul, 1) := by decide +kernel
theorem dX10_findsLeast_74 : decode cX10_findsLeast 74 = .ok (.iadd, 1) := by decide +kernel
theorem dX10_findsLeast_75 : decode cX10_findsLeast 75 = .ok (.istore 6, 2) := by decide +kernel
theorem dX10_findsLeast_77 : decode cX10_findsLeast 77 = .ok (.aload_n 0, 1) := by decide +kernel
theorem dX10_findsLeast_78 : decode cX10_findsLeast 78 = .ok (.iload 6, 2) := by decide +kernel
theorem dX10_findsLeast_80 : decode cX10_findsLeast 80 = .ok (.invokevirtual 70, 3) := by decide +kernel
theorem dX10_findsLeast_83 : decode cX10_findsLeast 83 = .ok (.istore 7, 2) := by decide +kernel
theorem dX10_findsLeast_85 : decode cX10_findsLeast 85 = .ok (.aload_n 0, 1) := by decide +kernel
theorem dX10_findsLeast_86 : decode cX10_findsLeast 86 = .ok (.iload 4, 2) := by decide +kernel
theorem dX10_findsLeast_88 : decode cX10_findsLeast 88 = .ok (.iload 7, 2) := by decide +kernel
theorem dX10_findsLeast_90 : decode cX10_findsLeast 90 = .ok (.invokevirtual 55, 3) := by decide +kernel
theorem dX10_findsLeast_93 : decode cX10_findsLeast 93 = .ok (.aload_n 0, 1) := by decide +kernel
theorem dX10_findsLeast_94 : decode cX10_findsLeast 94 = .ok (.aload_n 0, 1) := by decide +kernel
theorem dX10_findsLeast_95 : decode cX10_findsLeast 95 = .ok (.iload 6, 2) := by decide +kernel
theorem dX10_findsLeast_97 : decode cX10_findsLeast 97 = .ok (.iload 7, 2) := by decide +kernel
theorem dX10_findsLeast_99 : decode cX10_findsLeast 99 = .ok (.invokevirtual 55, 3) := by decide +kernel
theorem dX10_findsLeast_102 : decode cX10_findsLeast 102 = .ok (.invokevirtual 74, 3) := by decide +kernel
theorem dX10_findsLeast_105 : decode cX10_findsLeast 105 = .ok (.imul, 1) := by decide +kernel
theorem dX10_findsLeast_106 : decode cX10_findsLeast 106 = .ok (.iload_n 2, 1) := by decide +kernel
theorem dX10_findsLeast_107 : decode cX10_findsLeast 107 = .ok (.irem, 1) := by decide +kernel
theorem dX10_findsLeast_108 : decode cX10_findsLeast 108 = .ok (.istore 8, 2) := by decide +kernel
theorem dX10_findsLeast_110 : decode cX10_findsLeast 110 = .ok (.aload_n 0, 1) := by decide +kernel
theorem dX10_findsLeast_111 : decode cX10_findsLeast 111 = .ok (.iload 6, 2) := by decide +kernel
theorem dX10_findsLeast_113 : decode cX10_findsLeast 113 = .ok (.iload 4, 2) := by decide +kernel
theorem dX10_findsLeast_115 : decode cX10_findsLeast 115 = .ok (.iload_n 2, 1) := by decide +kernel
theorem dX10_findsLeast_116 : decode cX10_findsLeast 116 = .ok (.iload 8, 2) := by decide +kernel
theorem dX10_findsLeast_118 : decode cX10_findsLeast 118 = .ok (.isub, 1) := by decide +kernel
theorem dX10_findsLeast_119 : decode cX10_findsLeast 119 = .ok (.iload_n 2, 1) := by decide +kernel
theorem dX10_findsLeast_120 : decode cX10_findsLeast 120 = .ok (.irem, 1) := by decide +kernel
theorem dX10_findsLeast_121 : decode cX10_findsLeast 121 = .ok (.invokevirtual 93, 3) := by decide +kernel
theorem dX10_findsLeast_124 : decode cX10_findsLeast 124 = .ok (.aload_n 0, 1) := by decide +kernel
theorem dX10_findsLeast_125 : decode cX10_findsLeast 125 = .ok (.iload 6, 2) := by decide +kernel
theorem dX10_findsLeast_127 : decode cX10_findsLeast 127 = .ok (.iconst 1, 1) := by decide +kernel
theorem dX10_findsLeast_128 : decode cX10_findsLeast 128 = .ok (.iadd, 1) := by decide +kernel
theorem dX10_findsLeast_129 : decode cX10_findsLeast 129 = .ok (.iload 4, 2) := by decide +kernel
theorem dX10_findsLeast_131 : decode cX10_findsLeast 131 = .ok (.iconst 1, 1) := by decide +kernel
theorem dX10_findsLeast_132 : decode cX10_findsLeast 132 = .ok (.iadd, 1) := by decide +kernel
theorem dX10_findsLeast_133 : decode cX10_findsLeast 133 = .ok (.iload_n 2, 1) := by decide +kernel
theorem dX10_findsLeast_134 : decode cX10_findsLeast 134 = .ok (.iload 8, 2) := by decide +kernel
theorem dX10_findsLeast_136 : decode cX10_findsLeast 136 = .ok (.isub, 1) := by decide +kernel
theorem dX10_findsLeast_137 : decode cX10_findsLeast 137 = .ok (.iload_n 2, 1) := by decide +kernel
theorem dX10_findsLeast_138 : decode cX10_findsLeast 138 = .ok (.irem, 1) := by decide +kernel
theorem dX10_findsLeast_139 : decode cX10_findsLeast 139 = .ok (.invokevirtual 93, 3) := by decide +kernel
theorem dX10_findsLeast_142 : decode cX10_findsLeast 142 = .ok (.iinc 5 1, 3) := by decide +kernel
theorem dX10_findsLeast_145 : decode cX10_findsLeast 145 = .ok (.goto (-83), 3) := by decide +kernel
theorem dX10_findsLeast_148 : decode cX10_findsLeast 148 = .ok (.aload_n 0, 1) := by decide +kernel
theorem dX10_findsLeast_149 : decode cX10_findsLeast 149 = .ok (.iload 4, 2) := by decide +kernel
theorem dX10_findsLeast_151 : decode cX10_findsLeast 151 = .ok (.invokevirtual 70, 3) := by decide +kernel
theorem dX10_findsLeast_154 : decode cX10_findsLeast 154 = .ok (.ifCond .ge 13, 3) := by decide +kernel
theorem dX10_findsLeast_157 : decode cX10_findsLeast 157 = .ok (.aload_n 0, 1) := by decide +kernel
theorem dX10_findsLeast_158 : decode cX10_findsLeast 158 = .ok (.iload 4, 2) := by decide +kernel
theorem dX10_findsLeast_160 : decode cX10_findsLeast 160 = .ok (.iconst 1, 1) := by decide +kernel
theorem dX10_findsLeast_161 : decode cX10_findsLeast 161 = .ok (.iadd, 1) := by decide +kernel
theorem dX10_findsLeast_162 : decode cX10_findsLeast 162 = .ok (.iconst 3, 1) := by decide +kernel
theorem dX10_findsLeast_163 : decode cX10_findsLeast 163 = .ok (.invokevirtual 77, 3) := by decide +kernel
theorem dX10_findsLeast_166 : decode cX10_findsLeast 166 = .ok (.return_, 1) := by decide +kernel
theorem dX10_findsLeast_167 : decode cX10_findsLeast 167 = .ok (.aload_n 0, 1) := by decide +kernel
theorem dX10_findsLeast_168 : decode cX10_findsLeast 168 = .ok (.iconst 4, 1) := by decide +kernel
theorem dX10_findsLeast_169 : decode cX10_findsLeast 169 = .ok (.iconst 2, 1) := by decide +kernel
theorem dX10_findsLeast_170 : decode cX10_findsLeast 170 = .ok (.iconst 4, 1) := by decide +kernel
theorem dX10_findsLeast_171 : decode cX10_findsLeast 171 = .ok (.invokevirtual 90, 3) := by decide +kernel
theorem dX10_findsLeast_174 : decode cX10_findsLeast 174 = .ok (.aload_n 0, 1) := by decide +kernel
theorem dX10_findsLeast_175 : decode cX10_findsLeast 175 = .ok (.iconst 4, 1) := by decide +kernel
theorem dX10_findsLeast_176 : decode cX10_findsLeast 176 = .ok (.iconst 0, 1) := by decide +kernel
theorem dX10_findsLeast_177 : decode cX10_findsLeast 177 = .ok (.iconst (-1), 1) := by decide +kernel
theorem dX10_findsLeast_178 : decode cX10_findsLeast 178 = .ok (.invokevirtual 81, 3) := by decide +kernel
theorem dX10_findsLeast_181 : decode cX10_findsLeast 181 = .ok (.iinc 3 1, 3) := by decide +kernel
theorem dX10_findsLeast_184 : decode cX10_findsLeast 184 = .ok (.goto (-163), 3) := by decide +kernel
theorem dX10_findsLeast_187 : decode cX10_findsLeast 187 = .ok (.return_, 1) := by decide +kernel
theorem dX10_leastPolynomial_0 : decode cX10_leastPolynomial 0 = .ok (.iload_n 1, 1) := by decide +kernel
theorem dX10_leastPolynomial_1 : decode cX10_leastPolynomial 1 = .ok (.invokestatic 156, 3) := by decide +kernel
theorem dX10_leastPolynomial_4 : decode cX10_leastPolynomial 4 = .ok (.ifCond .eq 5, 3) := by decide +kernel
theorem dX10_leastPolynomial_7 : decode cX10_leastPolynomial 7 = .ok (.iconst (-1), 1) := by decide +kernel
theorem dX10_leastPolynomial_8 : decode cX10_leastPolynomial 8 = .ok (.ireturn, 1) := by decide +kernel
theorem dX10_leastPolynomial_9 : decode cX10_leastPolynomial 9 = .ok (.iload_n 2, 1) := by decide +kernel
theorem dX10_leastPolynomial_10 : decode cX10_leastPolynomial 10 = .ok (.ifCond .ge 6, 3) := by decide +kernel
theorem dX10_leastPolynomial_13 : decode cX10_leastPolynomial 13 = .ok (.bipush (-2), 2) := by decide +kernel
theorem dX10_leastPolynomial_15 : decode cX10_leastPolynomial 15 = .ok (.ireturn, 1) := by decide +kernel
theorem dX10_leastPolynomial_16 : decode cX10_leastPolynomial 16 = .ok (.aload_n 0, 1) := by decide +kernel
theorem dX10_leastPolynomial_17 : decode cX10_leastPolynomial 17 = .ok (.invokevirtual 150, 3) := by decide +kernel
theorem dX10_leastPolynomial_20 : decode cX10_leastPolynomial 20 = .ok (.aload_n 0, 1) := by decide +kernel
theorem dX10_leastPolynomial_21 : decode cX10_leastPolynomial 21 = .ok (.iload_n 1, 1) := by decide +kernel
theorem dX10_leastPolynomial_22 : decode cX10_leastPolynomial 22 = .ok (.iconst 2, 1) := by decide +kernel
theorem dX10_leastPolynomial_23 : decode cX10_leastPolynomial 23 = .ok (.invokevirtual 144, 3) := by decide +kernel
theorem dX10_leastPolynomial_26 : decode cX10_leastPolynomial 26 = .ok (.aload_n 0, 1) := by decide +kernel
theorem dX10_leastPolynomial_27 : decode cX10_leastPolynomial 27 = .ok (.invokevirtual 224, 3) := by decide +kernel
theorem dX10_leastPolynomial_30 : decode cX10_leastPolynomial 30 = .ok (.iload_n 2, 1) := by decide +kernel
theorem dX10_leastPolynomial_31 : decode cX10_leastPolynomial 31 = .ok (.aload_n 0, 1) := by decide +kernel
theorem dX10_leastPolynomial_32 : decode cX10_leastPolynomial 32 = .ok (.iconst 3, 1) := by decide +kernel
theorem dX10_leastPolynomial_33 : decode cX10_leastPolynomial 33 = .ok (.invokevirtual 70, 3) := by decide +kernel
theorem dX10_leastPolynomial_36 : decode cX10_leastPolynomial 36 = .ok (.if_icmp .gt 12, 3) := by decide +kernel
theorem dX10_leastPolynomial_39 : decode cX10_leastPolynomial 39 = .ok (.aload_n 0, 1) := by decide +kernel
theorem dX10_leastPolynomial_40 : decode cX10_leastPolynomial 40 = .ok (.iconst 3, 1) := by decide +kernel
theorem dX10_leastPolynomial_41 : decode cX10_leastPolynomial 41 = .ok (.iload_n 2, 1) := by decide +kernel
theorem dX10_leastPolynomial_42 : decode cX10_leastPolynomial 42 = .ok (.invokevirtual 55, 3) := by decide +kernel
theorem dX10_leastPolynomial_45 : decode cX10_leastPolynomial 45 = .ok (.goto 5, 3) := by decide +kernel
theorem dX10_leastPolynomial_48 : decode cX10_leastPolynomial 48 = .ok (.bipush (-5), 2) := by decide +kernel
theorem dX10_leastPolynomial_50 : decode cX10_leastPolynomial 50 = .ok (.ireturn, 1) := by decide +kernel
theorem dX10_trace_0 : decode cX10_trace 0 = .ok (.iload_n 1, 1) := by decide +kernel
theorem dX10_trace_1 : decode cX10_trace 1 = .ok (.invokestatic 156, 3) := by decide +kernel
theorem dX10_trace_4 : decode cX10_trace 4 = .ok (.ifCond .eq 5, 3) := by decide +kernel
theorem dX10_trace_7 : decode cX10_trace 7 = .ok (.iconst (-1), 1) := by decide +kernel
theorem dX10_trace_8 : decode cX10_trace 8 = .ok (.ireturn, 1) := by decide +kernel
theorem dX10_trace_9 : decode cX10_trace 9 = .ok (.aload_n 0, 1) := by decide +kernel
theorem dX10_trace_10 : decode cX10_trace 10 = .ok (.invokevirtual 150, 3) := by decide +kernel
theorem dX10_trace_13 : decode cX10_trace 13 = .ok (.aload_n 0, 1) := by decide +kernel
theorem dX10_trace_14 : decode cX10_trace 14 = .ok (.iload_n 1, 1) := by decide +kernel
theorem dX10_trace_15 : decode cX10_trace 15 = .ok (.iconst 2, 1) := by decide +kernel
theorem dX10_trace_16 : decode cX10_trace 16 = .ok (.invokevirtual 144, 3) := by decide +kernel
theorem dX10_trace_19 : decode cX10_trace 19 = .ok (.aload_n 0, 1) := by decide +kernel
theorem dX10_trace_20 : decode cX10_trace 20 = .ok (.iconst 3, 1) := by decide +kernel
theorem dX10_trace_21 : decode cX10_trace 21 = .ok (.invokevirtual 63, 3) := by decide +kernel
theorem dX10_trace_24 : decode cX10_trace 24 = .ok (.aload_n 0, 1) := by decide +kernel
theorem dX10_trace_25 : decode cX10_trace 25 = .ok (.iconst 3, 1) := by decide +kernel
theorem dX10_trace_26 : decode cX10_trace 26 = .ok (.iconst 1, 1) := by decide +kernel
theorem dX10_trace_27 : decode cX10_trace 27 = .ok (.iconst 1, 1) := by decide +kernel
theorem dX10_trace_28 : decode cX10_trace 28 = .ok (.invokevirtual 59, 3) := by decide +kernel
theorem dX10_trace_31 : decode cX10_trace 31 = .ok (.iconst 0, 1) := by decide +kernel
theorem dX10_trace_32 : decode cX10_trace 32 = .ok (.istore_n 2, 1) := by decide +kernel
theorem dX10_trace_33 : decode cX10_trace 33 = .ok (.iconst 0, 1) := by decide +kernel
theorem dX10_trace_34 : decode cX10_trace 34 = .ok (.istore_n 3, 1) := by decide +kernel
theorem dX10_trace_35 : decode cX10_trace 35 = .ok (.iload_n 3, 1) := by decide +kernel
theorem dX10_trace_36 : decode cX10_trace 36 = .ok (.aload_n 0, 1) := by decide +kernel
theorem dX10_trace_37 : decode cX10_trace 37 = .ok (.iconst 0, 1) := by decide +kernel
theorem dX10_trace_38 : decode cX10_trace 38 = .ok (.invokevirtual 70, 3) := by decide +kernel
theorem dX10_trace_41 : decode cX10_trace 41 = .ok (.if_icmp .ge 32, 3) := by decide +kernel
theorem dX10_trace_44 : decode cX10_trace 44 = .ok (.iload_n 2, 1) := by decide +kernel
theorem dX10_trace_45 : decode cX10_trace 45 = .ok (.aload_n 0, 1) := by decide +kernel
theorem dX10_trace_46 : decode cX10_trace 46 = .ok (.iconst 2, 1) := by decide +kernel
theorem dX10_trace_47 : decode cX10_trace 47 = .ok (.iload_n 3, 1) := by decide +kernel
theorem dX10_trace_48 : decode cX10_trace 48 = .ok (.invokevirtual 55, 3) := by decide +kernel
theorem dX10_trace_51 : decode cX10_trace 51 = .ok (.iadd, 1) := by decide +kernel
theorem dX10_trace_52 : decode cX10_trace 52 = .ok (.istore_n 2, 1) := by decide +kernel
theorem dX10_trace_53 : decode cX10_trace 53 = .ok (.aload_n 0, 1) := by decide +kernel
theorem dX10_trace_54 : decode cX10_trace 54 = .ok (.iconst 2, 1) := by decide +kernel
theorem dX10_trace_55 : decode cX10_trace 55 = .ok (.iconst 3, 1) := by decide +kernel
theorem dX10_trace_56 : decode cX10_trace 56 = .ok (.iconst 2, 1) := by decide +kernel
theorem dX10_trace_57 : decode cX10_trace 57 = .ok (.invokevirtual 90, 3) := by decide +kernel
theorem dX10_trace_60 : decode cX10_trace 60 = .ok (.aload_n 0, 1) := by decide +kernel
theorem dX10_trace_61 : decode cX10_trace 61 = .ok (.iconst 2, 1) := by decide +kernel
theorem dX10_trace_62 : decode cX10_trace 62 = .ok (.iconst 0, 1) := by decide +kernel
theorem dX10_trace_63 : decode cX10_trace 63 = .ok (.iconst (-1), 1) := by decide +kernel
theorem dX10_trace_64 : decode cX10_trace 64 = .ok (.invokevirtual 81, 3) := by decide +kernel
theorem dX10_trace_67 : decode cX10_trace 67 = .ok (.iinc 3 1, 3) := by decide +kernel
theorem dX10_trace_70 : decode cX10_trace 70 = .ok (.goto (-35), 3) := by decide +kernel
theorem dX10_trace_73 : decode cX10_trace 73 = .ok (.iload_n 2, 1) := by decide +kernel
theorem dX10_trace_74 : decode cX10_trace 74 = .ok (.aload_n 0, 1) := by decide +kernel
theorem dX10_trace_75 : decode cX10_trace 75 = .ok (.getfield 7, 3) := by decide +kernel
theorem dX10_trace_78 : decode cX10_trace 78 = .ok (.iconst 0, 1) := by decide +kernel
theorem dX10_trace_79 : decode cX10_trace 79 = .ok (.iaload, 1) := by decide +kernel
theorem dX10_trace_80 : decode cX10_trace 80 = .ok (.irem, 1) := by decide +kernel
theorem dX10_trace_81 : decode cX10_trace 81 = .ok (.ireturn, 1) := by decide +kernel
theorem dX10_isOne_0 : decode cX10_isOne 0 = .ok (.aload_n 0, 1) := by decide +kernel
theorem dX10_isOne_1 : decode cX10_isOne 1 = .ok (.iconst 2, 1) := by decide +kernel
theorem dX10_isOne_2 : decode cX10_isOne 2 = .ok (.iload_n 1, 1) := by decide +kernel
theorem dX10_isOne_3 : decode cX10_isOne 3 = .ok (.iconst 0, 1) := by decide +kernel
theorem dX10_isOne_4 : decode cX10_isOne 4 = .ok (.iconst 5, 1) := by decide +kernel
theorem dX10_isOne_5 : decode cX10_isOne 5 = .ok (.invokevirtual 174, 3) := by decide +kernel
theorem dX10_isOne_8 : decode cX10_isOne 8 = .ok (.aload_n 0, 1) := by decide +kernel
theorem dX10_isOne_9 : decode cX10_isOne 9 = .ok (.iconst 5, 1) := by decide +kernel
theorem dX10_isOne_10 : decode cX10_isOne 10 = .ok (.invokevirtual 70, 3) := by decide +kernel
theorem dX10_isOne_13 : decode cX10_isOne 13 = .ok (.ifCond .ne 17, 3) := by decide +kernel
theorem dX10_isOne_16 : decode cX10_isOne 16 = .ok (.aload_n 0, 1) := by decide +kernel
theorem dX10_isOne_17 : decode cX10_isOne 17 = .ok (.iconst 5, 1) := by decide +kernel
theorem dX10_isOne_18 : decode cX10_isOne 18 = .ok (.iconst 0, 1) := by decide +kernel
theorem dX10_isOne_19 : decode cX10_isOne 19 = .ok (.invokevirtual 55, 3) := by decide +kernel
theorem dX10_isOne_22 : decode cX10_isOne 22 = .ok (.iconst 1, 1) := by decide +kernel
theorem dX10_isOne_23 : decode cX10_isOne 23 = .ok (.if_icmp .ne 7, 3) := by decide +kernel
theorem dX10_isOne_26 : decode cX10_isOne 26 = .ok (.iconst 1, 1) := by decide +kernel
theorem dX10_isOne_27 : decode cX10_isOne 27 = .ok (.goto 4, 3) := by decide +kernel
theorem dX10_isOne_30 : decode cX10_isOne 30 = .ok (.iconst 0, 1) := by decide +kernel
theorem dX10_isOne_31 : decode cX10_isOne 31 = .ok (.ireturn, 1) := by decide +kernel
theorem dX10_divisor_0 : decode cX10_divisor 0 = .ok (.iload_n 0, 1) := by decide +kernel
theorem dX10_divisor_1 : decode cX10_divisor 1 = .ok (.istore_n 2, 1) := by decide +kernel
theorem dX10_divisor_2 : decode cX10_divisor 2 = .ok (.iload_n 1, 1) := by decide +kernel
theorem dX10_divisor_3 : decode cX10_divisor 3 = .ok (.istore_n 3, 1) := by decide +kernel
theorem dX10_divisor_4 : decode cX10_divisor 4 = .ok (.iload_n 3, 1) := by decide +kernel
theorem dX10_divisor_5 : decode cX10_divisor 5 = .ok (.ifCond .le 16, 3) := by decide +kernel
theorem dX10_divisor_8 : decode cX10_divisor 8 = .ok (.iload_n 2, 1) := by decide +kernel
theorem dX10_divisor_9 : decode cX10_divisor 9 = .ok (.iload_n 3, 1) := by decide +kernel
theorem dX10_divisor_10 : decode cX10_divisor 10 = .ok (.irem, 1) := by decide +kernel
theorem dX10_divisor_11 : decode cX10_divisor 11 = .ok (.istore 4, 2) := by decide +kernel
theorem dX10_divisor_13 : decode cX10_divisor 13 = .ok (.iload_n 3, 1) := by decide +kernel
theorem dX10_divisor_14 : decode cX10_divisor 14 = .ok (.istore_n 2, 1) := by decide +kernel
theorem dX10_divisor_15 : decode cX10_divisor 15 = .ok (.iload 4, 2) := by decide +kernel
theorem dX10_divisor_17 : decode cX10_divisor 17 = .ok (.istore_n 3, 1) := by decide +kernel
theorem dX10_divisor_18 : decode cX10_divisor 18 = .ok (.goto (-14), 3) := by decide +kernel
theorem dX10_divisor_21 : decode cX10_divisor 21 = .ok (.iload_n 2, 1) := by decide +kernel
theorem dX10_divisor_22 : decode cX10_divisor 22 = .ok (.ireturn, 1) := by decide +kernel
theorem dX10_countsFactors_0 : decode cX10_countsFactors 0 = .ok (.aload_n 0, 1) := by decide +kernel
theorem dX10_countsFactors_1 : decode cX10_countsFactors 1 = .ok (.invokevirtual 150, 3) := by decide +kernel
theorem dX10_countsFactors_4 : decode cX10_countsFactors 4 = .ok (.aload_n 0, 1) := by decide +kernel
theorem dX10_countsFactors_5 : decode cX10_countsFactors 5 = .ok (.iconst 0, 1) := by decide +kernel
theorem dX10_countsFactors_6 : decode cX10_countsFactors 6 = .ok (.iconst 1, 1) := by decide +kernel
theorem dX10_countsFactors_7 : decode cX10_countsFactors 7 = .ok (.invokevirtual 77, 3) := by decide +kernel
theorem dX10_countsFactors_10 : decode cX10_countsFactors 10 = .ok (.iconst 1, 1) := by decide +kernel
theorem dX10_countsFactors_11 : decode cX10_countsFactors 11 = .ok (.istore_n 1, 1) := by decide +kernel
theorem dX10_countsFactors_12 : decode cX10_countsFactors 12 = .ok (.iload_n 1, 1) := by decide +kernel
theorem dX10_countsFactors_13 : decode cX10_countsFactors 13 = .ok (.bipush 6, 2) := by decide +kernel
theorem dX10_countsFactors_15 : decode cX10_countsFactors 15 = .ok (.if_icmp .gt 43, 3) := by decide +kernel
theorem dX10_countsFactors_18 : decode cX10_countsFactors 18 = .ok (.aload_n 0, 1) := by decide +kernel
theorem dX10_countsFactors_19 : decode cX10_countsFactors 19 = .ok (.getfield 41, 3) := by decide +kernel
theorem dX10_countsFactors_22 : decode cX10_countsFactors 22 = .ok (.iload_n 1, 1) := by decide +kernel
theorem dX10_countsFactors_23 : decode cX10_countsFactors 23 = .ok (.iconst 0, 1) := by decide +kernel
theorem dX10_countsFactors_24 : decode cX10_countsFactors 24 = .ok (.iastore, 1) := by decide +kernel
theorem dX10_countsFactors_25 : decode cX10_countsFactors 25 = .ok (.aload_n 0, 1) := by decide +kernel
theorem dX10_countsFactors_26 : decode cX10_countsFactors 26 = .ok (.iconst 1, 1) := by decide +kernel
theorem dX10_countsFactors_27 : decode cX10_countsFactors 27 = .ok (.invokevirtual 70, 3) := by decide +kernel
theorem dX10_countsFactors_30 : decode cX10_countsFactors 30 = .ok (.ifCond .le 22, 3) := by decide +kernel
theorem dX10_countsFactors_33 : decode cX10_countsFactors 33 = .ok (.aload_n 0, 1) := by decide +kernel
theorem dX10_countsFactors_34 : decode cX10_countsFactors 34 = .ok (.iload_n 1, 1) := by decide +kernel
theorem dX10_countsFactors_35 : decode cX10_countsFactors 35 = .ok (.iconst 4, 1) := by decide +kernel
theorem dX10_countsFactors_36 : decode cX10_countsFactors 36 = .ok (.invokevirtual 178, 3) := by decide +kernel
theorem dX10_countsFactors_39 : decode cX10_countsFactors 39 = .ok (.aload_n 0, 1) := by decide +kernel
theorem dX10_countsFactors_40 : decode cX10_countsFactors 40 = .ok (.getfield 41, 3) := by decide +kernel
theorem dX10_countsFactors_43 : decode cX10_countsFactors 43 = .ok (.iload_n 1, 1) := by decide +kernel
theorem dX10_countsFactors_44 : decode cX10_countsFactors 44 = .ok (.aload_n 0, 1) := by decide +kernel
theorem dX10_countsFactors_45 : decode cX10_countsFactors 45 = .ok (.iconst 4, 1) := by decide +kernel
theorem dX10_countsFactors_46 : decode cX10_countsFactors 46 = .ok (.invokevirtual 70, 3) := by decide +kernel
theorem dX10_countsFactors_49 : decode cX10_countsFactors 49 = .ok (.iload_n 1, 1) := by decide +kernel
theorem dX10_countsFactors_50 : decode cX10_countsFactors 50 = .ok (.idiv, 1) := by decide +kernel
theorem dX10_countsFactors_51 : decode cX10_countsFactors 51 = .ok (.iastore, 1) := by decide +kernel
theorem dX10_countsFactors_52 : decode cX10_countsFactors 52 = .ok (.iinc 1 1, 3) := by decide +kernel
theorem dX10_countsFactors_55 : decode cX10_countsFactors 55 = .ok (.goto (-43), 3) := by decide +kernel
theorem dX10_countsFactors_58 : decode cX10_countsFactors 58 = .ok (.return_, 1) := by decide +kernel
theorem dX10_order_0 : decode cX10_order 0 = .ok (.iload_n 1, 1) := by decide +kernel
theorem dX10_order_1 : decode cX10_order 1 = .ok (.invokestatic 156, 3) := by decide +kernel
theorem dX10_order_4 : decode cX10_order 4 = .ok (.ifCond .eq 5, 3) := by decide +kernel
theorem dX10_order_7 : decode cX10_order 7 = .ok (.iconst (-1), 1) := by decide +kernel
theorem dX10_order_8 : decode cX10_order 8 = .ok (.ireturn, 1) := by decide +kernel
theorem dX10_order_9 : decode cX10_order 9 = .ok (.aload_n 0, 1) := by decide +kernel
theorem dX10_order_10 : decode cX10_order 10 = .ok (.invokevirtual 227, 3) := by decide +kernel
theorem dX10_order_13 : decode cX10_order 13 = .ok (.iconst 1, 1) := by decide +kernel
theorem dX10_order_14 : decode cX10_order 14 = .ok (.istore_n 2, 1) := by decide +kernel
theorem dX10_order_15 : decode cX10_order 15 = .ok (.iconst 1, 1) := by decide +kernel
theorem dX10_order_16 : decode cX10_order 16 = .ok (.istore_n 3, 1) := by decide +kernel
theorem dX10_order_17 : decode cX10_order 17 = .ok (.iconst 1, 1) := by decide +kernel
theorem dX10_order_18 : decode cX10_order 18 = .ok (.istore 4, 2) := by decide +kernel
theorem dX10_order_20 : decode cX10_order 20 = .ok (.iload 4, 2) := by decide +kernel
theorem dX10_order_22 : decode cX10_order 22 = .ok (.bipush 6, 2) := by decide +kernel
theorem dX10_order_24 : decode cX10_order 24 = .ok (.if_icmp .gt 46, 3) := by decide +kernel
theorem dX10_order_27 : decode cX10_order 27 = .ok (.iload_n 3, 1) := by decide +kernel
theorem dX10_order_28 : decode cX10_order 28 = .ok (.aload_n 0, 1) := by decide +kernel
theorem dX10_order_29 : decode cX10_order 29 = .ok (.getfield 7, 3) := by decide +kernel
theorem dX10_order_32 : decode cX10_order 32 = .ok (.iconst 0, 1) := by decide +kernel
theorem dX10_order_33 : decode cX10_order 33 = .ok (.iaload, 1) := by decide +kernel
theorem dX10_order_34 : decode cX10_order 34 = .ok (.imul, 1) := by decide +kernel
theorem dX10_order_35 : decode cX10_order 35 = .ok (.istore_n 3, 1) := by decide +kernel
theorem dX10_order_36 : decode cX10_order 36 = .ok (.aload_n 0, 1) := by decide +kernel
theorem dX10_order_37 : decode cX10_order 37 = .ok (.getfield 41, 3) := by decide +kernel
theorem dX10_order_40 : decode cX10_order 40 = .ok (.iload 4, 2) := by decide +kernel
theorem dX10_order_42 : decode cX10_order 42 = .ok (.iaload, 1) := by decide +kernel
theorem dX10_order_43 : decode cX10_order 43 = .ok (.ifCond .le 19, 3) := by decide +kernel
theorem dX10_order_46 : decode cX10_order 46 = .ok (.iload_n 2, 1) := by decide +kernel
theorem dX10_order_47 : decode cX10_order 47 = .ok (.iload_n 2, 1) := by decide +kernel
theorem dX10_order_48 : decode cX10_order 48 = .ok (.iload_n 3, 1) := by decide +kernel
theorem dX10_order_49 : decode cX10_order 49 = .ok (.iconst 1, 1) := by decide +kernel
theorem dX10_order_50 : decode cX10_order 50 = .ok (.isub, 1) := by decide +kernel
theorem dX10_order_51 : decode cX10_order 51 = .ok (.invokestatic 230, 3) := by decide +kernel
theorem dX10_order_54 : decode cX10_order 54 = .ok (.idiv, 1) := by decide +kernel
theorem dX10_order_55 : decode cX10_order 55 = .ok (.iload_n 3, 1) := by decide +kernel
theorem dX10_order_56 : decode cX10_order 56 = .ok (.iconst 1, 1) := by decide +kernel
theorem dX10_order_57 : decode cX10_order 57 = .ok (.isub, 1) := by decide +kernel
theorem dX10_order_58 : decode cX10_order 58 = .ok (.imul, 1) := by decide +kernel
theorem dX10_order_59 : decode cX10_order 59 = .ok (.goto 4, 3) := by decide +kernel
theorem dX10_order_62 : decode cX10_order 62 = .ok (.iload_n 2, 1) := by decide +kernel
theorem dX10_order_63 : decode cX10_order 63 = .ok (.istore_n 2, 1) := by decide +kernel
theorem dX10_order_64 : decode cX10_order 64 = .ok (.iinc 4 1, 3) := by decide +kernel
theorem dX10_order_67 : decode cX10_order 67 = .ok (.goto (-47), 3) := by decide +kernel
theorem dX10_order_70 : decode cX10_order 70 = .ok (.aload_n 0, 1) := by decide +kernel
theorem dX10_order_71 : decode cX10_order 71 = .ok (.iload_n 1, 1) := by decide +kernel
theorem dX10_order_72 : decode cX10_order 72 = .ok (.iconst 2, 1) := by decide +kernel
theorem dX10_order_73 : decode cX10_order 73 = .ok (.invokevirtual 144, 3) := by decide +kernel
theorem dX10_order_76 : decode cX10_order 76 = .ok (.aload_n 0, 1) := by decide +kernel
theorem dX10_order_77 : decode cX10_order 77 = .ok (.iload_n 2, 1) := by decide +kernel
theorem dX10_order_78 : decode cX10_order 78 = .ok (.invokevirtual 233, 3) := by decide +kernel
theorem dX10_order_81 : decode cX10_order 81 = .ok (.ifCond .ne 6, 3) := by decide +kernel
theorem dX10_order_84 : decode cX10_order 84 = .ok (.bipush (-5), 2) := by decide +kernel
theorem dX10_order_86 : decode cX10_order 86 = .ok (.ireturn, 1) := by decide +kernel
theorem dX10_order_87 : decode cX10_order 87 = .ok (.iload_n 2, 1) := by decide +kernel
theorem dX10_order_88 : decode cX10_order 88 = .ok (.istore 4, 2) := by decide +kernel
theorem dX10_order_90 : decode cX10_order 90 = .ok (.iconst 2, 1) := by decide +kernel
theorem dX10_order_91 : decode cX10_order 91 = .ok (.istore 5, 2) := by decide +kernel
theorem dX10_order_93 : decode cX10_order 93 = .ok (.iload 4, 2) := by decide +kernel
theorem dX10_order_95 : decode cX10_order 95 = .ok (.iconst 1, 1) := by decide +kernel
theorem dX10_order_96 : decode cX10_order 96 = .ok (.if_icmp .le 47, 3) := by decide +kernel
theorem dX10_order_99 : decode cX10_order 99 = .ok (.iload 4, 2) := by decide +kernel
theorem dX10_order_101 : decode cX10_order 101 = .ok (.iload 5, 2) := by decide +kernel
theorem dX10_order_103 : decode cX10_order 103 = .ok (.irem, 1) := by decide +kernel
theorem dX10_order_104 : decode cX10_order 104 = .ok (.ifCond .ne 33, 3) := by decide +kernel
theorem dX10_order_107 : decode cX10_order 107 = .ok (.iload 4, 2) := by decide +kernel
theorem dX10_order_109 : decode cX10_order 109 = .ok (.iload 5, 2) := by decide +kernel
theorem dX10_order_111 : decode cX10_order 111 = .ok (.idiv, 1) := by decide +kernel
theorem dX10_order_112 : decode cX10_order 112 = .ok (.istore 4, 2) := by decide +kernel
theorem dX10_order_114 : decode cX10_order 114 = .ok (.aload_n 0, 1) := by decide +kernel
theorem dX10_order_115 : decode cX10_order 115 = .ok (.iload_n 2, 1) := by decide +kernel
theorem dX10_order_116 : decode cX10_order 116 = .ok (.iload 5, 2) := by decide +kernel
theorem dX10_order_118 : decode cX10_order 118 = .ok (.idiv, 1) := by decide +kernel
theorem dX10_order_119 : decode cX10_order 119 = .ok (.invokevirtual 233, 3) := by decide +kernel
theorem dX10_order_122 : decode cX10_order 122 = .ok (.ifCond .eq 10, 3) := by decide +kernel
theorem dX10_order_125 : decode cX10_order 125 = .ok (.iload_n 2, 1) := by decide +kernel
theorem dX10_order_126 : decode cX10_order 126 = .ok (.iload 5, 2) := by decide +kernel
theorem dX10_order_128 : decode cX10_order 128 = .ok (.idiv, 1) := by decide +kernel
theorem dX10_order_129 : decode cX10_order 129 = .ok (.goto 4, 3) := by decide +kernel
theorem dX10_order_132 : decode cX10_order 132 = .ok (.iload_n 2, 1) := by decide +kernel
theorem dX10_order_133 : decode cX10_order 133 = .ok (.istore_n 2, 1) := by decide +kernel
theorem dX10_order_134 : decode cX10_order 134 = .ok (.goto (-35), 3) := by decide +kernel
theorem dX10_order_137 : decode cX10_order 137 = .ok (.iinc 5 1, 3) := by decide +kernel
theorem dX10_order_140 : decode cX10_order 140 = .ok (.goto (-47), 3) := by decide +kernel
theorem dX10_order_143 : decode cX10_order 143 = .ok (.iload_n 2, 1) := by decide +kernel
theorem dX10_order_144 : decode cX10_order 144 = .ok (.ireturn, 1) := by decide +kernel
theorem dX10_factors_0 : decode cX10_factors 0 = .ok (.iload_n 1, 1) := by decide +kernel
theorem dX10_factors_1 : decode cX10_factors 1 = .ok (.iconst 1, 1) := by decide +kernel
theorem dX10_factors_2 : decode cX10_factors 2 = .ok (.bipush 6, 2) := by decide +kernel
theorem dX10_factors_4 : decode cX10_factors 4 = .ok (.invokestatic 47, 3) := by decide +kernel
theorem dX10_factors_7 : decode cX10_factors 7 = .ok (.ifCond .ne 6, 3) := by decide +kernel
theorem dX10_factors_10 : decode cX10_factors 10 = .ok (.bipush (-2), 2) := by decide +kernel
theorem dX10_factors_12 : decode cX10_factors 12 = .ok (.ireturn, 1) := by decide +kernel
theorem dX10_factors_13 : decode cX10_factors 13 = .ok (.aload_n 0, 1) := by decide +kernel
theorem dX10_factors_14 : decode cX10_factors 14 = .ok (.invokevirtual 227, 3) := by decide +kernel
theorem dX10_factors_17 : decode cX10_factors 17 = .ok (.aload_n 0, 1) := by decide +kernel
theorem dX10_factors_18 : decode cX10_factors 18 = .ok (.getfield 41, 3) := by decide +kernel
theorem dX10_factors_21 : decode cX10_factors 21 = .ok (.iload_n 1, 1) := by decide +kernel
theorem dX10_factors_22 : decode cX10_factors 22 = .ok (.iaload, 1) := by decide +kernel
theorem dX10_factors_23 : decode cX10_factors 23 = .ok (.ireturn, 1) := by decide +kernel
theorem dX10_allFactors_0 : decode cX10_allFactors 0 = .ok (.aload_n 0, 1) := by decide +kernel
theorem dX10_allFactors_1 : decode cX10_allFactors 1 = .ok (.invokevirtual 227, 3) := by decide +kernel
theorem dX10_allFactors_4 : decode cX10_allFactors 4 = .ok (.aload_n 0, 1) := by decide +kernel
theorem dX10_allFactors_5 : decode cX10_allFactors 5 = .ok (.getfield 41, 3) := by decide +kernel
theorem dX10_allFactors_8 : decode cX10_allFactors 8 = .ok (.iconst 1, 1) := by decide +kernel
theorem dX10_allFactors_9 : decode cX10_allFactors 9 = .ok (.iaload, 1) := by decide +kernel
theorem dX10_allFactors_10 : decode cX10_allFactors 10 = .ok (.aload_n 0, 1) := by decide +kernel
theorem dX10_allFactors_11 : decode cX10_allFactors 11 = .ok (.getfield 41, 3) := by decide +kernel
theorem dX10_allFactors_14 : decode cX10_allFactors 14 = .ok (.iconst 2, 1) := by decide +kernel
theorem dX10_allFactors_15 : decode cX10_allFactors 15 = .ok (.iaload, 1) := by decide +kernel
theorem dX10_allFactors_16 : decode cX10_allFactors 16 = .ok (.iadd, 1) := by decide +kernel
theorem dX10_allFactors_17 : decode cX10_allFactors 17 = .ok (.aload_n 0, 1) := by decide +kernel
theorem dX10_allFactors_18 : decode cX10_allFactors 18 = .ok (.getfield 41, 3) := by decide +kernel
theorem dX10_allFactors_21 : decode cX10_allFactors 21 = .ok (.iconst 3, 1) := by decide +kernel
theorem dX10_allFactors_22 : decode cX10_allFactors 22 = .ok (.iaload, 1) := by decide +kernel
theorem dX10_allFactors_23 : decode cX10_allFactors 23 = .ok (.iadd, 1) := by decide +kernel
theorem dX10_allFactors_24 : decode cX10_allFactors 24 = .ok (.aload_n 0, 1) := by decide +kernel
theorem dX10_allFactors_25 : decode cX10_allFactors 25 = .ok (.getfield 41, 3) := by decide +kernel
theorem dX10_allFactors_28 : decode cX10_allFactors 28 = .ok (.iconst 4, 1) := by decide +kernel
theorem dX10_allFactors_29 : decode cX10_allFactors 29 = .ok (.iaload, 1) := by decide +kernel
theorem dX10_allFactors_30 : decode cX10_allFactors 30 = .ok (.iadd, 1) := by decide +kernel
theorem dX10_allFactors_31 : decode cX10_allFactors 31 = .ok (.aload_n 0, 1) := by decide +kernel
theorem dX10_allFactors_32 : decode cX10_allFactors 32 = .ok (.getfield 41, 3) := by decide +kernel
theorem dX10_allFactors_35 : decode cX10_allFactors 35 = .ok (.iconst 5, 1) := by decide +kernel
theorem dX10_allFactors_36 : decode cX10_allFactors 36 = .ok (.iaload, 1) := by decide +kernel
theorem dX10_allFactors_37 : decode cX10_allFactors 37 = .ok (.iadd, 1) := by decide +kernel
theorem dX10_allFactors_38 : decode cX10_allFactors 38 = .ok (.aload_n 0, 1) := by decide +kernel
theorem dX10_allFactors_39 : decode cX10_allFactors 39 = .ok (.getfield 41, 3) := by decide +kernel
theorem dX10_allFactors_42 : decode cX10_allFactors 42 = .ok (.bipush 6, 2) := by decide +kernel
theorem dX10_allFactors_44 : decode cX10_allFactors 44 = .ok (.iaload, 1) := by decide +kernel
theorem dX10_allFactors_45 : decode cX10_allFactors 45 = .ok (.iadd, 1) := by decide +kernel
theorem dX10_allFactors_46 : decode cX10_allFactors 46 = .ok (.ireturn, 1) := by decide +kernel
theorem dX10_zeros_0 : decode cX10_zeros 0 = .ok (.iconst 0, 1) := by decide +kernel
theorem dX10_zeros_1 : decode cX10_zeros 1 = .ok (.istore_n 1, 1) := by decide +kernel
theorem dX10_zeros_2 : decode cX10_zeros 2 = .ok (.iconst 0, 1) := by decide +kernel
theorem dX10_zeros_3 : decode cX10_zeros 3 = .ok (.istore_n 2, 1) := by decide +kernel
theorem dX10_zeros_4 : decode cX10_zeros 4 = .ok (.iload_n 2, 1) := by decide +kernel
theorem dX10_zeros_5 : decode cX10_zeros 5 = .ok (.bipush 6, 2) := by decide +kernel
theorem dX10_zeros_7 : decode cX10_zeros 7 = .ok (.if_icmp .ge 31, 3) := by decide +kernel
theorem dX10_zeros_10 : decode cX10_zeros 10 = .ok (.aload_n 0, 1) := by decide +kernel
theorem dX10_zeros_11 : decode cX10_zeros 11 = .ok (.iload_n 2, 1) := by decide +kernel
theorem dX10_zeros_12 : decode cX10_zeros 12 = .ok (.iconst 2, 1) := by decide +kernel
theorem dX10_zeros_13 : decode cX10_zeros 13 = .ok (.invokevirtual 144, 3) := by decide +kernel
theorem dX10_zeros_16 : decode cX10_zeros 16 = .ok (.iload_n 1, 1) := by decide +kernel
theorem dX10_zeros_17 : decode cX10_zeros 17 = .ok (.aload_n 0, 1) := by decide +kernel
theorem dX10_zeros_18 : decode cX10_zeros 18 = .ok (.iconst 2, 1) := by decide +kernel
theorem dX10_zeros_19 : decode cX10_zeros 19 = .ok (.invokevirtual 70, 3) := by decide +kernel
theorem dX10_zeros_22 : decode cX10_zeros 22 = .ok (.ifCond .ge 7, 3) := by decide +kernel
theorem dX10_zeros_25 : decode cX10_zeros 25 = .ok (.iconst 1, 1) := by decide +kernel
theorem dX10_zeros_26 : decode cX10_zeros 26 = .ok (.goto 4, 3) := by decide +kernel
theorem dX10_zeros_29 : decode cX10_zeros 29 = .ok (.iconst 0, 1) := by decide +kernel
theorem dX10_zeros_30 : decode cX10_zeros 30 = .ok (.iadd, 1) := by decide +kernel
theorem dX10_zeros_31 : decode cX10_zeros 31 = .ok (.istore_n 1, 1) := by decide +kernel
theorem dX10_zeros_32 : decode cX10_zeros 32 = .ok (.iinc 2 1, 3) := by decide +kernel
theorem dX10_zeros_35 : decode cX10_zeros 35 = .ok (.goto (-31), 3) := by decide +kernel
theorem dX10_zeros_38 : decode cX10_zeros 38 = .ok (.iload_n 1, 1) := by decide +kernel
theorem dX10_zeros_39 : decode cX10_zeros 39 = .ok (.ireturn, 1) := by decide +kernel
theorem dX10_count_0 : decode cX10_count 0 = .ok (.iload_n 1, 1) := by decide +kernel
theorem dX10_count_1 : decode cX10_count 1 = .ok (.tableswitch 101 0 7 #[47, 54, 59, 67, 72, 86, 91, 96], 47) := by decide +kernel
theorem dX10_count_48 : decode cX10_count 48 = .ok (.aload_n 0, 1) := by decide +kernel
theorem dX10_count_49 : decode cX10_count 49 = .ok (.getfield 7, 3) := by decide +kernel
theorem dX10_count_52 : decode cX10_count 52 = .ok (.iconst 0, 1) := by decide +kernel
theorem dX10_count_53 : decode cX10_count 53 = .ok (.iaload, 1) := by decide +kernel
theorem dX10_count_54 : decode cX10_count 54 = .ok (.ireturn, 1) := by decide +kernel
theorem dX10_count_55 : decode cX10_count 55 = .ok (.aload_n 0, 1) := by decide +kernel
theorem dX10_count_56 : decode cX10_count 56 = .ok (.invokevirtual 153, 3) := by decide +kernel
theorem dX10_count_59 : decode cX10_count 59 = .ok (.ireturn, 1) := by decide +kernel
theorem dX10_count_60 : decode cX10_count 60 = .ok (.aload_n 0, 1) := by decide +kernel
theorem dX10_count_61 : decode cX10_count 61 = .ok (.getfield 7, 3) := by decide +kernel
theorem dX10_count_64 : decode cX10_count 64 = .ok (.bipush 44, 2) := by decide +kernel
theorem dX10_count_66 : decode cX10_count 66 = .ok (.iaload, 1) := by decide +kernel
theorem dX10_count_67 : decode cX10_count 67 = .ok (.ireturn, 1) := by decide +kernel
theorem dX10_count_68 : decode cX10_count 68 = .ok (.aload_n 0, 1) := by decide +kernel
theorem dX10_count_69 : decode cX10_count 69 = .ok (.invokevirtual 236, 3) := by decide +kernel
theorem dX10_count_72 : decode cX10_count 72 = .ok (.ireturn, 1) := by decide +kernel
theorem dX10_count_73 : decode cX10_count 73 = .ok (.aload_n 0, 1) := by decide +kernel
theorem dX10_count_74 : decode cX10_count 74 = .ok (.aload_n 0, 1) := by decide +kernel
theorem dX10_count_75 : decode cX10_count 75 = .ok (.getfield 7, 3) := by decide +kernel
theorem dX10_count_78 : decode cX10_count 78 = .ok (.bipush 44, 2) := by decide +kernel
theorem dX10_count_80 : decode cX10_count 80 = .ok (.iaload, 1) := by decide +kernel
theorem dX10_count_81 : decode cX10_count 81 = .ok (.iconst 1, 1) := by decide +kernel
theorem dX10_count_82 : decode cX10_count 82 = .ok (.isub, 1) := by decide +kernel
theorem dX10_count_83 : decode cX10_count 83 = .ok (.invokevirtual 220, 3) := by decide +kernel
theorem dX10_count_86 : decode cX10_count 86 = .ok (.ireturn, 1) := by decide +kernel
theorem dX10_count_87 : decode cX10_count 87 = .ok (.aload_n 0, 1) := by decide +kernel
theorem dX10_count_88 : decode cX10_count 88 = .ok (.invokevirtual 239, 3) := by decide +kernel
theorem dX10_count_91 : decode cX10_count 91 = .ok (.ireturn, 1) := by decide +kernel
theorem dX10_count_92 : decode cX10_count 92 = .ok (.aload_n 0, 1) := by decide +kernel
theorem dX10_count_93 : decode cX10_count 93 = .ok (.getfield 51, 3) := by decide +kernel
theorem dX10_count_96 : decode cX10_count 96 = .ok (.ireturn, 1) := by decide +kernel
theorem dX10_count_97 : decode cX10_count 97 = .ok (.aload_n 0, 1) := by decide +kernel
theorem dX10_count_98 : decode cX10_count 98 = .ok (.getfield 187, 3) := by decide +kernel
theorem dX10_count_101 : decode cX10_count 101 = .ok (.ireturn, 1) := by decide +kernel
theorem dX10_count_102 : decode cX10_count 102 = .ok (.bipush (-2), 2) := by decide +kernel
theorem dX10_count_104 : decode cX10_count 104 = .ok (.ireturn, 1) := by decide +kernel
theorem dL_law_0 : decode cL_law 0 = .ok (.new 7, 3) := by decide +kernel
theorem dL_law_3 : decode cL_law 3 = .ok (.dup, 1) := by decide +kernel
theorem dL_law_4 : decode cL_law 4 = .ok (.invokespecial 9, 3) := by decide +kernel
theorem dL_law_7 : decode cL_law 7 = .ok (.astore_n 1, 1) := by decide +kernel
theorem dL_law_8 : decode cL_law 8 = .ok (.new 10, 3) := by decide +kernel
theorem dL_law_11 : decode cL_law 11 = .ok (.dup, 1) := by decide +kernel
theorem dL_law_12 : decode cL_law 12 = .ok (.invokespecial 12, 3) := by decide +kernel
theorem dL_law_15 : decode cL_law 15 = .ok (.astore_n 2, 1) := by decide +kernel
theorem dL_law_16 : decode cL_law 16 = .ok (.iconst 0, 1) := by decide +kernel
theorem dL_law_17 : decode cL_law 17 = .ok (.istore_n 3, 1) := by decide +kernel
theorem dL_law_18 : decode cL_law 18 = .ok (.iload_n 3, 1) := by decide +kernel
theorem dL_law_19 : decode cL_law 19 = .ok (.aload_n 0, 1) := by decide +kernel
theorem dL_law_20 : decode cL_law 20 = .ok (.arraylength, 1) := by decide +kernel
theorem dL_law_21 : decode cL_law 21 = .ok (.iconst 4, 1) := by decide +kernel
theorem dL_law_22 : decode cL_law 22 = .ok (.isub, 1) := by decide +kernel
theorem dL_law_23 : decode cL_law 23 = .ok (.if_icmp .gt 805, 3) := by decide +kernel
theorem dL_law_26 : decode cL_law 26 = .ok (.aload_n 0, 1) := by decide +kernel
theorem dL_law_27 : decode cL_law 27 = .ok (.iload_n 3, 1) := by decide +kernel
theorem dL_law_28 : decode cL_law 28 = .ok (.iaload, 1) := by decide +kernel
theorem dL_law_29 : decode cL_law 29 = .ok (.bipush 31, 2) := by decide +kernel
theorem dL_law_31 : decode cL_law 31 = .ok (.iand, 1) := by decide +kernel
theorem dL_law_32 : decode cL_law 32 = .ok (.tableswitch 790 0 25 #[120, 143, 156, 199, 212, 255, 278, 291, 324, 347, 372, 385, 398, 411, 424, 447, 480, 513, 556, 589, 622, 665, 698, 721, 744, 767], 120) := by decide +kernel
theorem dL_law_152 : decode cL_law 152 = .ok (.aload_n 1, 1) := by decide +kernel
theorem dL_law_153 : decode cL_law 153 = .ok (.aload_n 0, 1) := by decide +kernel
theorem dL_law_154 : decode cL_law 154 = .ok (.iload_n 3, 1) := by decide +kernel
theorem dL_law_155 : decode cL_law 155 = .ok (.iconst 1, 1) := by decide +kernel
theorem dL_law_156 : decode cL_law 156 = .ok (.iadd, 1) := by decide +kernel
theorem dL_law_157 : decode cL_law 157 = .ok (.iaload, 1) := by decide +kernel
theorem dL_law_158 : decode cL_law 158 = .ok (.invokevirtual 13, 3) := by decide +kernel
theorem dL_law_161 : decode cL_law 161 = .ok (.aload_n 2, 1) := by decide +kernel
theorem dL_law_162 : decode cL_law 162 = .ok (.aload_n 0, 1) := by decide +kernel
theorem dL_law_163 : decode cL_law 163 = .ok (.iload_n 3, 1) := by decide +kernel
theorem dL_law_164 : decode cL_law 164 = .ok (.iconst 1, 1) := by decide +kernel
theorem dL_law_165 : decode cL_law 165 = .ok (.iadd, 1) := by decide +kernel
theorem dL_law_166 : decode cL_law 166 = .ok (.iaload, 1) := by decide +kernel
theorem dL_law_167 : decode cL_law 167 = .ok (.invokevirtual 17, 3) := by decide +kernel
theorem dL_law_170 : decode cL_law 170 = .ok (.if_icmp .eq 652, 3) := by decide +kernel
theorem dL_law_173 : decode cL_law 173 = .ok (.iconst 0, 1) := by decide +kernel
theorem dL_law_174 : decode cL_law 174 = .ok (.ireturn, 1) := by decide +kernel
theorem dL_law_175 : decode cL_law 175 = .ok (.aload_n 1, 1) := by decide +kernel
theorem dL_law_176 : decode cL_law 176 = .ok (.invokevirtual 18, 3) := by decide +kernel
theorem dL_law_179 : decode cL_law 179 = .ok (.aload_n 2, 1) := by decide +kernel
theorem dL_law_180 : decode cL_law 180 = .ok (.invokevirtual 22, 3) := by decide +kernel
theorem dL_law_183 : decode cL_law 183 = .ok (.if_icmp .eq 639, 3) := by decide +kernel
theorem dL_law_186 : decode cL_law 186 = .ok (.iconst 0, 1) := by decide +kernel
theorem dL_law_187 : decode cL_law 187 = .ok (.ireturn, 1) := by decide +kernel
theorem dL_law_188 : decode cL_law 188 = .ok (.aload_n 1, 1) := by decide +kernel
theorem dL_law_189 : decode cL_law 189 = .ok (.aload_n 0, 1) := by decide +kernel
theorem dL_law_190 : decode cL_law 190 = .ok (.iload_n 3, 1) := by decide +kernel
theorem dL_law_191 : decode cL_law 191 = .ok (.iconst 1, 1) := by decide +kernel
theorem dL_law_192 : decode cL_law 192 = .ok (.iadd, 1) := by decide +kernel
theorem dL_law_193 : decode cL_law 193 = .ok (.iaload, 1) := by decide +kernel
theorem dL_law_194 : decode cL_law 194 = .ok (.aload_n 0, 1) := by decide +kernel
theorem dL_law_195 : decode cL_law 195 = .ok (.iload_n 3, 1) := by decide +kernel
theorem dL_law_196 : decode cL_law 196 = .ok (.iconst 2, 1) := by decide +kernel
theorem dL_law_197 : decode cL_law 197 = .ok (.iadd, 1) := by decide +kernel
theorem dL_law_198 : decode cL_law 198 = .ok (.iaload, 1) := by decide +kernel
theorem dL_law_199 : decode cL_law 199 = .ok (.aload_n 0, 1) := by decide +kernel
theorem dL_law_200 : decode cL_law 200 = .ok (.iload_n 3, 1) := by decide +kernel
theorem dL_law_201 : decode cL_law 201 = .ok (.iconst 3, 1) := by decide +kernel
theorem dL_law_202 : decode cL_law 202 = .ok (.iadd, 1) := by decide +kernel
theorem dL_law_203 : decode cL_law 203 = .ok (.iaload, 1) := by decide +kernel
theorem dL_law_204 : decode cL_law 204 = .ok (.invokevirtual 23, 3) := by decide +kernel
theorem dL_law_207 : decode cL_law 207 = .ok (.aload_n 2, 1) := by decide +kernel
theorem dL_law_208 : decode cL_law 208 = .ok (.aload_n 0, 1) := by decide +kernel
theorem dL_law_209 : decode cL_law 209 = .ok (.iload_n 3, 1) := by decide +kernel
theorem dL_law_210 : decode cL_law 210 = .ok (.iconst 1, 1) := by decide +kernel
theorem dL_law_211 : decode cL_law 211 = .ok (.iadd, 1) := by decide +kernel
theorem dL_law_212 : decode cL_law 212 = .ok (.iaload, 1) := by decide +kernel
theorem dL_law_213 : decode cL_law 213 = .ok (.aload_n 0, 1) := by decide +kernel
theorem dL_law_214 : decode cL_law 214 = .ok (.iload_n 3, 1) := by decide +kernel
theorem dL_law_215 : decode cL_law 215 = .ok (.iconst 2, 1) := by decide +kernel
theorem dL_law_216 : decode cL_law 216 = .ok (.iadd, 1) := by decide +kernel
theorem dL_law_217 : decode cL_law 217 = .ok (.iaload, 1) := by decide +kernel
theorem dL_law_218 : decode cL_law 218 = .ok (.aload_n 0, 1) := by decide +kernel
theorem dL_law_219 : decode cL_law 219 = .ok (.iload_n 3, 1) := by decide +kernel
theorem dL_law_220 : decode cL_law 220 = .ok (.iconst 3, 1) := by decide +kernel
theorem dL_law_221 : decode cL_law 221 = .ok (.iadd, 1) := by decide +kernel
theorem dL_law_222 : decode cL_law 222 = .ok (.iaload, 1) := by decide +kernel
theorem dL_law_223 : decode cL_law 223 = .ok (.invokevirtual 27, 3) := by decide +kernel
theorem dL_law_226 : decode cL_law 226 = .ok (.if_icmp .eq 596, 3) := by decide +kernel
theorem dL_law_229 : decode cL_law 229 = .ok (.iconst 0, 1) := by decide +kernel
theorem dL_law_230 : decode cL_law 230 = .ok (.ireturn, 1) := by decide +kernel
theorem dL_law_231 : decode cL_law 231 = .ok (.aload_n 1, 1) := by decide +kernel
theorem dL_law_232 : decode cL_law 232 = .ok (.invokevirtual 28, 3) := by decide +kernel
theorem dL_law_235 : decode cL_law 235 = .ok (.aload_n 2, 1) := by decide +kernel
theorem dL_law_236 : decode cL_law 236 = .ok (.invokevirtual 31, 3) := by decide +kernel
theorem dL_law_239 : decode cL_law 239 = .ok (.if_icmp .eq 583, 3) := by decide +kernel
theorem dL_law_242 : decode cL_law 242 = .ok (.iconst 0, 1) := by decide +kernel
theorem dL_law_243 : decode cL_law 243 = .ok (.ireturn, 1) := by decide +kernel
theorem dL_law_244 : decode cL_law 244 = .ok (.aload_n 1, 1) := by decide +kernel
theorem dL_law_245 : decode cL_law 245 = .ok (.aload_n 0, 1) := by decide +kernel
theorem dL_law_246 : decode cL_law 246 = .ok (.iload_n 3, 1) := by decide +kernel
theorem dL_law_247 : decode cL_law 247 = .ok (.iconst 1, 1) := by decide +kernel
theorem dL_law_248 : decode cL_law 248 = .ok (.iadd, 1) := by decide +kernel
theorem dL_law_249 : decode cL_law 249 = .ok (.iaload, 1) := by decide +kernel
theorem dL_law_250 : decode cL_law 250 = .ok (.aload_n 0, 1) := by decide +kernel
theorem dL_law_251 : decode cL_law 251 = .ok (.iload_n 3, 1) := by decide +kernel
theorem dL_law_252 : decode cL_law 252 = .ok (.iconst 2, 1) := by decide +kernel
theorem dL_law_253 : decode cL_law 253 = .ok (.iadd, 1) := by decide +kernel
theorem dL_law_254 : decode cL_law 254 = .ok (.iaload, 1) := by decide +kernel
theorem dL_law_255 : decode cL_law 255 = .ok (.aload_n 0, 1) := by decide +kernel
theorem dL_law_256 : decode cL_law 256 = .ok (.iload_n 3, 1) := by decide +kernel
theorem dL_law_257 : decode cL_law 257 = .ok (.iconst 3, 1) := by decide +kernel
theorem dL_law_258 : decode cL_law 258 = .ok (.iadd, 1) := by decide +kernel
theorem dL_law_259 : decode cL_law 259 = .ok (.iaload, 1) := by decide +kernel
theorem dL_law_260 : decode cL_law 260 = .ok (.invokevirtual 32, 3) := by decide +kernel
theorem dL_law_263 : decode cL_law 263 = .ok (.aload_n 2, 1) := by decide +kernel
theorem dL_law_264 : decode cL_law 264 = .ok (.aload_n 0, 1) := by decide +kernel
theorem dL_law_265 : decode cL_law 265 = .ok (.iload_n 3, 1) := by decide +kernel
theorem dL_law_266 : decode cL_law 266 = .ok (.iconst 1, 1) := by decide +kernel
theorem dL_law_267 : decode cL_law 267 = .ok (.iadd, 1) := by decide +kernel
theorem dL_law_268 : decode cL_law 268 = .ok (.iaload, 1) := by decide +kernel
theorem dL_law_269 : decode cL_law 269 = .ok (.aload_n 0, 1) := by decide +kernel
theorem dL_law_270 : decode cL_law 270 = .ok (.iload_n 3, 1) := by decide +kernel
theorem dL_law_271 : decode cL_law 271 = .ok (.iconst 2, 1) := by decide +kernel
theorem dL_law_272 : decode cL_law 272 = .ok (.iadd, 1) := by decide +kernel
theorem dL_law_273 : decode cL_law 273 = .ok (.iaload, 1) := by decide +kernel
theorem dL_law_274 : decode cL_law 274 = .ok (.aload_n 0, 1) := by decide +kernel
theorem dL_law_275 : decode cL_law 275 = .ok (.iload_n 3, 1) := by decide +kernel
theorem dL_law_276 : decode cL_law 276 = .ok (.iconst 3, 1) := by decide +kernel
theorem dL_law_277 : decode cL_law 277 = .ok (.iadd, 1) := by decide +kernel
theorem dL_law_278 : decode cL_law 278 = .ok (.iaload, 1) := by decide +kernel
theorem dL_law_279 : decode cL_law 279 = .ok (.invokevirtual 35, 3) := by decide +kernel
theorem dL_law_282 : decode cL_law 282 = .ok (.if_icmp .eq 540, 3) := by decide +kernel
theorem dL_law_285 : decode cL_law 285 = .ok (.iconst 0, 1) := by decide +kernel
theorem dL_law_286 : decode cL_law 286 = .ok (.ireturn, 1) := by decide +kernel
theorem dL_law_287 : decode cL_law 287 = .ok (.aload_n 1, 1) := by decide +kernel
theorem dL_law_288 : decode cL_law 288 = .ok (.aload_n 0, 1) := by decide +kernel
theorem dL_law_289 : decode cL_law 289 = .ok (.iload_n 3, 1) := by decide +kernel
theorem dL_law_290 : decode cL_law 290 = .ok (.iconst 1, 1) := by decide +kernel
theorem dL_law_291 : decode cL_law 291 = .ok (.iadd, 1) := by decide +kernel
theorem dL_law_292 : decode cL_law 292 = .ok (.iaload, 1) := by decide +kernel
theorem dL_law_293 : decode cL_law 293 = .ok (.invokevirtual 36, 3) := by decide +kernel
theorem dL_law_296 : decode cL_law 296 = .ok (.aload_n 2, 1) := by decide +kernel
theorem dL_law_297 : decode cL_law 297 = .ok (.aload_n 0, 1) := by decide +kernel
theorem dL_law_298 : decode cL_law 298 = .ok (.iload_n 3, 1) := by decide +kernel
theorem dL_law_299 : decode cL_law 299 = .ok (.iconst 1, 1) := by decide +kernel
theorem dL_law_300 : decode cL_law 300 = .ok (.iadd, 1) := by decide +kernel
theorem dL_law_301 : decode cL_law 301 = .ok (.iaload, 1) := by decide +kernel
theorem dL_law_302 : decode cL_law 302 = .ok (.invokevirtual 39, 3) := by decide +kernel
theorem dL_law_305 : decode cL_law 305 = .ok (.if_icmp .eq 517, 3) := by decide +kernel
theorem dL_law_308 : decode cL_law 308 = .ok (.iconst 0, 1) := by decide +kernel
theorem dL_law_309 : decode cL_law 309 = .ok (.ireturn, 1) := by decide +kernel
theorem dL_law_310 : decode cL_law 310 = .ok (.aload_n 1, 1) := by decide +kernel
theorem dL_law_311 : decode cL_law 311 = .ok (.invokevirtual 40, 3) := by decide +kernel
theorem dL_law_314 : decode cL_law 314 = .ok (.aload_n 2, 1) := by decide +kernel
theorem dL_law_315 : decode cL_law 315 = .ok (.invokevirtual 43, 3) := by decide +kernel
theorem dL_law_318 : decode cL_law 318 = .ok (.if_icmp .eq 504, 3) := by decide +kernel
theorem dL_law_321 : decode cL_law 321 = .ok (.iconst 0, 1) := by decide +kernel
theorem dL_law_322 : decode cL_law 322 = .ok (.ireturn, 1) := by decide +kernel
theorem dL_law_323 : decode cL_law 323 = .ok (.aload_n 1, 1) := by decide +kernel
theorem dL_law_324 : decode cL_law 324 = .ok (.aload_n 0, 1) := by decide +kernel
theorem dL_law_325 : decode cL_law 325 = .ok (.iload_n 3, 1) := by decide +kernel
theorem dL_law_326 : decode cL_law 326 = .ok (.iconst 1, 1) := by decide +kernel
theorem dL_law_327 : decode cL_law 327 = .ok (.iadd, 1) := by decide +kernel
theorem dL_law_328 : decode cL_law 328 = .ok (.iaload, 1) := by decide +kernel
theorem dL_law_329 : decode cL_law 329 = .ok (.aload_n 0, 1) := by decide +kernel
theorem dL_law_330 : decode cL_law 330 = .ok (.iload_n 3, 1) := by decide +kernel
theorem dL_law_331 : decode cL_law 331 = .ok (.iconst 2, 1) := by decide +kernel
theorem dL_law_332 : decode cL_law 332 = .ok (.iadd, 1) := by decide +kernel
theorem dL_law_333 : decode cL_law 333 = .ok (.iaload, 1) := by decide +kernel
theorem dL_law_334 : decode cL_law 334 = .ok (.invokevirtual 44, 3) := by decide +kernel
theorem dL_law_337 : decode cL_law 337 = .ok (.aload_n 2, 1) := by decide +kernel
theorem dL_law_338 : decode cL_law 338 = .ok (.aload_n 0, 1) := by decide +kernel
theorem dL_law_339 : decode cL_law 339 = .ok (.iload_n 3, 1) := by decide +kernel
theorem dL_law_340 : decode cL_law 340 = .ok (.iconst 1, 1) := by decide +kernel
theorem dL_law_341 : decode cL_law 341 = .ok (.iadd, 1) := by decide +kernel
theorem dL_law_342 : decode cL_law 342 = .ok (.iaload, 1) := by decide +kernel
theorem dL_law_343 : decode cL_law 343 = .ok (.aload_n 0, 1) := by decide +kernel
theorem dL_law_344 : decode cL_law 344 = .ok (.iload_n 3, 1) := by decide +kernel
theorem dL_law_345 : decode cL_law 345 = .ok (.iconst 2, 1) := by decide +kernel
theorem dL_law_346 : decode cL_law 346 = .ok (.iadd, 1) := by decide +kernel
theorem dL_law_347 : decode cL_law 347 = .ok (.iaload, 1) := by decide +kernel
theorem dL_law_348 : decode cL_law 348 = .ok (.invokevirtual 48, 3) := by decide +kernel
theorem dL_law_351 : decode cL_law 351 = .ok (.if_icmp .eq 471, 3) := by decide +kernel
theorem dL_law_354 : decode cL_law 354 = .ok (.iconst 0, 1) := by decide +kernel
theorem dL_law_355 : decode cL_law 355 = .ok (.ireturn, 1) := by decide +kernel
theorem dL_law_356 : decode cL_law 356 = .ok (.aload_n 1, 1) := by decide +kernel
theorem dL_law_357 : decode cL_law 357 = .ok (.aload_n 0, 1) := by decide +kernel
theorem dL_law_358 : decode cL_law 358 = .ok (.iload_n 3, 1) := by decide +kernel
theorem dL_law_359 : decode cL_law 359 = .ok (.iconst 1, 1) := by decide +kernel
theorem dL_law_360 : decode cL_law 360 = .ok (.iadd, 1) := by decide +kernel
theorem dL_law_361 : decode cL_law 361 = .ok (.iaload, 1) := by decide +kernel
theorem dL_law_362 : decode cL_law 362 = .ok (.invokevirtual 49, 3) := by decide +kernel
theorem dL_law_365 : decode cL_law 365 = .ok (.aload_n 2, 1) := by decide +kernel
theorem dL_law_366 : decode cL_law 366 = .ok (.aload_n 0, 1) := by decide +kernel
theorem dL_law_367 : decode cL_law 367 = .ok (.iload_n 3, 1) := by decide +kernel
theorem dL_law_368 : decode cL_law 368 = .ok (.iconst 1, 1) := by decide +kernel
theorem dL_law_369 : decode cL_law 369 = .ok (.iadd, 1) := by decide +kernel
theorem dL_law_370 : decode cL_law 370 = .ok (.iaload, 1) := by decide +kernel
theorem dL_law_371 : decode cL_law 371 = .ok (.invokevirtual 52, 3) := by decide +kernel
theorem dL_law_374 : decode cL_law 374 = .ok (.if_icmp .eq 448, 3) := by decide +kernel
theorem dL_law_377 : decode cL_law 377 = .ok (.iconst 0, 1) := by decide +kernel
theorem dL_law_378 : decode cL_law 378 = .ok (.ireturn, 1) := by decide +kernel
theorem dL_law_379 : decode cL_law 379 = .ok (.aload_n 1, 1) := by decide +kernel
theorem dL_law_380 : decode cL_law 380 = .ok (.aload_n 0, 1) := by decide +kernel
theorem dL_law_381 : decode cL_law 381 = .ok (.iload_n 3, 1) := by decide +kernel
theorem dL_law_382 : decode cL_law 382 = .ok (.iconst 1, 1) := by decide +kernel
theorem dL_law_383 : decode cL_law 383 = .ok (.iadd, 1) := by decide +kernel
theorem dL_law_384 : decode cL_law 384 = .ok (.iaload, 1) := by decide +kernel
theorem dL_law_385 : decode cL_law 385 = .ok (.i2c, 1) := by decide +kernel
theorem dL_law_386 : decode cL_law 386 = .ok (.invokevirtual 53, 3) := by decide +kernel
theorem dL_law_389 : decode cL_law 389 = .ok (.aload_n 2, 1) := by decide +kernel
theorem dL_law_390 : decode cL_law 390 = .ok (.aload_n 0, 1) := by decide +kernel
theorem dL_law_391 : decode cL_law 391 = .ok (.iload_n 3, 1) := by decide +kernel
theorem dL_law_392 : decode cL_law 392 = .ok (.iconst 1, 1) := by decide +kernel
theorem dL_law_393 : decode cL_law 393 = .ok (.iadd, 1) := by decide +kernel
theorem dL_law_394 : decode cL_law 394 = .ok (.iaload, 1) := by decide +kernel
theorem dL_law_395 : decode cL_law 395 = .ok (.i2c, 1) := by decide +kernel
theorem dL_law_396 : decode cL_law 396 = .ok (.invokevirtual 57, 3) := by decide +kernel
theorem dL_law_399 : decode cL_law 399 = .ok (.if_icmp .eq 423, 3) := by decide +kernel
theorem dL_law_402 : decode cL_law 402 = .ok (.iconst 0, 1) := by decide +kernel
theorem dL_law_403 : decode cL_law 403 = .ok (.ireturn, 1) := by decide +kernel
theorem dL_law_404 : decode cL_law 404 = .ok (.aload_n 1, 1) := by decide +kernel
theorem dL_law_405 : decode cL_law 405 = .ok (.invokevirtual 58, 3) := by decide +kernel
theorem dL_law_408 : decode cL_law 408 = .ok (.aload_n 2, 1) := by decide +kernel
theorem dL_law_409 : decode cL_law 409 = .ok (.invokevirtual 61, 3) := by decide +kernel
theorem dL_law_412 : decode cL_law 412 = .ok (.if_icmp .eq 410, 3) := by decide +kernel
theorem dL_law_415 : decode cL_law 415 = .ok (.iconst 0, 1) := by decide +kernel
theorem dL_law_416 : decode cL_law 416 = .ok (.ireturn, 1) := by decide +kernel
theorem dL_law_417 : decode cL_law 417 = .ok (.aload_n 1, 1) := by decide +kernel
theorem dL_law_418 : decode cL_law 418 = .ok (.invokevirtual 62, 3) := by decide +kernel
theorem dL_law_421 : decode cL_law 421 = .ok (.aload_n 2, 1) := by decide +kernel
theorem dL_law_422 : decode cL_law 422 = .ok (.invokevirtual 65, 3) := by decide +kernel
theorem dL_law_425 : decode cL_law 425 = .ok (.if_icmp .eq 397, 3) := by decide +kernel
theorem dL_law_428 : decode cL_law 428 = .ok (.iconst 0, 1) := by decide +kernel
theorem dL_law_429 : decode cL_law 429 = .ok (.ireturn, 1) := by decide +kernel
theorem dL_law_430 : decode cL_law 430 = .ok (.aload_n 1, 1) := by decide +kernel
theorem dL_law_431 : decode cL_law 431 = .ok (.invokevirtual 66, 3) := by decide +kernel
theorem dL_law_434 : decode cL_law 434 = .ok (.aload_n 2, 1) := by decide +kernel
theorem dL_law_435 : decode cL_law 435 = .ok (.invokevirtual 69, 3) := by decide +kernel
theorem dL_law_438 : decode cL_law 438 = .ok (.if_icmp .eq 384, 3) := by decide +kernel
theorem dL_law_441 : decode cL_law 441 = .ok (.iconst 0, 1) := by decide +kernel
theorem dL_law_442 : decode cL_law 442 = .ok (.ireturn, 1) := by decide +kernel
theorem dL_law_443 : decode cL_law 443 = .ok (.aload_n 1, 1) := by decide +kernel
theorem dL_law_444 : decode cL_law 444 = .ok (.invokevirtual 70, 3) := by decide +kernel
theorem dL_law_447 : decode cL_law 447 = .ok (.aload_n 2, 1) := by decide +kernel
theorem dL_law_448 : decode cL_law 448 = .ok (.invokevirtual 73, 3) := by decide +kernel
theorem dL_law_451 : decode cL_law 451 = .ok (.if_icmp .eq 371, 3) := by decide +kernel
theorem dL_law_454 : decode cL_law 454 = .ok (.iconst 0, 1) := by decide +kernel
theorem dL_law_455 : decode cL_law 455 = .ok (.ireturn, 1) := by decide +kernel
theorem dL_law_456 : decode cL_law 456 = .ok (.aload_n 1, 1) := by decide +kernel
theorem dL_law_457 : decode cL_law 457 = .ok (.aload_n 0, 1) := by decide +kernel
theorem dL_law_458 : decode cL_law 458 = .ok (.iload_n 3, 1) := by decide +kernel
theorem dL_law_459 : decode cL_law 459 = .ok (.iconst 1, 1) := by decide +kernel
theorem dL_law_460 : decode cL_law 460 = .ok (.iadd, 1) := by decide +kernel
theorem dL_law_461 : decode cL_law 461 = .ok (.iaload, 1) := by decide +kernel
theorem dL_law_462 : decode cL_law 462 = .ok (.invokevirtual 74, 3) := by decide +kernel
theorem dL_law_465 : decode cL_law 465 = .ok (.aload_n 2, 1) := by decide +kernel
theorem dL_law_466 : decode cL_law 466 = .ok (.aload_n 0, 1) := by decide +kernel
theorem dL_law_467 : decode cL_law 467 = .ok (.iload_n 3, 1) := by decide +kernel
theorem dL_law_468 : decode cL_law 468 = .ok (.iconst 1, 1) := by decide +kernel
theorem dL_law_469 : decode cL_law 469 = .ok (.iadd, 1) := by decide +kernel
theorem dL_law_470 : decode cL_law 470 = .ok (.iaload, 1) := by decide +kernel
theorem dL_law_471 : decode cL_law 471 = .ok (.invokevirtual 77, 3) := by decide +kernel
theorem dL_law_474 : decode cL_law 474 = .ok (.if_icmp .eq 348, 3) := by decide +kernel
theorem dL_law_477 : decode cL_law 477 = .ok (.iconst 0, 1) := by decide +kernel
theorem dL_law_478 : decode cL_law 478 = .ok (.ireturn, 1) := by decide +kernel
theorem dL_law_479 : decode cL_law 479 = .ok (.aload_n 1, 1) := by decide +kernel
theorem dL_law_480 : decode cL_law 480 = .ok (.aload_n 0, 1) := by decide +kernel
theorem dL_law_481 : decode cL_law 481 = .ok (.iload_n 3, 1) := by decide +kernel
theorem dL_law_482 : decode cL_law 482 = .ok (.iconst 1, 1) := by decide +kernel
theorem dL_law_483 : decode cL_law 483 = .ok (.iadd, 1) := by decide +kernel
theorem dL_law_484 : decode cL_law 484 = .ok (.iaload, 1) := by decide +kernel
theorem dL_law_485 : decode cL_law 485 = .ok (.aload_n 0, 1) := by decide +kernel
theorem dL_law_486 : decode cL_law 486 = .ok (.iload_n 3, 1) := by decide +kernel
theorem dL_law_487 : decode cL_law 487 = .ok (.iconst 2, 1) := by decide +kernel
theorem dL_law_488 : decode cL_law 488 = .ok (.iadd, 1) := by decide +kernel
theorem dL_law_489 : decode cL_law 489 = .ok (.iaload, 1) := by decide +kernel
theorem dL_law_490 : decode cL_law 490 = .ok (.invokevirtual 78, 3) := by decide +kernel
theorem dL_law_493 : decode cL_law 493 = .ok (.aload_n 2, 1) := by decide +kernel
theorem dL_law_494 : decode cL_law 494 = .ok (.aload_n 0, 1) := by decide +kernel
theorem dL_law_495 : decode cL_law 495 = .ok (.iload_n 3, 1) := by decide +kernel
theorem dL_law_496 : decode cL_law 496 = .ok (.iconst 1, 1) := by decide +kernel
theorem dL_law_497 : decode cL_law 497 = .ok (.iadd, 1) := by decide +kernel
theorem dL_law_498 : decode cL_law 498 = .ok (.iaload, 1) := by decide +kernel
theorem dL_law_499 : decode cL_law 499 = .ok (.aload_n 0, 1) := by decide +kernel
theorem dL_law_500 : decode cL_law 500 = .ok (.iload_n 3, 1) := by decide +kernel
theorem dL_law_501 : decode cL_law 501 = .ok (.iconst 2, 1) := by decide +kernel
theorem dL_law_502 : decode cL_law 502 = .ok (.iadd, 1) := by decide +kernel
theorem dL_law_503 : decode cL_law 503 = .ok (.iaload, 1) := by decide +kernel
theorem dL_law_504 : decode cL_law 504 = .ok (.invokevirtual 81, 3) := by decide +kernel
theorem dL_law_507 : decode cL_law 507 = .ok (.if_icmp .eq 315, 3) := by decide +kernel
theorem dL_law_510 : decode cL_law 510 = .ok (.iconst 0, 1) := by decide +kernel
theorem dL_law_511 : decode cL_law 511 = .ok (.ireturn, 1) := by decide +kernel
theorem dL_law_512 : decode cL_law 512 = .ok (.aload_n 1, 1) := by decide +kernel
theorem dL_law_513 : decode cL_law 513 = .ok (.aload_n 0, 1) := by decide +kernel
theorem dL_law_514 : decode cL_law 514 = .ok (.iload_n 3, 1) := by decide +kernel
theorem dL_law_515 : decode cL_law 515 = .ok (.iconst 1, 1) := by decide +kernel
theorem dL_law_516 : decode cL_law 516 = .ok (.iadd, 1) := by decide +kernel
theorem dL_law_517 : decode cL_law 517 = .ok (.iaload, 1) := by decide +kernel
theorem dL_law_518 : decode cL_law 518 = .ok (.aload_n 0, 1) := by decide +kernel
theorem dL_law_519 : decode cL_law 519 = .ok (.iload_n 3, 1) := by decide +kernel
theorem dL_law_520 : decode cL_law 520 = .ok (.iconst 2, 1) := by decide +kernel
theorem dL_law_521 : decode cL_law 521 = .ok (.iadd, 1) := by decide +kernel
theorem dL_law_522 : decode cL_law 522 = .ok (.iaload, 1) := by decide +kernel
theorem dL_law_523 : decode cL_law 523 = .ok (.invokevirtual 82, 3) := by decide +kernel
theorem dL_law_526 : decode cL_law 526 = .ok (.aload_n 2, 1) := by decide +kernel
theorem dL_law_527 : decode cL_law 527 = .ok (.aload_n 0, 1) := by decide +kernel
theorem dL_law_528 : decode cL_law 528 = .ok (.iload_n 3, 1) := by decide +kernel
theorem dL_law_529 : decode cL_law 529 = .ok (.iconst 1, 1) := by decide +kernel
theorem dL_law_530 : decode cL_law 530 = .ok (.iadd, 1) := by decide +kernel
theorem dL_law_531 : decode cL_law 531 = .ok (.iaload, 1) := by decide +kernel
theorem dL_law_532 : decode cL_law 532 = .ok (.aload_n 0, 1) := by decide +kernel
theorem dL_law_533 : decode cL_law 533 = .ok (.iload_n 3, 1) := by decide +kernel
theorem dL_law_534 : decode cL_law 534 = .ok (.iconst 2, 1) := by decide +kernel
theorem dL_law_535 : decode cL_law 535 = .ok (.iadd, 1) := by decide +kernel
theorem dL_law_536 : decode cL_law 536 = .ok (.iaload, 1) := by decide +kernel
theorem dL_law_537 : decode cL_law 537 = .ok (.invokevirtual 85, 3) := by decide +kernel
theorem dL_law_540 : decode cL_law 540 = .ok (.if_icmp .eq 282, 3) := by decide +kernel
theorem dL_law_543 : decode cL_law 543 = .ok (.iconst 0, 1) := by decide +kernel
theorem dL_law_544 : decode cL_law 544 = .ok (.ireturn, 1) := by decide +kernel
theorem dL_law_545 : decode cL_law 545 = .ok (.aload_n 1, 1) := by decide +kernel
theorem dL_law_546 : decode cL_law 546 = .ok (.aload_n 0, 1) := by decide +kernel
theorem dL_law_547 : decode cL_law 547 = .ok (.iload_n 3, 1) := by decide +kernel
theorem dL_law_548 : decode cL_law 548 = .ok (.iconst 1, 1) := by decide +kernel
theorem dL_law_549 : decode cL_law 549 = .ok (.iadd, 1) := by decide +kernel
theorem dL_law_550 : decode cL_law 550 = .ok (.iaload, 1) := by decide +kernel
theorem dL_law_551 : decode cL_law 551 = .ok (.aload_n 0, 1) := by decide +kernel
theorem dL_law_552 : decode cL_law 552 = .ok (.iload_n 3, 1) := by decide +kernel
theorem dL_law_553 : decode cL_law 553 = .ok (.iconst 2, 1) := by decide +kernel
theorem dL_law_554 : decode cL_law 554 = .ok (.iadd, 1) := by decide +kernel
theorem dL_law_555 : decode cL_law 555 = .ok (.iaload, 1) := by decide +kernel
theorem dL_law_556 : decode cL_law 556 = .ok (.aload_n 0, 1) := by decide +kernel
theorem dL_law_557 : decode cL_law 557 = .ok (.iload_n 3, 1) := by decide +kernel
theorem dL_law_558 : decode cL_law 558 = .ok (.iconst 3, 1) := by decide +kernel
theorem dL_law_559 : decode cL_law 559 = .ok (.iadd, 1) := by decide +kernel
theorem dL_law_560 : decode cL_law 560 = .ok (.iaload, 1) := by decide +kernel
theorem dL_law_561 : decode cL_law 561 = .ok (.invokevirtual 86, 3) := by decide +kernel
theorem dL_law_564 : decode cL_law 564 = .ok (.aload_n 2, 1) := by decide +kernel
theorem dL_law_565 : decode cL_law 565 = .ok (.aload_n 0, 1) := by decide +kernel
theorem dL_law_566 : decode cL_law 566 = .ok (.iload_n 3, 1) := by decide +kernel
theorem dL_law_567 : decode cL_law 567 = .ok (.iconst 1, 1) := by decide +kernel
theorem dL_law_568 : decode cL_law 568 = .ok (.iadd, 1) := by decide +kernel
theorem dL_law_569 : decode cL_law 569 = .ok (.iaload, 1) := by decide +kernel
theorem dL_law_570 : decode cL_law 570 = .ok (.aload_n 0, 1) := by decide +kernel
theorem dL_law_571 : decode cL_law 571 = .ok (.iload_n 3, 1) := by decide +kernel
theorem dL_law_572 : decode cL_law 572 = .ok (.iconst 2, 1) := by decide +kernel
theorem dL_law_573 : decode cL_law 573 = .ok (.iadd, 1) := by decide +kernel
theorem dL_law_574 : decode cL_law 574 = .ok (.iaload, 1) := by decide +kernel
theorem dL_law_575 : decode cL_law 575 = .ok (.aload_n 0, 1) := by decide +kernel
theorem dL_law_576 : decode cL_law 576 = .ok (.iload_n 3, 1) := by decide +kernel
theorem dL_law_577 : decode cL_law 577 = .ok (.iconst 3, 1) := by decide +kernel
theorem dL_law_578 : decode cL_law 578 = .ok (.iadd, 1) := by decide +kernel
theorem dL_law_579 : decode cL_law 579 = .ok (.iaload, 1) := by decide +kernel
theorem dL_law_580 : decode cL_law 580 = .ok (.invokevirtual 89, 3) := by decide +kernel
theorem dL_law_583 : decode cL_law 583 = .ok (.if_icmp .eq 239, 3) := by decide +kernel
theorem dL_law_586 : decode cL_law 586 = .ok (.iconst 0, 1) := by decide +kernel
theorem dL_law_587 : decode cL_law 587 = .ok (.ireturn, 1) := by decide +kernel
theorem dL_law_588 : decode cL_law 588 = .ok (.aload_n 1, 1) := by decide +kernel
theorem dL_law_589 : decode cL_law 589 = .ok (.aload_n 0, 1) := by decide +kernel
theorem dL_law_590 : decode cL_law 590 = .ok (.iload_n 3, 1) := by decide +kernel
theorem dL_law_591 : decode cL_law 591 = .ok (.iconst 1, 1) := by decide +kernel
theorem dL_law_592 : decode cL_law 592 = .ok (.iadd, 1) := by decide +kernel
theorem dL_law_593 : decode cL_law 593 = .ok (.iaload, 1) := by decide +kernel
theorem dL_law_594 : decode cL_law 594 = .ok (.aload_n 0, 1) := by decide +kernel
theorem dL_law_595 : decode cL_law 595 = .ok (.iload_n 3, 1) := by decide +kernel
theorem dL_law_596 : decode cL_law 596 = .ok (.iconst 2, 1) := by decide +kernel
theorem dL_law_597 : decode cL_law 597 = .ok (.iadd, 1) := by decide +kernel
theorem dL_law_598 : decode cL_law 598 = .ok (.iaload, 1) := by decide +kernel
theorem dL_law_599 : decode cL_law 599 = .ok (.invokevirtual 90, 3) := by decide +kernel
theorem dL_law_602 : decode cL_law 602 = .ok (.aload_n 2, 1) := by decide +kernel
theorem dL_law_603 : decode cL_law 603 = .ok (.aload_n 0, 1) := by decide +kernel
theorem dL_law_604 : decode cL_law 604 = .ok (.iload_n 3, 1) := by decide +kernel
theorem dL_law_605 : decode cL_law 605 = .ok (.iconst 1, 1) := by decide +kernel
theorem dL_law_606 : decode cL_law 606 = .ok (.iadd, 1) := by decide +kernel
theorem dL_law_607 : decode cL_law 607 = .ok (.iaload, 1) := by decide +kernel
theorem dL_law_608 : decode cL_law 608 = .ok (.aload_n 0, 1) := by decide +kernel
theorem dL_law_609 : decode cL_law 609 = .ok (.iload_n 3, 1) := by decide +kernel
theorem dL_law_610 : decode cL_law 610 = .ok (.iconst 2, 1) := by decide +kernel
theorem dL_law_611 : decode cL_law 611 = .ok (.iadd, 1) := by decide +kernel
theorem dL_law_612 : decode cL_law 612 = .ok (.iaload, 1) := by decide +kernel
theorem dL_law_613 : decode cL_law 613 = .ok (.invokevirtual 93, 3) := by decide +kernel
theorem dL_law_616 : decode cL_law 616 = .ok (.if_icmp .eq 206, 3) := by decide +kernel
theorem dL_law_619 : decode cL_law 619 = .ok (.iconst 0, 1) := by decide +kernel
theorem dL_law_620 : decode cL_law 620 = .ok (.ireturn, 1) := by decide +kernel
theorem dL_law_621 : decode cL_law 621 = .ok (.aload_n 1, 1) := by decide +kernel
theorem dL_law_622 : decode cL_law 622 = .ok (.aload_n 0, 1) := by decide +kernel
theorem dL_law_623 : decode cL_law 623 = .ok (.iload_n 3, 1) := by decide +kernel
theorem dL_law_624 : decode cL_law 624 = .ok (.iconst 1, 1) := by decide +kernel
theorem dL_law_625 : decode cL_law 625 = .ok (.iadd, 1) := by decide +kernel
theorem dL_law_626 : decode cL_law 626 = .ok (.iaload, 1) := by decide +kernel
theorem dL_law_627 : decode cL_law 627 = .ok (.aload_n 0, 1) := by decide +kernel
theorem dL_law_628 : decode cL_law 628 = .ok (.iload_n 3, 1) := by decide +kernel
theorem dL_law_629 : decode cL_law 629 = .ok (.iconst 2, 1) := by decide +kernel
theorem dL_law_630 : decode cL_law 630 = .ok (.iadd, 1) := by decide +kernel
theorem dL_law_631 : decode cL_law 631 = .ok (.iaload, 1) := by decide +kernel
theorem dL_law_632 : decode cL_law 632 = .ok (.invokevirtual 94, 3) := by decide +kernel
theorem dL_law_635 : decode cL_law 635 = .ok (.aload_n 2, 1) := by decide +kernel
theorem dL_law_636 : decode cL_law 636 = .ok (.aload_n 0, 1) := by decide +kernel
theorem dL_law_637 : decode cL_law 637 = .ok (.iload_n 3, 1) := by decide +kernel
theorem dL_law_638 : decode cL_law 638 = .ok (.iconst 1, 1) := by decide +kernel
theorem dL_law_639 : decode cL_law 639 = .ok (.iadd, 1) := by decide +kernel
theorem dL_law_640 : decode cL_law 640 = .ok (.iaload, 1) := by decide +kernel
theorem dL_law_641 : decode cL_law 641 = .ok (.aload_n 0, 1) := by decide +kernel
theorem dL_law_642 : decode cL_law 642 = .ok (.iload_n 3, 1) := by decide +kernel
theorem dL_law_643 : decode cL_law 643 = .ok (.iconst 2, 1) := by decide +kernel
theorem dL_law_644 : decode cL_law 644 = .ok (.iadd, 1) := by decide +kernel
theorem dL_law_645 : decode cL_law 645 = .ok (.iaload, 1) := by decide +kernel
theorem dL_law_646 : decode cL_law 646 = .ok (.invokevirtual 97, 3) := by decide +kernel
theorem dL_law_649 : decode cL_law 649 = .ok (.if_icmp .eq 173, 3) := by decide +kernel
theorem dL_law_652 : decode cL_law 652 = .ok (.iconst 0, 1) := by decide +kernel
theorem dL_law_653 : decode cL_law 653 = .ok (.ireturn, 1) := by decide +kernel
theorem dL_law_654 : decode cL_law 654 = .ok (.aload_n 1, 1) := by decide +kernel
theorem dL_law_655 : decode cL_law 655 = .ok (.aload_n 0, 1) := by decide +kernel
theorem dL_law_656 : decode cL_law 656 = .ok (.iload_n 3, 1) := by decide +kernel
theorem dL_law_657 : decode cL_law 657 = .ok (.iconst 1, 1) := by decide +kernel
theorem dL_law_658 : decode cL_law 658 = .ok (.iadd, 1) := by decide +kernel
theorem dL_law_659 : decode cL_law 659 = .ok (.iaload, 1) := by decide +kernel
theorem dL_law_660 : decode cL_law 660 = .ok (.aload_n 0, 1) := by decide +kernel
theorem dL_law_661 : decode cL_law 661 = .ok (.iload_n 3, 1) := by decide +kernel
theorem dL_law_662 : decode cL_law 662 = .ok (.iconst 2, 1) := by decide +kernel
theorem dL_law_663 : decode cL_law 663 = .ok (.iadd, 1) := by decide +kernel
theorem dL_law_664 : decode cL_law 664 = .ok (.iaload, 1) := by decide +kernel
theorem dL_law_665 : decode cL_law 665 = .ok (.aload_n 0, 1) := by decide +kernel
theorem dL_law_666 : decode cL_law 666 = .ok (.iload_n 3, 1) := by decide +kernel
theorem dL_law_667 : decode cL_law 667 = .ok (.iconst 3, 1) := by decide +kernel
theorem dL_law_668 : decode cL_law 668 = .ok (.iadd, 1) := by decide +kernel
theorem dL_law_669 : decode cL_law 669 = .ok (.iaload, 1) := by decide +kernel
theorem dL_law_670 : decode cL_law 670 = .ok (.invokevirtual 98, 3) := by decide +kernel
theorem dL_law_673 : decode cL_law 673 = .ok (.aload_n 2, 1) := by decide +kernel
theorem dL_law_674 : decode cL_law 674 = .ok (.aload_n 0, 1) := by decide +kernel
theorem dL_law_675 : decode cL_law 675 = .ok (.iload_n 3, 1) := by decide +kernel
theorem dL_law_676 : decode cL_law 676 = .ok (.iconst 1, 1) := by decide +kernel
theorem dL_law_677 : decode cL_law 677 = .ok (.iadd, 1) := by decide +kernel
theorem dL_law_678 : decode cL_law 678 = .ok (.iaload, 1) := by decide +kernel
theorem dL_law_679 : decode cL_law 679 = .ok (.aload_n 0, 1) := by decide +kernel
theorem dL_law_680 : decode cL_law 680 = .ok (.iload_n 3, 1) := by decide +kernel
theorem dL_law_681 : decode cL_law 681 = .ok (.iconst 2, 1) := by decide +kernel
theorem dL_law_682 : decode cL_law 682 = .ok (.iadd, 1) := by decide +kernel
theorem dL_law_683 : decode cL_law 683 = .ok (.iaload, 1) := by decide +kernel
theorem dL_law_684 : decode cL_law 684 = .ok (.aload_n 0, 1) := by decide +kernel
theorem dL_law_685 : decode cL_law 685 = .ok (.iload_n 3, 1) := by decide +kernel
theorem dL_law_686 : decode cL_law 686 = .ok (.iconst 3, 1) := by decide +kernel
theorem dL_law_687 : decode cL_law 687 = .ok (.iadd, 1) := by decide +kernel
theorem dL_law_688 : decode cL_law 688 = .ok (.iaload, 1) := by decide +kernel
theorem dL_law_689 : decode cL_law 689 = .ok (.invokevirtual 101, 3) := by decide +kernel
theorem dL_law_692 : decode cL_law 692 = .ok (.if_icmp .eq 130, 3) := by decide +kernel
theorem dL_law_695 : decode cL_law 695 = .ok (.iconst 0, 1) := by decide +kernel
theorem dL_law_696 : decode cL_law 696 = .ok (.ireturn, 1) := by decide +kernel
theorem dL_law_697 : decode cL_law 697 = .ok (.aload_n 1, 1) := by decide +kernel
theorem dL_law_698 : decode cL_law 698 = .ok (.aload_n 0, 1) := by decide +kernel
theorem dL_law_699 : decode cL_law 699 = .ok (.iload_n 3, 1) := by decide +kernel
theorem dL_law_700 : decode cL_law 700 = .ok (.iconst 1, 1) := by decide +kernel
theorem dL_law_701 : decode cL_law 701 = .ok (.iadd, 1) := by decide +kernel
theorem dL_law_702 : decode cL_law 702 = .ok (.iaload, 1) := by decide +kernel
theorem dL_law_703 : decode cL_law 703 = .ok (.aload_n 0, 1) := by decide +kernel
theorem dL_law_704 : decode cL_law 704 = .ok (.iload_n 3, 1) := by decide +kernel
theorem dL_law_705 : decode cL_law 705 = .ok (.iconst 2, 1) := by decide +kernel
theorem dL_law_706 : decode cL_law 706 = .ok (.iadd, 1) := by decide +kernel
theorem dL_law_707 : decode cL_law 707 = .ok (.iaload, 1) := by decide +kernel
theorem dL_law_708 : decode cL_law 708 = .ok (.invokevirtual 102, 3) := by decide +kernel
theorem dL_law_711 : decode cL_law 711 = .ok (.aload_n 2, 1) := by decide +kernel
theorem dL_law_712 : decode cL_law 712 = .ok (.aload_n 0, 1) := by decide +kernel
theorem dL_law_713 : decode cL_law 713 = .ok (.iload_n 3, 1) := by decide +kernel
theorem dL_law_714 : decode cL_law 714 = .ok (.iconst 1, 1) := by decide +kernel
theorem dL_law_715 : decode cL_law 715 = .ok (.iadd, 1) := by decide +kernel
theorem dL_law_716 : decode cL_law 716 = .ok (.iaload, 1) := by decide +kernel
theorem dL_law_717 : decode cL_law 717 = .ok (.aload_n 0, 1) := by decide +kernel
theorem dL_law_718 : decode cL_law 718 = .ok (.iload_n 3, 1) := by decide +kernel
theorem dL_law_719 : decode cL_law 719 = .ok (.iconst 2, 1) := by decide +kernel
theorem dL_law_720 : decode cL_law 720 = .ok (.iadd, 1) := by decide +kernel
theorem dL_law_721 : decode cL_law 721 = .ok (.iaload, 1) := by decide +kernel
theorem dL_law_722 : decode cL_law 722 = .ok (.invokevirtual 105, 3) := by decide +kernel
theorem dL_law_725 : decode cL_law 725 = .ok (.if_icmp .eq 97, 3) := by decide +kernel
theorem dL_law_728 : decode cL_law 728 = .ok (.iconst 0, 1) := by decide +kernel
theorem dL_law_729 : decode cL_law 729 = .ok (.ireturn, 1) := by decide +kernel
theorem dL_law_730 : decode cL_law 730 = .ok (.aload_n 1, 1) := by decide +kernel
theorem dL_law_731 : decode cL_law 731 = .ok (.aload_n 0, 1) := by decide +kernel
theorem dL_law_732 : decode cL_law 732 = .ok (.iload_n 3, 1) := by decide +kernel
theorem dL_law_733 : decode cL_law 733 = .ok (.iconst 1, 1) := by decide +kernel
theorem dL_law_734 : decode cL_law 734 = .ok (.iadd, 1) := by decide +kernel
theorem dL_law_735 : decode cL_law 735 = .ok (.iaload, 1) := by decide +kernel
theorem dL_law_736 : decode cL_law 736 = .ok (.invokevirtual 106, 3) := by decide +kernel
theorem dL_law_739 : decode cL_law 739 = .ok (.aload_n 2, 1) := by decide +kernel
theorem dL_law_740 : decode cL_law 740 = .ok (.aload_n 0, 1) := by decide +kernel
theorem dL_law_741 : decode cL_law 741 = .ok (.iload_n 3, 1) := by decide +kernel
theorem dL_law_742 : decode cL_law 742 = .ok (.iconst 1, 1) := by decide +kernel
theorem dL_law_743 : decode cL_law 743 = .ok (.iadd, 1) := by decide +kernel
theorem dL_law_744 : decode cL_law 744 = .ok (.iaload, 1) := by decide +kernel
theorem dL_law_745 : decode cL_law 745 = .ok (.invokevirtual 109, 3) := by decide +kernel
theorem dL_law_748 : decode cL_law 748 = .ok (.if_icmp .eq 74, 3) := by decide +kernel
theorem dL_law_751 : decode cL_law 751 = .ok (.iconst 0, 1) := by decide +kernel
theorem dL_law_752 : decode cL_law 752 = .ok (.ireturn, 1) := by decide +kernel
theorem dL_law_753 : decode cL_law 753 = .ok (.aload_n 1, 1) := by decide +kernel
theorem dL_law_754 : decode cL_law 754 = .ok (.aload_n 0, 1) := by decide +kernel
theorem dL_law_755 : decode cL_law 755 = .ok (.iload_n 3, 1) := by decide +kernel
theorem dL_law_756 : decode cL_law 756 = .ok (.iconst 1, 1) := by decide +kernel
theorem dL_law_757 : decode cL_law 757 = .ok (.iadd, 1) := by decide +kernel
theorem dL_law_758 : decode cL_law 758 = .ok (.iaload, 1) := by decide +kernel
theorem dL_law_759 : decode cL_law 759 = .ok (.invokevirtual 110, 3) := by decide +kernel
theorem dL_law_762 : decode cL_law 762 = .ok (.aload_n 2, 1) := by decide +kernel
theorem dL_law_763 : decode cL_law 763 = .ok (.aload_n 0, 1) := by decide +kernel
theorem dL_law_764 : decode cL_law 764 = .ok (.iload_n 3, 1) := by decide +kernel
theorem dL_law_765 : decode cL_law 765 = .ok (.iconst 1, 1) := by decide +kernel
theorem dL_law_766 : decode cL_law 766 = .ok (.iadd, 1) := by decide +kernel
theorem dL_law_767 : decode cL_law 767 = .ok (.iaload, 1) := by decide +kernel
theorem dL_law_768 : decode cL_law 768 = .ok (.invokevirtual 113, 3) := by decide +kernel
theorem dL_law_771 : decode cL_law 771 = .ok (.if_icmp .eq 51, 3) := by decide +kernel
theorem dL_law_774 : decode cL_law 774 = .ok (.iconst 0, 1) := by decide +kernel
theorem dL_law_775 : decode cL_law 775 = .ok (.ireturn, 1) := by decide +kernel
theorem dL_law_776 : decode cL_law 776 = .ok (.aload_n 1, 1) := by decide +kernel
theorem dL_law_777 : decode cL_law 777 = .ok (.aload_n 0, 1) := by decide +kernel
theorem dL_law_778 : decode cL_law 778 = .ok (.iload_n 3, 1) := by decide +kernel
theorem dL_law_779 : decode cL_law 779 = .ok (.iconst 1, 1) := by decide +kernel
theorem dL_law_780 : decode cL_law 780 = .ok (.iadd, 1) := by decide +kernel
theorem dL_law_781 : decode cL_law 781 = .ok (.iaload, 1) := by decide +kernel
theorem dL_law_782 : decode cL_law 782 = .ok (.invokevirtual 114, 3) := by decide +kernel
theorem dL_law_785 : decode cL_law 785 = .ok (.aload_n 2, 1) := by decide +kernel
theorem dL_law_786 : decode cL_law 786 = .ok (.aload_n 0, 1) := by decide +kernel
theorem dL_law_787 : decode cL_law 787 = .ok (.iload_n 3, 1) := by decide +kernel
theorem dL_law_788 : decode cL_law 788 = .ok (.iconst 1, 1) := by decide +kernel
theorem dL_law_789 : decode cL_law 789 = .ok (.iadd, 1) := by decide +kernel
theorem dL_law_790 : decode cL_law 790 = .ok (.iaload, 1) := by decide +kernel
theorem dL_law_791 : decode cL_law 791 = .ok (.invokevirtual 117, 3) := by decide +kernel
theorem dL_law_794 : decode cL_law 794 = .ok (.if_icmp .eq 28, 3) := by decide +kernel
theorem dL_law_797 : decode cL_law 797 = .ok (.iconst 0, 1) := by decide +kernel
theorem dL_law_798 : decode cL_law 798 = .ok (.ireturn, 1) := by decide +kernel
theorem dL_law_799 : decode cL_law 799 = .ok (.aload_n 1, 1) := by decide +kernel
theorem dL_law_800 : decode cL_law 800 = .ok (.aload_n 0, 1) := by decide +kernel
theorem dL_law_801 : decode cL_law 801 = .ok (.iload_n 3, 1) := by decide +kernel
theorem dL_law_802 : decode cL_law 802 = .ok (.iconst 1, 1) := by decide +kernel
theorem dL_law_803 : decode cL_law 803 = .ok (.iadd, 1) := by decide +kernel
theorem dL_law_804 : decode cL_law 804 = .ok (.iaload, 1) := by decide +kernel
theorem dL_law_805 : decode cL_law 805 = .ok (.invokevirtual 118, 3) := by decide +kernel
theorem dL_law_808 : decode cL_law 808 = .ok (.aload_n 2, 1) := by decide +kernel
theorem dL_law_809 : decode cL_law 809 = .ok (.aload_n 0, 1) := by decide +kernel
theorem dL_law_810 : decode cL_law 810 = .ok (.iload_n 3, 1) := by decide +kernel
theorem dL_law_811 : decode cL_law 811 = .ok (.iconst 1, 1) := by decide +kernel
theorem dL_law_812 : decode cL_law 812 = .ok (.iadd, 1) := by decide +kernel
theorem dL_law_813 : decode cL_law 813 = .ok (.iaload, 1) := by decide +kernel
theorem dL_law_814 : decode cL_law 814 = .ok (.invokevirtual 121, 3) := by decide +kernel
theorem dL_law_817 : decode cL_law 817 = .ok (.if_icmp .eq 5, 3) := by decide +kernel
theorem dL_law_820 : decode cL_law 820 = .ok (.iconst 0, 1) := by decide +kernel
theorem dL_law_821 : decode cL_law 821 = .ok (.ireturn, 1) := by decide +kernel
theorem dL_law_822 : decode cL_law 822 = .ok (.iinc 3 4, 3) := by decide +kernel
theorem dL_law_825 : decode cL_law 825 = .ok (.goto (-807), 3) := by decide +kernel
theorem dL_law_828 : decode cL_law 828 = .ok (.iconst 1, 1) := by decide +kernel
theorem dL_law_829 : decode cL_law 829 = .ok (.ireturn, 1) := by decide +kernel
