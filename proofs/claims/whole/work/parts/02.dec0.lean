theorem dX0_init_0 : decode cX0_init 0 = .ok (.aload_n 0, 1) := by decide +kernel
theorem dX0_init_1 : decode cX0_init 1 = .ok (.invokespecial 3, 3) := by decide +kernel
theorem dX0_init_4 : decode cX0_init 4 = .ok (.aload_n 0, 1) := by decide +kernel
theorem dX0_init_5 : decode cX0_init 5 = .ok (.bipush 10, 2) := by decide +kernel
theorem dX0_init_7 : decode cX0_init 7 = .ok (.anewarray 9, 3) := by decide +kernel
theorem dX0_init_10 : decode cX0_init 10 = .ok (.putfield 11, 3) := by decide +kernel
theorem dX0_init_13 : decode cX0_init 13 = .ok (.aload_n 0, 1) := by decide +kernel
theorem dX0_init_14 : decode cX0_init 14 = .ok (.bipush 6, 2) := by decide +kernel
theorem dX0_init_16 : decode cX0_init 16 = .ok (.anewarray 17, 3) := by decide +kernel
theorem dX0_init_19 : decode cX0_init 19 = .ok (.putfield 19, 3) := by decide +kernel
theorem dX0_init_22 : decode cX0_init 22 = .ok (.aload_n 0, 1) := by decide +kernel
theorem dX0_init_23 : decode cX0_init 23 = .ok (.bipush 6, 2) := by decide +kernel
theorem dX0_init_25 : decode cX0_init 25 = .ok (.putfield 23, 3) := by decide +kernel
theorem dX0_init_28 : decode cX0_init 28 = .ok (.aload_n 0, 1) := by decide +kernel
theorem dX0_init_29 : decode cX0_init 29 = .ok (.bipush 50, 2) := by decide +kernel
theorem dX0_init_31 : decode cX0_init 31 = .ok (.putfield 27, 3) := by decide +kernel
theorem dX0_init_34 : decode cX0_init 34 = .ok (.aload_n 0, 1) := by decide +kernel
theorem dX0_init_35 : decode cX0_init 35 = .ok (.iconst 1, 1) := by decide +kernel
theorem dX0_init_36 : decode cX0_init 36 = .ok (.putfield 30, 3) := by decide +kernel
theorem dX0_init_39 : decode cX0_init 39 = .ok (.aload_n 0, 1) := by decide +kernel
theorem dX0_init_40 : decode cX0_init 40 = .ok (.aload_n 1, 1) := by decide +kernel
theorem dX0_init_41 : decode cX0_init 41 = .ok (.putfield 33, 3) := by decide +kernel
theorem dX0_init_44 : decode cX0_init 44 = .ok (.iconst 0, 1) := by decide +kernel
theorem dX0_init_45 : decode cX0_init 45 = .ok (.istore_n 2, 1) := by decide +kernel
theorem dX0_init_46 : decode cX0_init 46 = .ok (.iload_n 2, 1) := by decide +kernel
theorem dX0_init_47 : decode cX0_init 47 = .ok (.bipush 10, 2) := by decide +kernel
theorem dX0_init_49 : decode cX0_init 49 = .ok (.if_icmp .ge 22, 3) := by decide +kernel
theorem dX0_init_52 : decode cX0_init 52 = .ok (.aload_n 0, 1) := by decide +kernel
theorem dX0_init_53 : decode cX0_init 53 = .ok (.getfield 11, 3) := by decide +kernel
theorem dX0_init_56 : decode cX0_init 56 = .ok (.iload_n 2, 1) := by decide +kernel
theorem dX0_init_57 : decode cX0_init 57 = .ok (.new 9, 3) := by decide +kernel
theorem dX0_init_60 : decode cX0_init 60 = .ok (.dup, 1) := by decide +kernel
theorem dX0_init_61 : decode cX0_init 61 = .ok (.invokespecial 37, 3) := by decide +kernel
theorem dX0_init_64 : decode cX0_init 64 = .ok (.aastore, 1) := by decide +kernel
theorem dX0_init_65 : decode cX0_init 65 = .ok (.iinc 2 1, 3) := by decide +kernel
theorem dX0_init_68 : decode cX0_init 68 = .ok (.goto (-22), 3) := by decide +kernel
theorem dX0_init_71 : decode cX0_init 71 = .ok (.iconst 0, 1) := by decide +kernel
theorem dX0_init_72 : decode cX0_init 72 = .ok (.istore_n 2, 1) := by decide +kernel
theorem dX0_init_73 : decode cX0_init 73 = .ok (.iload_n 2, 1) := by decide +kernel
theorem dX0_init_74 : decode cX0_init 74 = .ok (.bipush 6, 2) := by decide +kernel
theorem dX0_init_76 : decode cX0_init 76 = .ok (.if_icmp .ge 22, 3) := by decide +kernel
theorem dX0_init_79 : decode cX0_init 79 = .ok (.aload_n 0, 1) := by decide +kernel
theorem dX0_init_80 : decode cX0_init 80 = .ok (.getfield 19, 3) := by decide +kernel
theorem dX0_init_83 : decode cX0_init 83 = .ok (.iload_n 2, 1) := by decide +kernel
theorem dX0_init_84 : decode cX0_init 84 = .ok (.new 17, 3) := by decide +kernel
theorem dX0_init_87 : decode cX0_init 87 = .ok (.dup, 1) := by decide +kernel
theorem dX0_init_88 : decode cX0_init 88 = .ok (.invokespecial 38, 3) := by decide +kernel
theorem dX0_init_91 : decode cX0_init 91 = .ok (.aastore, 1) := by decide +kernel
theorem dX0_init_92 : decode cX0_init 92 = .ok (.iinc 2 1, 3) := by decide +kernel
theorem dX0_init_95 : decode cX0_init 95 = .ok (.goto (-22), 3) := by decide +kernel
theorem dX0_init_98 : decode cX0_init 98 = .ok (.return_, 1) := by decide +kernel
theorem dX0_becomes_0 : decode cX0_becomes 0 = .ok (.aload_n 0, 1) := by decide +kernel
theorem dX0_becomes_1 : decode cX0_becomes 1 = .ok (.aload_n 1, 1) := by decide +kernel
theorem dX0_becomes_2 : decode cX0_becomes 2 = .ok (.getfield 39, 3) := by decide +kernel
theorem dX0_becomes_5 : decode cX0_becomes 5 = .ok (.putfield 39, 3) := by decide +kernel
theorem dX0_becomes_8 : decode cX0_becomes 8 = .ok (.aload_n 0, 1) := by decide +kernel
theorem dX0_becomes_9 : decode cX0_becomes 9 = .ok (.aload_n 1, 1) := by decide +kernel
theorem dX0_becomes_10 : decode cX0_becomes 10 = .ok (.getfield 42, 3) := by decide +kernel
theorem dX0_becomes_13 : decode cX0_becomes 13 = .ok (.putfield 42, 3) := by decide +kernel
theorem dX0_becomes_16 : decode cX0_becomes 16 = .ok (.aload_n 0, 1) := by decide +kernel
theorem dX0_becomes_17 : decode cX0_becomes 17 = .ok (.aload_n 1, 1) := by decide +kernel
theorem dX0_becomes_18 : decode cX0_becomes 18 = .ok (.getfield 45, 3) := by decide +kernel
theorem dX0_becomes_21 : decode cX0_becomes 21 = .ok (.putfield 45, 3) := by decide +kernel
theorem dX0_becomes_24 : decode cX0_becomes 24 = .ok (.aload_n 0, 1) := by decide +kernel
theorem dX0_becomes_25 : decode cX0_becomes 25 = .ok (.aload_n 1, 1) := by decide +kernel
theorem dX0_becomes_26 : decode cX0_becomes 26 = .ok (.getfield 48, 3) := by decide +kernel
theorem dX0_becomes_29 : decode cX0_becomes 29 = .ok (.putfield 48, 3) := by decide +kernel
theorem dX0_becomes_32 : decode cX0_becomes 32 = .ok (.aload_n 0, 1) := by decide +kernel
theorem dX0_becomes_33 : decode cX0_becomes 33 = .ok (.aload_n 1, 1) := by decide +kernel
theorem dX0_becomes_34 : decode cX0_becomes 34 = .ok (.getfield 23, 3) := by decide +kernel
theorem dX0_becomes_37 : decode cX0_becomes 37 = .ok (.putfield 23, 3) := by decide +kernel
theorem dX0_becomes_40 : decode cX0_becomes 40 = .ok (.aload_n 0, 1) := by decide +kernel
theorem dX0_becomes_41 : decode cX0_becomes 41 = .ok (.aload_n 1, 1) := by decide +kernel
theorem dX0_becomes_42 : decode cX0_becomes 42 = .ok (.getfield 27, 3) := by decide +kernel
theorem dX0_becomes_45 : decode cX0_becomes 45 = .ok (.putfield 27, 3) := by decide +kernel
theorem dX0_becomes_48 : decode cX0_becomes 48 = .ok (.aload_n 0, 1) := by decide +kernel
theorem dX0_becomes_49 : decode cX0_becomes 49 = .ok (.aload_n 1, 1) := by decide +kernel
theorem dX0_becomes_50 : decode cX0_becomes 50 = .ok (.getfield 51, 3) := by decide +kernel
theorem dX0_becomes_53 : decode cX0_becomes 53 = .ok (.putfield 51, 3) := by decide +kernel
theorem dX0_becomes_56 : decode cX0_becomes 56 = .ok (.aload_n 0, 1) := by decide +kernel
theorem dX0_becomes_57 : decode cX0_becomes 57 = .ok (.aload_n 1, 1) := by decide +kernel
theorem dX0_becomes_58 : decode cX0_becomes 58 = .ok (.getfield 30, 3) := by decide +kernel
theorem dX0_becomes_61 : decode cX0_becomes 61 = .ok (.putfield 30, 3) := by decide +kernel
theorem dX0_becomes_64 : decode cX0_becomes 64 = .ok (.iconst 0, 1) := by decide +kernel
theorem dX0_becomes_65 : decode cX0_becomes 65 = .ok (.istore_n 2, 1) := by decide +kernel
theorem dX0_becomes_66 : decode cX0_becomes 66 = .ok (.iload_n 2, 1) := by decide +kernel
theorem dX0_becomes_67 : decode cX0_becomes 67 = .ok (.aload_n 0, 1) := by decide +kernel
theorem dX0_becomes_68 : decode cX0_becomes 68 = .ok (.getfield 39, 3) := by decide +kernel
theorem dX0_becomes_71 : decode cX0_becomes 71 = .ok (.if_icmp .ge 24, 3) := by decide +kernel
theorem dX0_becomes_74 : decode cX0_becomes 74 = .ok (.aload_n 0, 1) := by decide +kernel
theorem dX0_becomes_75 : decode cX0_becomes 75 = .ok (.getfield 11, 3) := by decide +kernel
theorem dX0_becomes_78 : decode cX0_becomes 78 = .ok (.iload_n 2, 1) := by decide +kernel
theorem dX0_becomes_79 : decode cX0_becomes 79 = .ok (.aaload, 1) := by decide +kernel
theorem dX0_becomes_80 : decode cX0_becomes 80 = .ok (.aload_n 1, 1) := by decide +kernel
theorem dX0_becomes_81 : decode cX0_becomes 81 = .ok (.getfield 11, 3) := by decide +kernel
theorem dX0_becomes_84 : decode cX0_becomes 84 = .ok (.iload_n 2, 1) := by decide +kernel
theorem dX0_becomes_85 : decode cX0_becomes 85 = .ok (.aaload, 1) := by decide +kernel
theorem dX0_becomes_86 : decode cX0_becomes 86 = .ok (.invokevirtual 54, 3) := by decide +kernel
theorem dX0_becomes_89 : decode cX0_becomes 89 = .ok (.iinc 2 1, 3) := by decide +kernel
theorem dX0_becomes_92 : decode cX0_becomes 92 = .ok (.goto (-26), 3) := by decide +kernel
theorem dX0_becomes_95 : decode cX0_becomes 95 = .ok (.iconst 0, 1) := by decide +kernel
theorem dX0_becomes_96 : decode cX0_becomes 96 = .ok (.istore_n 2, 1) := by decide +kernel
theorem dX0_becomes_97 : decode cX0_becomes 97 = .ok (.iload_n 2, 1) := by decide +kernel
theorem dX0_becomes_98 : decode cX0_becomes 98 = .ok (.aload_n 0, 1) := by decide +kernel
theorem dX0_becomes_99 : decode cX0_becomes 99 = .ok (.getfield 42, 3) := by decide +kernel
theorem dX0_becomes_102 : decode cX0_becomes 102 = .ok (.if_icmp .ge 24, 3) := by decide +kernel
theorem dX0_becomes_105 : decode cX0_becomes 105 = .ok (.aload_n 0, 1) := by decide +kernel
theorem dX0_becomes_106 : decode cX0_becomes 106 = .ok (.getfield 19, 3) := by decide +kernel
theorem dX0_becomes_109 : decode cX0_becomes 109 = .ok (.iload_n 2, 1) := by decide +kernel
theorem dX0_becomes_110 : decode cX0_becomes 110 = .ok (.aaload, 1) := by decide +kernel
theorem dX0_becomes_111 : decode cX0_becomes 111 = .ok (.aload_n 1, 1) := by decide +kernel
theorem dX0_becomes_112 : decode cX0_becomes 112 = .ok (.getfield 19, 3) := by decide +kernel
theorem dX0_becomes_115 : decode cX0_becomes 115 = .ok (.iload_n 2, 1) := by decide +kernel
theorem dX0_becomes_116 : decode cX0_becomes 116 = .ok (.aaload, 1) := by decide +kernel
theorem dX0_becomes_117 : decode cX0_becomes 117 = .ok (.invokevirtual 58, 3) := by decide +kernel
theorem dX0_becomes_120 : decode cX0_becomes 120 = .ok (.iinc 2 1, 3) := by decide +kernel
theorem dX0_becomes_123 : decode cX0_becomes 123 = .ok (.goto (-26), 3) := by decide +kernel
theorem dX0_becomes_126 : decode cX0_becomes 126 = .ok (.return_, 1) := by decide +kernel
theorem dX0_addWord_0 : decode cX0_addWord 0 = .ok (.aload_n 0, 1) := by decide +kernel
theorem dX0_addWord_1 : decode cX0_addWord 1 = .ok (.getfield 11, 3) := by decide +kernel
theorem dX0_addWord_4 : decode cX0_addWord 4 = .ok (.aload_n 0, 1) := by decide +kernel
theorem dX0_addWord_5 : decode cX0_addWord 5 = .ok (.getfield 39, 3) := by decide +kernel
theorem dX0_addWord_8 : decode cX0_addWord 8 = .ok (.aaload, 1) := by decide +kernel
theorem dX0_addWord_9 : decode cX0_addWord 9 = .ok (.astore 5, 2) := by decide +kernel
theorem dX0_addWord_11 : decode cX0_addWord 11 = .ok (.aload 5, 2) := by decide +kernel
theorem dX0_addWord_13 : decode cX0_addWord 13 = .ok (.iload_n 1, 1) := by decide +kernel
theorem dX0_addWord_14 : decode cX0_addWord 14 = .ok (.putfield 61, 3) := by decide +kernel
theorem dX0_addWord_17 : decode cX0_addWord 17 = .ok (.aload 5, 2) := by decide +kernel
theorem dX0_addWord_19 : decode cX0_addWord 19 = .ok (.iload_n 2, 1) := by decide +kernel
theorem dX0_addWord_20 : decode cX0_addWord 20 = .ok (.putfield 64, 3) := by decide +kernel
theorem dX0_addWord_23 : decode cX0_addWord 23 = .ok (.aload 5, 2) := by decide +kernel
theorem dX0_addWord_25 : decode cX0_addWord 25 = .ok (.iload_n 3, 1) := by decide +kernel
theorem dX0_addWord_26 : decode cX0_addWord 26 = .ok (.putfield 67, 3) := by decide +kernel
theorem dX0_addWord_29 : decode cX0_addWord 29 = .ok (.aload 5, 2) := by decide +kernel
theorem dX0_addWord_31 : decode cX0_addWord 31 = .ok (.iload 4, 2) := by decide +kernel
theorem dX0_addWord_33 : decode cX0_addWord 33 = .ok (.putfield 70, 3) := by decide +kernel
theorem dX0_addWord_36 : decode cX0_addWord 36 = .ok (.aload 5, 2) := by decide +kernel
theorem dX0_addWord_38 : decode cX0_addWord 38 = .ok (.iconst 0, 1) := by decide +kernel
theorem dX0_addWord_39 : decode cX0_addWord 39 = .ok (.putfield 73, 3) := by decide +kernel
theorem dX0_addWord_42 : decode cX0_addWord 42 = .ok (.aload 5, 2) := by decide +kernel
theorem dX0_addWord_44 : decode cX0_addWord 44 = .ok (.iconst 0, 1) := by decide +kernel
theorem dX0_addWord_45 : decode cX0_addWord 45 = .ok (.putfield 76, 3) := by decide +kernel
theorem dX0_addWord_48 : decode cX0_addWord 48 = .ok (.aload_n 0, 1) := by decide +kernel
theorem dX0_addWord_49 : decode cX0_addWord 49 = .ok (.dup, 1) := by decide +kernel
theorem dX0_addWord_50 : decode cX0_addWord 50 = .ok (.getfield 39, 3) := by decide +kernel
theorem dX0_addWord_53 : decode cX0_addWord 53 = .ok (.dup_x1, 1) := by decide +kernel
theorem dX0_addWord_54 : decode cX0_addWord 54 = .ok (.iconst 1, 1) := by decide +kernel
theorem dX0_addWord_55 : decode cX0_addWord 55 = .ok (.iadd, 1) := by decide +kernel
theorem dX0_addWord_56 : decode cX0_addWord 56 = .ok (.putfield 39, 3) := by decide +kernel
theorem dX0_addWord_59 : decode cX0_addWord 59 = .ok (.ireturn, 1) := by decide +kernel
theorem dX0_addTraveller_0 : decode cX0_addTraveller 0 = .ok (.aload_n 0, 1) := by decide +kernel
theorem dX0_addTraveller_1 : decode cX0_addTraveller 1 = .ok (.getfield 19, 3) := by decide +kernel
theorem dX0_addTraveller_4 : decode cX0_addTraveller 4 = .ok (.aload_n 0, 1) := by decide +kernel
theorem dX0_addTraveller_5 : decode cX0_addTraveller 5 = .ok (.getfield 42, 3) := by decide +kernel
theorem dX0_addTraveller_8 : decode cX0_addTraveller 8 = .ok (.aaload, 1) := by decide +kernel
theorem dX0_addTraveller_9 : decode cX0_addTraveller 9 = .ok (.astore_n 1, 1) := by decide +kernel
theorem dX0_addTraveller_10 : decode cX0_addTraveller 10 = .ok (.aload_n 1, 1) := by decide +kernel
theorem dX0_addTraveller_11 : decode cX0_addTraveller 11 = .ok (.iconst 0, 1) := by decide +kernel
theorem dX0_addTraveller_12 : decode cX0_addTraveller 12 = .ok (.putfield 79, 3) := by decide +kernel
theorem dX0_addTraveller_15 : decode cX0_addTraveller 15 = .ok (.aload_n 1, 1) := by decide +kernel
theorem dX0_addTraveller_16 : decode cX0_addTraveller 16 = .ok (.iconst 0, 1) := by decide +kernel
theorem dX0_addTraveller_17 : decode cX0_addTraveller 17 = .ok (.putfield 82, 3) := by decide +kernel
theorem dX0_addTraveller_20 : decode cX0_addTraveller 20 = .ok (.aload_n 0, 1) := by decide +kernel
theorem dX0_addTraveller_21 : decode cX0_addTraveller 21 = .ok (.dup, 1) := by decide +kernel
theorem dX0_addTraveller_22 : decode cX0_addTraveller 22 = .ok (.getfield 42, 3) := by decide +kernel
theorem dX0_addTraveller_25 : decode cX0_addTraveller 25 = .ok (.dup_x1, 1) := by decide +kernel
theorem dX0_addTraveller_26 : decode cX0_addTraveller 26 = .ok (.iconst 1, 1) := by decide +kernel
theorem dX0_addTraveller_27 : decode cX0_addTraveller 27 = .ok (.iadd, 1) := by decide +kernel
theorem dX0_addTraveller_28 : decode cX0_addTraveller 28 = .ok (.putfield 42, 3) := by decide +kernel
theorem dX0_addTraveller_31 : decode cX0_addTraveller 31 = .ok (.ireturn, 1) := by decide +kernel
theorem dX0_drawWord_0 : decode cX0_drawWord 0 = .ok (.aload_n 0, 1) := by decide +kernel
theorem dX0_drawWord_1 : decode cX0_drawWord 1 = .ok (.invokevirtual 85, 3) := by decide +kernel
theorem dX0_drawWord_4 : decode cX0_drawWord 4 = .ok (.bipush 6, 2) := by decide +kernel
theorem dX0_drawWord_6 : decode cX0_drawWord 6 = .ok (.irem, 1) := by decide +kernel
theorem dX0_drawWord_7 : decode cX0_drawWord 7 = .ok (.istore_n 1, 1) := by decide +kernel
theorem dX0_drawWord_8 : decode cX0_drawWord 8 = .ok (.iconst 1, 1) := by decide +kernel
theorem dX0_drawWord_9 : decode cX0_drawWord 9 = .ok (.aload_n 0, 1) := by decide +kernel
theorem dX0_drawWord_10 : decode cX0_drawWord 10 = .ok (.invokevirtual 85, 3) := by decide +kernel
theorem dX0_drawWord_13 : decode cX0_drawWord 13 = .ok (.sipush 255, 3) := by decide +kernel
theorem dX0_drawWord_16 : decode cX0_drawWord 16 = .ok (.irem, 1) := by decide +kernel
theorem dX0_drawWord_17 : decode cX0_drawWord 17 = .ok (.iadd, 1) := by decide +kernel
theorem dX0_drawWord_18 : decode cX0_drawWord 18 = .ok (.istore_n 2, 1) := by decide +kernel
theorem dX0_drawWord_19 : decode cX0_drawWord 19 = .ok (.aload_n 0, 1) := by decide +kernel
theorem dX0_drawWord_20 : decode cX0_drawWord 20 = .ok (.invokevirtual 85, 3) := by decide +kernel
theorem dX0_drawWord_23 : decode cX0_drawWord 23 = .ok (.bipush 50, 2) := by decide +kernel
theorem dX0_drawWord_25 : decode cX0_drawWord 25 = .ok (.irem, 1) := by decide +kernel
theorem dX0_drawWord_26 : decode cX0_drawWord 26 = .ok (.istore_n 3, 1) := by decide +kernel
theorem dX0_drawWord_27 : decode cX0_drawWord 27 = .ok (.aload_n 0, 1) := by decide +kernel
theorem dX0_drawWord_28 : decode cX0_drawWord 28 = .ok (.invokevirtual 85, 3) := by decide +kernel
theorem dX0_drawWord_31 : decode cX0_drawWord 31 = .ok (.bipush 10, 2) := by decide +kernel
theorem dX0_drawWord_33 : decode cX0_drawWord 33 = .ok (.irem, 1) := by decide +kernel
theorem dX0_drawWord_34 : decode cX0_drawWord 34 = .ok (.istore 4, 2) := by decide +kernel
theorem dX0_drawWord_36 : decode cX0_drawWord 36 = .ok (.aload_n 0, 1) := by decide +kernel
theorem dX0_drawWord_37 : decode cX0_drawWord 37 = .ok (.iload_n 1, 1) := by decide +kernel
theorem dX0_drawWord_38 : decode cX0_drawWord 38 = .ok (.iload_n 2, 1) := by decide +kernel
theorem dX0_drawWord_39 : decode cX0_drawWord 39 = .ok (.iload_n 3, 1) := by decide +kernel
theorem dX0_drawWord_40 : decode cX0_drawWord 40 = .ok (.iload 4, 2) := by decide +kernel
theorem dX0_drawWord_42 : decode cX0_drawWord 42 = .ok (.invokevirtual 89, 3) := by decide +kernel
theorem dX0_drawWord_45 : decode cX0_drawWord 45 = .ok (.pop, 1) := by decide +kernel
theorem dX0_drawWord_46 : decode cX0_drawWord 46 = .ok (.return_, 1) := by decide +kernel
theorem dX0_draw_0 : decode cX0_draw 0 = .ok (.aload_n 0, 1) := by decide +kernel
theorem dX0_draw_1 : decode cX0_draw 1 = .ok (.aload_n 0, 1) := by decide +kernel
theorem dX0_draw_2 : decode cX0_draw 2 = .ok (.getfield 30, 3) := by decide +kernel
theorem dX0_draw_5 : decode cX0_draw 5 = .ok (.ldc 93, 2) := by decide +kernel
theorem dX0_draw_7 : decode cX0_draw 7 = .ok (.imul, 1) := by decide +kernel
theorem dX0_draw_8 : decode cX0_draw 8 = .ok (.sipush 12345, 3) := by decide +kernel
theorem dX0_draw_11 : decode cX0_draw 11 = .ok (.iadd, 1) := by decide +kernel
theorem dX0_draw_12 : decode cX0_draw 12 = .ok (.putfield 30, 3) := by decide +kernel
theorem dX0_draw_15 : decode cX0_draw 15 = .ok (.aload_n 0, 1) := by decide +kernel
theorem dX0_draw_16 : decode cX0_draw 16 = .ok (.getfield 30, 3) := by decide +kernel
theorem dX0_draw_19 : decode cX0_draw 19 = .ok (.bipush 8, 2) := by decide +kernel
theorem dX0_draw_21 : decode cX0_draw 21 = .ok (.iushr, 1) := by decide +kernel
theorem dX0_draw_22 : decode cX0_draw 22 = .ok (.ireturn, 1) := by decide +kernel
theorem dX0_hasWord_0 : decode cX0_hasWord 0 = .ok (.iload_n 1, 1) := by decide +kernel
theorem dX0_hasWord_1 : decode cX0_hasWord 1 = .ok (.iconst 0, 1) := by decide +kernel
theorem dX0_hasWord_2 : decode cX0_hasWord 2 = .ok (.aload_n 0, 1) := by decide +kernel
theorem dX0_hasWord_3 : decode cX0_hasWord 3 = .ok (.getfield 39, 3) := by decide +kernel
theorem dX0_hasWord_6 : decode cX0_hasWord 6 = .ok (.iconst 1, 1) := by decide +kernel
theorem dX0_hasWord_7 : decode cX0_hasWord 7 = .ok (.isub, 1) := by decide +kernel
theorem dX0_hasWord_8 : decode cX0_hasWord 8 = .ok (.invokestatic 94, 3) := by decide +kernel
theorem dX0_hasWord_11 : decode cX0_hasWord 11 = .ok (.ireturn, 1) := by decide +kernel
theorem dX0_hasTraveller_0 : decode cX0_hasTraveller 0 = .ok (.iload_n 1, 1) := by decide +kernel
theorem dX0_hasTraveller_1 : decode cX0_hasTraveller 1 = .ok (.iconst 0, 1) := by decide +kernel
theorem dX0_hasTraveller_2 : decode cX0_hasTraveller 2 = .ok (.aload_n 0, 1) := by decide +kernel
theorem dX0_hasTraveller_3 : decode cX0_hasTraveller 3 = .ok (.getfield 42, 3) := by decide +kernel
theorem dX0_hasTraveller_6 : decode cX0_hasTraveller 6 = .ok (.iconst 1, 1) := by decide +kernel
theorem dX0_hasTraveller_7 : decode cX0_hasTraveller 7 = .ok (.isub, 1) := by decide +kernel
theorem dX0_hasTraveller_8 : decode cX0_hasTraveller 8 = .ok (.invokestatic 94, 3) := by decide +kernel
theorem dX0_hasTraveller_11 : decode cX0_hasTraveller 11 = .ok (.ireturn, 1) := by decide +kernel
theorem dX0_allWords_0 : decode cX0_allWords 0 = .ok (.iconst 1, 1) := by decide +kernel
theorem dX0_allWords_1 : decode cX0_allWords 1 = .ok (.aload_n 0, 1) := by decide +kernel
theorem dX0_allWords_2 : decode cX0_allWords 2 = .ok (.getfield 39, 3) := by decide +kernel
theorem dX0_allWords_5 : decode cX0_allWords 5 = .ok (.ishl, 1) := by decide +kernel
theorem dX0_allWords_6 : decode cX0_allWords 6 = .ok (.iconst 1, 1) := by decide +kernel
theorem dX0_allWords_7 : decode cX0_allWords 7 = .ok (.isub, 1) := by decide +kernel
theorem dX0_allWords_8 : decode cX0_allWords 8 = .ok (.ireturn, 1) := by decide +kernel
theorem dX0_hasAll_0 : decode cX0_hasAll 0 = .ok (.iload_n 1, 1) := by decide +kernel
theorem dX0_hasAll_1 : decode cX0_hasAll 1 = .ok (.iconst 0, 1) := by decide +kernel
theorem dX0_hasAll_2 : decode cX0_hasAll 2 = .ok (.aload_n 0, 1) := by decide +kernel
theorem dX0_hasAll_3 : decode cX0_hasAll 3 = .ok (.invokevirtual 98, 3) := by decide +kernel
theorem dX0_hasAll_6 : decode cX0_hasAll 6 = .ok (.invokestatic 94, 3) := by decide +kernel
theorem dX0_hasAll_9 : decode cX0_hasAll 9 = .ok (.ireturn, 1) := by decide +kernel
theorem dX0_haveAll_0 : decode cX0_haveAll 0 = .ok (.iload_n 2, 1) := by decide +kernel
theorem dX0_haveAll_1 : decode cX0_haveAll 1 = .ok (.aload_n 0, 1) := by decide +kernel
theorem dX0_haveAll_2 : decode cX0_haveAll 2 = .ok (.iload_n 1, 1) := by decide +kernel
theorem dX0_haveAll_3 : decode cX0_haveAll 3 = .ok (.invokevirtual 101, 3) := by decide +kernel
theorem dX0_haveAll_6 : decode cX0_haveAll 6 = .ok (.iconst (-1), 1) := by decide +kernel
theorem dX0_haveAll_7 : decode cX0_haveAll 7 = .ok (.ixor, 1) := by decide +kernel
theorem dX0_haveAll_8 : decode cX0_haveAll 8 = .ok (.iand, 1) := by decide +kernel
theorem dX0_haveAll_9 : decode cX0_haveAll 9 = .ok (.ifCond .ne 7, 3) := by decide +kernel
theorem dX0_haveAll_12 : decode cX0_haveAll 12 = .ok (.iconst 1, 1) := by decide +kernel
theorem dX0_haveAll_13 : decode cX0_haveAll 13 = .ok (.goto 4, 3) := by decide +kernel
theorem dX0_haveAll_16 : decode cX0_haveAll 16 = .ok (.iconst 0, 1) := by decide +kernel
theorem dX0_haveAll_17 : decode cX0_haveAll 17 = .ok (.ireturn, 1) := by decide +kernel
theorem dX0_sensesOf_0 : decode cX0_sensesOf 0 = .ok (.iconst 0, 1) := by decide +kernel
theorem dX0_sensesOf_1 : decode cX0_sensesOf 1 = .ok (.istore_n 2, 1) := by decide +kernel
theorem dX0_sensesOf_2 : decode cX0_sensesOf 2 = .ok (.iconst 0, 1) := by decide +kernel
theorem dX0_sensesOf_3 : decode cX0_sensesOf 3 = .ok (.istore_n 3, 1) := by decide +kernel
theorem dX0_sensesOf_4 : decode cX0_sensesOf 4 = .ok (.iload_n 3, 1) := by decide +kernel
theorem dX0_sensesOf_5 : decode cX0_sensesOf 5 = .ok (.aload_n 0, 1) := by decide +kernel
theorem dX0_sensesOf_6 : decode cX0_sensesOf 6 = .ok (.getfield 39, 3) := by decide +kernel
theorem dX0_sensesOf_9 : decode cX0_sensesOf 9 = .ok (.if_icmp .ge 30, 3) := by decide +kernel
theorem dX0_sensesOf_12 : decode cX0_sensesOf 12 = .ok (.iload_n 1, 1) := by decide +kernel
theorem dX0_sensesOf_13 : decode cX0_sensesOf 13 = .ok (.iload_n 3, 1) := by decide +kernel
theorem dX0_sensesOf_14 : decode cX0_sensesOf 14 = .ok (.ishr, 1) := by decide +kernel
theorem dX0_sensesOf_15 : decode cX0_sensesOf 15 = .ok (.iconst 1, 1) := by decide +kernel
theorem dX0_sensesOf_16 : decode cX0_sensesOf 16 = .ok (.iand, 1) := by decide +kernel
theorem dX0_sensesOf_17 : decode cX0_sensesOf 17 = .ok (.iconst 1, 1) := by decide +kernel
theorem dX0_sensesOf_18 : decode cX0_sensesOf 18 = .ok (.if_icmp .ne 15, 3) := by decide +kernel
theorem dX0_sensesOf_21 : decode cX0_sensesOf 21 = .ok (.iload_n 2, 1) := by decide +kernel
theorem dX0_sensesOf_22 : decode cX0_sensesOf 22 = .ok (.aload_n 0, 1) := by decide +kernel
theorem dX0_sensesOf_23 : decode cX0_sensesOf 23 = .ok (.getfield 11, 3) := by decide +kernel
theorem dX0_sensesOf_26 : decode cX0_sensesOf 26 = .ok (.iload_n 3, 1) := by decide +kernel
theorem dX0_sensesOf_27 : decode cX0_sensesOf 27 = .ok (.aaload, 1) := by decide +kernel
theorem dX0_sensesOf_28 : decode cX0_sensesOf 28 = .ok (.getfield 64, 3) := by decide +kernel
theorem dX0_sensesOf_31 : decode cX0_sensesOf 31 = .ok (.ior, 1) := by decide +kernel
theorem dX0_sensesOf_32 : decode cX0_sensesOf 32 = .ok (.istore_n 2, 1) := by decide +kernel
theorem dX0_sensesOf_33 : decode cX0_sensesOf 33 = .ok (.iinc 3 1, 3) := by decide +kernel
theorem dX0_sensesOf_36 : decode cX0_sensesOf 36 = .ok (.goto (-32), 3) := by decide +kernel
theorem dX0_sensesOf_39 : decode cX0_sensesOf 39 = .ok (.iload_n 2, 1) := by decide +kernel
theorem dX0_sensesOf_40 : decode cX0_sensesOf 40 = .ok (.ireturn, 1) := by decide +kernel
theorem dX0_heldByAll_0 : decode cX0_heldByAll 0 = .ok (.iconst 0, 1) := by decide +kernel
theorem dX0_heldByAll_1 : decode cX0_heldByAll 1 = .ok (.istore_n 1, 1) := by decide +kernel
theorem dX0_heldByAll_2 : decode cX0_heldByAll 2 = .ok (.iconst 0, 1) := by decide +kernel
theorem dX0_heldByAll_3 : decode cX0_heldByAll 3 = .ok (.istore_n 2, 1) := by decide +kernel
theorem dX0_heldByAll_4 : decode cX0_heldByAll 4 = .ok (.iload_n 2, 1) := by decide +kernel
theorem dX0_heldByAll_5 : decode cX0_heldByAll 5 = .ok (.aload_n 0, 1) := by decide +kernel
theorem dX0_heldByAll_6 : decode cX0_heldByAll 6 = .ok (.getfield 42, 3) := by decide +kernel
theorem dX0_heldByAll_9 : decode cX0_heldByAll 9 = .ok (.if_icmp .ge 21, 3) := by decide +kernel
theorem dX0_heldByAll_12 : decode cX0_heldByAll 12 = .ok (.iload_n 1, 1) := by decide +kernel
theorem dX0_heldByAll_13 : decode cX0_heldByAll 13 = .ok (.aload_n 0, 1) := by decide +kernel
theorem dX0_heldByAll_14 : decode cX0_heldByAll 14 = .ok (.getfield 19, 3) := by decide +kernel
theorem dX0_heldByAll_17 : decode cX0_heldByAll 17 = .ok (.iload_n 2, 1) := by decide +kernel
theorem dX0_heldByAll_18 : decode cX0_heldByAll 18 = .ok (.aaload, 1) := by decide +kernel
theorem dX0_heldByAll_19 : decode cX0_heldByAll 19 = .ok (.getfield 79, 3) := by decide +kernel
theorem dX0_heldByAll_22 : decode cX0_heldByAll 22 = .ok (.ior, 1) := by decide +kernel
theorem dX0_heldByAll_23 : decode cX0_heldByAll 23 = .ok (.istore_n 1, 1) := by decide +kernel
theorem dX0_heldByAll_24 : decode cX0_heldByAll 24 = .ok (.iinc 2 1, 3) := by decide +kernel
theorem dX0_heldByAll_27 : decode cX0_heldByAll 27 = .ok (.goto (-23), 3) := by decide +kernel
theorem dX0_heldByAll_30 : decode cX0_heldByAll 30 = .ok (.iload_n 1, 1) := by decide +kernel
theorem dX0_heldByAll_31 : decode cX0_heldByAll 31 = .ok (.ireturn, 1) := by decide +kernel
theorem dX0_paidByAll_0 : decode cX0_paidByAll 0 = .ok (.iconst 0, 1) := by decide +kernel
theorem dX0_paidByAll_1 : decode cX0_paidByAll 1 = .ok (.istore_n 1, 1) := by decide +kernel
theorem dX0_paidByAll_2 : decode cX0_paidByAll 2 = .ok (.iconst 0, 1) := by decide +kernel
theorem dX0_paidByAll_3 : decode cX0_paidByAll 3 = .ok (.istore_n 2, 1) := by decide +kernel
theorem dX0_paidByAll_4 : decode cX0_paidByAll 4 = .ok (.iload_n 2, 1) := by decide +kernel
theorem dX0_paidByAll_5 : decode cX0_paidByAll 5 = .ok (.aload_n 0, 1) := by decide +kernel
theorem dX0_paidByAll_6 : decode cX0_paidByAll 6 = .ok (.getfield 42, 3) := by decide +kernel
theorem dX0_paidByAll_9 : decode cX0_paidByAll 9 = .ok (.if_icmp .ge 21, 3) := by decide +kernel
theorem dX0_paidByAll_12 : decode cX0_paidByAll 12 = .ok (.iload_n 1, 1) := by decide +kernel
theorem dX0_paidByAll_13 : decode cX0_paidByAll 13 = .ok (.aload_n 0, 1) := by decide +kernel
theorem dX0_paidByAll_14 : decode cX0_paidByAll 14 = .ok (.getfield 19, 3) := by decide +kernel
theorem dX0_paidByAll_17 : decode cX0_paidByAll 17 = .ok (.iload_n 2, 1) := by decide +kernel
theorem dX0_paidByAll_18 : decode cX0_paidByAll 18 = .ok (.aaload, 1) := by decide +kernel
theorem dX0_paidByAll_19 : decode cX0_paidByAll 19 = .ok (.getfield 82, 3) := by decide +kernel
theorem dX0_paidByAll_22 : decode cX0_paidByAll 22 = .ok (.iadd, 1) := by decide +kernel
theorem dX0_paidByAll_23 : decode cX0_paidByAll 23 = .ok (.istore_n 1, 1) := by decide +kernel
theorem dX0_paidByAll_24 : decode cX0_paidByAll 24 = .ok (.iinc 2 1, 3) := by decide +kernel
theorem dX0_paidByAll_27 : decode cX0_paidByAll 27 = .ok (.goto (-23), 3) := by decide +kernel
theorem dX0_paidByAll_30 : decode cX0_paidByAll 30 = .ok (.iload_n 1, 1) := by decide +kernel
theorem dX0_paidByAll_31 : decode cX0_paidByAll 31 = .ok (.ireturn, 1) := by decide +kernel
theorem dX0_stampsOfAll_0 : decode cX0_stampsOfAll 0 = .ok (.iconst 0, 1) := by decide +kernel
theorem dX0_stampsOfAll_1 : decode cX0_stampsOfAll 1 = .ok (.istore_n 1, 1) := by decide +kernel
theorem dX0_stampsOfAll_2 : decode cX0_stampsOfAll 2 = .ok (.iconst 0, 1) := by decide +kernel
theorem dX0_stampsOfAll_3 : decode cX0_stampsOfAll 3 = .ok (.istore_n 2, 1) := by decide +kernel
theorem dX0_stampsOfAll_4 : decode cX0_stampsOfAll 4 = .ok (.iload_n 2, 1) := by decide +kernel
theorem dX0_stampsOfAll_5 : decode cX0_stampsOfAll 5 = .ok (.aload_n 0, 1) := by decide +kernel
theorem dX0_stampsOfAll_6 : decode cX0_stampsOfAll 6 = .ok (.getfield 39, 3) := by decide +kernel
theorem dX0_stampsOfAll_9 : decode cX0_stampsOfAll 9 = .ok (.if_icmp .ge 21, 3) := by decide +kernel
theorem dX0_stampsOfAll_12 : decode cX0_stampsOfAll 12 = .ok (.iload_n 1, 1) := by decide +kernel
theorem dX0_stampsOfAll_13 : decode cX0_stampsOfAll 13 = .ok (.aload_n 0, 1) := by decide +kernel
theorem dX0_stampsOfAll_14 : decode cX0_stampsOfAll 14 = .ok (.getfield 11, 3) := by decide +kernel
theorem dX0_stampsOfAll_17 : decode cX0_stampsOfAll 17 = .ok (.iload_n 2, 1) := by decide +kernel
theorem dX0_stampsOfAll_18 : decode cX0_stampsOfAll 18 = .ok (.aaload, 1) := by decide +kernel
theorem dX0_stampsOfAll_19 : decode cX0_stampsOfAll 19 = .ok (.getfield 73, 3) := by decide +kernel
theorem dX0_stampsOfAll_22 : decode cX0_stampsOfAll 22 = .ok (.iadd, 1) := by decide +kernel
theorem dX0_stampsOfAll_23 : decode cX0_stampsOfAll 23 = .ok (.istore_n 1, 1) := by decide +kernel
theorem dX0_stampsOfAll_24 : decode cX0_stampsOfAll 24 = .ok (.iinc 2 1, 3) := by decide +kernel
theorem dX0_stampsOfAll_27 : decode cX0_stampsOfAll 27 = .ok (.goto (-23), 3) := by decide +kernel
theorem dX0_stampsOfAll_30 : decode cX0_stampsOfAll 30 = .ok (.iload_n 1, 1) := by decide +kernel
theorem dX0_stampsOfAll_31 : decode cX0_stampsOfAll 31 = .ok (.ireturn, 1) := by decide +kernel
theorem dX0_isTurned_0 : decode cX0_isTurned 0 = .ok (.aload_n 0, 1) := by decide +kernel
theorem dX0_isTurned_1 : decode cX0_isTurned 1 = .ok (.getfield 48, 3) := by decide +kernel
theorem dX0_isTurned_4 : decode cX0_isTurned 4 = .ok (.invokestatic 105, 3) := by decide +kernel
theorem dX0_isTurned_7 : decode cX0_isTurned 7 = .ok (.aload_n 0, 1) := by decide +kernel
theorem dX0_isTurned_8 : decode cX0_isTurned 8 = .ok (.getfield 23, 3) := by decide +kernel
theorem dX0_isTurned_11 : decode cX0_isTurned 11 = .ok (.if_icmp .lt 7, 3) := by decide +kernel
theorem dX0_isTurned_14 : decode cX0_isTurned 14 = .ok (.iconst 1, 1) := by decide +kernel
theorem dX0_isTurned_15 : decode cX0_isTurned 15 = .ok (.goto 4, 3) := by decide +kernel
theorem dX0_isTurned_18 : decode cX0_isTurned 18 = .ok (.iconst 0, 1) := by decide +kernel
theorem dX0_isTurned_19 : decode cX0_isTurned 19 = .ok (.ireturn, 1) := by decide +kernel
theorem dX0_countingText_0 : decode cX0_countingText 0 = .ok (.aload_n 0, 1) := by decide +kernel
theorem dX0_countingText_1 : decode cX0_countingText 1 = .ok (.getfield 45, 3) := by decide +kernel
theorem dX0_countingText_4 : decode cX0_countingText 4 = .ok (.iconst 1, 1) := by decide +kernel
theorem dX0_countingText_5 : decode cX0_countingText 5 = .ok (.isub, 1) := by decide +kernel
theorem dX0_countingText_6 : decode cX0_countingText 6 = .ok (.istore_n 2, 1) := by decide +kernel
theorem dX0_countingText_7 : decode cX0_countingText 7 = .ok (.iload_n 2, 1) := by decide +kernel
theorem dX0_countingText_8 : decode cX0_countingText 8 = .ok (.ifCond .lt 24, 3) := by decide +kernel
theorem dX0_countingText_11 : decode cX0_countingText 11 = .ok (.aload_n 0, 1) := by decide +kernel
theorem dX0_countingText_12 : decode cX0_countingText 12 = .ok (.getfield 33, 3) := by decide +kernel
theorem dX0_countingText_15 : decode cX0_countingText 15 = .ok (.getfield 110, 3) := by decide +kernel
theorem dX0_countingText_18 : decode cX0_countingText 18 = .ok (.iload_n 2, 1) := by decide +kernel
theorem dX0_countingText_19 : decode cX0_countingText 19 = .ok (.iaload, 1) := by decide +kernel
theorem dX0_countingText_20 : decode cX0_countingText 20 = .ok (.iload_n 1, 1) := by decide +kernel
theorem dX0_countingText_21 : decode cX0_countingText 21 = .ok (.if_icmp .ne 5, 3) := by decide +kernel
theorem dX0_countingText_24 : decode cX0_countingText 24 = .ok (.iload_n 2, 1) := by decide +kernel
theorem dX0_countingText_25 : decode cX0_countingText 25 = .ok (.ireturn, 1) := by decide +kernel
theorem dX0_countingText_26 : decode cX0_countingText 26 = .ok (.iinc 2 (-1), 3) := by decide +kernel
theorem dX0_countingText_29 : decode cX0_countingText 29 = .ok (.goto (-22), 3) := by decide +kernel
theorem dX0_countingText_32 : decode cX0_countingText 32 = .ok (.ldc 116, 2) := by decide +kernel
theorem dX0_countingText_34 : decode cX0_countingText 34 = .ok (.ireturn, 1) := by decide +kernel
theorem dX0_costsOf_0 : decode cX0_costsOf 0 = .ok (.aload_n 0, 1) := by decide +kernel
theorem dX0_costsOf_1 : decode cX0_costsOf 1 = .ok (.iconst 0, 1) := by decide +kernel
theorem dX0_costsOf_2 : decode cX0_costsOf 2 = .ok (.invokevirtual 117, 3) := by decide +kernel
theorem dX0_costsOf_5 : decode cX0_costsOf 5 = .ok (.istore_n 2, 1) := by decide +kernel
theorem dX0_costsOf_6 : decode cX0_costsOf 6 = .ok (.iload_n 2, 1) := by decide +kernel
theorem dX0_costsOf_7 : decode cX0_costsOf 7 = .ok (.ldc 116, 2) := by decide +kernel
theorem dX0_costsOf_9 : decode cX0_costsOf 9 = .ok (.if_icmp .ne 12, 3) := by decide +kernel
theorem dX0_costsOf_12 : decode cX0_costsOf 12 = .ok (.aload_n 1, 1) := by decide +kernel
theorem dX0_costsOf_13 : decode cX0_costsOf 13 = .ok (.aload_n 1, 1) := by decide +kernel
theorem dX0_costsOf_14 : decode cX0_costsOf 14 = .ok (.getfield 67, 3) := by decide +kernel
theorem dX0_costsOf_17 : decode cX0_costsOf 17 = .ok (.invokevirtual 120, 3) := by decide +kernel
theorem dX0_costsOf_20 : decode cX0_costsOf 20 = .ok (.ireturn, 1) := by decide +kernel
theorem dX0_costsOf_21 : decode cX0_costsOf 21 = .ok (.aload_n 1, 1) := by decide +kernel
theorem dX0_costsOf_22 : decode cX0_costsOf 22 = .ok (.aload_n 0, 1) := by decide +kernel
theorem dX0_costsOf_23 : decode cX0_costsOf 23 = .ok (.getfield 33, 3) := by decide +kernel
theorem dX0_costsOf_26 : decode cX0_costsOf 26 = .ok (.iload_n 2, 1) := by decide +kernel
theorem dX0_costsOf_27 : decode cX0_costsOf 27 = .ok (.aload_n 1, 1) := by decide +kernel
theorem dX0_costsOf_28 : decode cX0_costsOf 28 = .ok (.getfield 67, 3) := by decide +kernel
theorem dX0_costsOf_31 : decode cX0_costsOf 31 = .ok (.aload_n 1, 1) := by decide +kernel
theorem dX0_costsOf_32 : decode cX0_costsOf 32 = .ok (.getfield 76, 3) := by decide +kernel
theorem dX0_costsOf_35 : decode cX0_costsOf 35 = .ok (.aload_n 1, 1) := by decide +kernel
theorem dX0_costsOf_36 : decode cX0_costsOf 36 = .ok (.getfield 70, 3) := by decide +kernel
theorem dX0_costsOf_39 : decode cX0_costsOf 39 = .ok (.invokevirtual 123, 3) := by decide +kernel
theorem dX0_costsOf_42 : decode cX0_costsOf 42 = .ok (.sipush 999, 3) := by decide +kernel
theorem dX0_costsOf_45 : decode cX0_costsOf 45 = .ok (.invokestatic 126, 3) := by decide +kernel
theorem dX0_costsOf_48 : decode cX0_costsOf 48 = .ok (.invokevirtual 120, 3) := by decide +kernel
theorem dX0_costsOf_51 : decode cX0_costsOf 51 = .ok (.ireturn, 1) := by decide +kernel
theorem dX0_crosses_0 : decode cX0_crosses 0 = .ok (.iconst 0, 1) := by decide +kernel
theorem dX0_crosses_1 : decode cX0_crosses 1 = .ok (.istore_n 3, 1) := by decide +kernel
theorem dX0_crosses_2 : decode cX0_crosses 2 = .ok (.iconst 0, 1) := by decide +kernel
theorem dX0_crosses_3 : decode cX0_crosses 3 = .ok (.istore 4, 2) := by decide +kernel
theorem dX0_crosses_5 : decode cX0_crosses 5 = .ok (.iload 4, 2) := by decide +kernel
theorem dX0_crosses_7 : decode cX0_crosses 7 = .ok (.aload_n 0, 1) := by decide +kernel
theorem dX0_crosses_8 : decode cX0_crosses 8 = .ok (.getfield 39, 3) := by decide +kernel
theorem dX0_crosses_11 : decode cX0_crosses 11 = .ok (.if_icmp .ge 134, 3) := by decide +kernel
theorem dX0_crosses_14 : decode cX0_crosses 14 = .ok (.iconst 1, 1) := by decide +kernel
theorem dX0_crosses_15 : decode cX0_crosses 15 = .ok (.iload 4, 2) := by decide +kernel
theorem dX0_crosses_17 : decode cX0_crosses 17 = .ok (.ishl, 1) := by decide +kernel
theorem dX0_crosses_18 : decode cX0_crosses 18 = .ok (.istore 5, 2) := by decide +kernel
theorem dX0_crosses_20 : decode cX0_crosses 20 = .ok (.iload_n 2, 1) := by decide +kernel
theorem dX0_crosses_21 : decode cX0_crosses 21 = .ok (.iload 5, 2) := by decide +kernel
theorem dX0_crosses_23 : decode cX0_crosses 23 = .ok (.iand, 1) := by decide +kernel
theorem dX0_crosses_24 : decode cX0_crosses 24 = .ok (.ifCond .eq 115, 3) := by decide +kernel
theorem dX0_crosses_27 : decode cX0_crosses 27 = .ok (.aload_n 1, 1) := by decide +kernel
theorem dX0_crosses_28 : decode cX0_crosses 28 = .ok (.getfield 79, 3) := by decide +kernel
theorem dX0_crosses_31 : decode cX0_crosses 31 = .ok (.iload 5, 2) := by decide +kernel
theorem dX0_crosses_33 : decode cX0_crosses 33 = .ok (.iand, 1) := by decide +kernel
theorem dX0_crosses_34 : decode cX0_crosses 34 = .ok (.ifCond .eq 6, 3) := by decide +kernel
theorem dX0_crosses_37 : decode cX0_crosses 37 = .ok (.goto 102, 3) := by decide +kernel
theorem dX0_crosses_40 : decode cX0_crosses 40 = .ok (.aload_n 0, 1) := by decide +kernel
theorem dX0_crosses_41 : decode cX0_crosses 41 = .ok (.getfield 11, 3) := by decide +kernel
theorem dX0_crosses_44 : decode cX0_crosses 44 = .ok (.iload 4, 2) := by decide +kernel
theorem dX0_crosses_46 : decode cX0_crosses 46 = .ok (.aaload, 1) := by decide +kernel
theorem dX0_crosses_47 : decode cX0_crosses 47 = .ok (.astore 6, 2) := by decide +kernel
theorem dX0_crosses_49 : decode cX0_crosses 49 = .ok (.aload_n 0, 1) := by decide +kernel
theorem dX0_crosses_50 : decode cX0_crosses 50 = .ok (.invokevirtual 130, 3) := by decide +kernel
theorem dX0_crosses_53 : decode cX0_crosses 53 = .ok (.ifCond .ne 12, 3) := by decide +kernel
theorem dX0_crosses_56 : decode cX0_crosses 56 = .ok (.aload_n 0, 1) := by decide +kernel
theorem dX0_crosses_57 : decode cX0_crosses 57 = .ok (.aload 6, 2) := by decide +kernel
theorem dX0_crosses_59 : decode cX0_crosses 59 = .ok (.invokevirtual 134, 3) := by decide +kernel
theorem dX0_crosses_62 : decode cX0_crosses 62 = .ok (.ifCond .eq 11, 3) := by decide +kernel
theorem dX0_crosses_65 : decode cX0_crosses 65 = .ok (.iload_n 3, 1) := by decide +kernel
theorem dX0_crosses_66 : decode cX0_crosses 66 = .ok (.iload 5, 2) := by decide +kernel
theorem dX0_crosses_68 : decode cX0_crosses 68 = .ok (.ior, 1) := by decide +kernel
theorem dX0_crosses_69 : decode cX0_crosses 69 = .ok (.istore_n 3, 1) := by decide +kernel
theorem dX0_crosses_70 : decode cX0_crosses 70 = .ok (.goto 69, 3) := by decide +kernel
theorem dX0_crosses_73 : decode cX0_crosses 73 = .ok (.aload 6, 2) := by decide +kernel
theorem dX0_crosses_75 : decode cX0_crosses 75 = .ok (.getfield 76, 3) := by decide +kernel
theorem dX0_crosses_78 : decode cX0_crosses 78 = .ok (.aload 6, 2) := by decide +kernel
theorem dX0_crosses_80 : decode cX0_crosses 80 = .ok (.getfield 70, 3) := by decide +kernel
theorem dX0_crosses_83 : decode cX0_crosses 83 = .ok (.if_icmp .ge 56, 3) := by decide +kernel
theorem dX0_crosses_86 : decode cX0_crosses 86 = .ok (.aload_n 1, 1) := by decide +kernel
theorem dX0_crosses_87 : decode cX0_crosses 87 = .ok (.dup, 1) := by decide +kernel
theorem dX0_crosses_88 : decode cX0_crosses 88 = .ok (.getfield 82, 3) := by decide +kernel
theorem dX0_crosses_91 : decode cX0_crosses 91 = .ok (.aload_n 0, 1) := by decide +kernel
theorem dX0_crosses_92 : decode cX0_crosses 92 = .ok (.aload 6, 2) := by decide +kernel
theorem dX0_crosses_94 : decode cX0_crosses 94 = .ok (.invokevirtual 138, 3) := by decide +kernel
theorem dX0_crosses_97 : decode cX0_crosses 97 = .ok (.iadd, 1) := by decide +kernel
theorem dX0_crosses_98 : decode cX0_crosses 98 = .ok (.putfield 82, 3) := by decide +kernel
theorem dX0_crosses_101 : decode cX0_crosses 101 = .ok (.aload 6, 2) := by decide +kernel
theorem dX0_crosses_103 : decode cX0_crosses 103 = .ok (.dup, 1) := by decide +kernel
theorem dX0_crosses_104 : decode cX0_crosses 104 = .ok (.getfield 73, 3) := by decide +kernel
theorem dX0_crosses_107 : decode cX0_crosses 107 = .ok (.iconst 1, 1) := by decide +kernel
theorem dX0_crosses_108 : decode cX0_crosses 108 = .ok (.iadd, 1) := by decide +kernel
theorem dX0_crosses_109 : decode cX0_crosses 109 = .ok (.putfield 73, 3) := by decide +kernel
theorem dX0_crosses_112 : decode cX0_crosses 112 = .ok (.aload 6, 2) := by decide +kernel
theorem dX0_crosses_114 : decode cX0_crosses 114 = .ok (.dup, 1) := by decide +kernel
theorem dX0_crosses_115 : decode cX0_crosses 115 = .ok (.getfield 76, 3) := by decide +kernel
theorem dX0_crosses_118 : decode cX0_crosses 118 = .ok (.iconst 1, 1) := by decide +kernel
theorem dX0_crosses_119 : decode cX0_crosses 119 = .ok (.iadd, 1) := by decide +kernel
theorem dX0_crosses_120 : decode cX0_crosses 120 = .ok (.putfield 76, 3) := by decide +kernel
theorem dX0_crosses_123 : decode cX0_crosses 123 = .ok (.aload_n 0, 1) := by decide +kernel
theorem dX0_crosses_124 : decode cX0_crosses 124 = .ok (.dup, 1) := by decide +kernel
theorem dX0_crosses_125 : decode cX0_crosses 125 = .ok (.getfield 48, 3) := by decide +kernel
theorem dX0_crosses_128 : decode cX0_crosses 128 = .ok (.iload 5, 2) := by decide +kernel
theorem dX0_crosses_130 : decode cX0_crosses 130 = .ok (.ior, 1) := by decide +kernel
theorem dX0_crosses_131 : decode cX0_crosses 131 = .ok (.putfield 48, 3) := by decide +kernel
theorem dX0_crosses_134 : decode cX0_crosses 134 = .ok (.iload_n 3, 1) := by decide +kernel
theorem dX0_crosses_135 : decode cX0_crosses 135 = .ok (.iload 5, 2) := by decide +kernel
theorem dX0_crosses_137 : decode cX0_crosses 137 = .ok (.ior, 1) := by decide +kernel
theorem dX0_crosses_138 : decode cX0_crosses 138 = .ok (.istore_n 3, 1) := by decide +kernel
theorem dX0_crosses_139 : decode cX0_crosses 139 = .ok (.iinc 4 1, 3) := by decide +kernel
theorem dX0_crosses_142 : decode cX0_crosses 142 = .ok (.goto (-137), 3) := by decide +kernel
theorem dX0_crosses_145 : decode cX0_crosses 145 = .ok (.aload_n 1, 1) := by decide +kernel
theorem dX0_crosses_146 : decode cX0_crosses 146 = .ok (.dup, 1) := by decide +kernel
theorem dX0_crosses_147 : decode cX0_crosses 147 = .ok (.getfield 79, 3) := by decide +kernel
theorem dX0_crosses_150 : decode cX0_crosses 150 = .ok (.iload_n 3, 1) := by decide +kernel
theorem dX0_crosses_151 : decode cX0_crosses 151 = .ok (.ior, 1) := by decide +kernel
theorem dX0_crosses_152 : decode cX0_crosses 152 = .ok (.putfield 79, 3) := by decide +kernel
theorem dX0_crosses_155 : decode cX0_crosses 155 = .ok (.iload_n 3, 1) := by decide +kernel
theorem dX0_crosses_156 : decode cX0_crosses 156 = .ok (.ireturn, 1) := by decide +kernel
theorem dX0_slipsBy_0 : decode cX0_slipsBy 0 = .ok (.aload_n 1, 1) := by decide +kernel
theorem dX0_slipsBy_1 : decode cX0_slipsBy 1 = .ok (.iconst 2, 1) := by decide +kernel
theorem dX0_slipsBy_2 : decode cX0_slipsBy 2 = .ok (.invokevirtual 142, 3) := by decide +kernel
theorem dX0_slipsBy_5 : decode cX0_slipsBy 5 = .ok (.ifCond .eq 21, 3) := by decide +kernel
theorem dX0_slipsBy_8 : decode cX0_slipsBy 8 = .ok (.aload_n 0, 1) := by decide +kernel
theorem dX0_slipsBy_9 : decode cX0_slipsBy 9 = .ok (.invokevirtual 85, 3) := by decide +kernel
theorem dX0_slipsBy_12 : decode cX0_slipsBy 12 = .ok (.bipush 100, 2) := by decide +kernel
theorem dX0_slipsBy_14 : decode cX0_slipsBy 14 = .ok (.irem, 1) := by decide +kernel
theorem dX0_slipsBy_15 : decode cX0_slipsBy 15 = .ok (.aload_n 0, 1) := by decide +kernel
theorem dX0_slipsBy_16 : decode cX0_slipsBy 16 = .ok (.getfield 27, 3) := by decide +kernel
theorem dX0_slipsBy_19 : decode cX0_slipsBy 19 = .ok (.if_icmp .lt 7, 3) := by decide +kernel
theorem dX0_slipsBy_22 : decode cX0_slipsBy 22 = .ok (.iconst 1, 1) := by decide +kernel
theorem dX0_slipsBy_23 : decode cX0_slipsBy 23 = .ok (.goto 4, 3) := by decide +kernel
theorem dX0_slipsBy_26 : decode cX0_slipsBy 26 = .ok (.iconst 0, 1) := by decide +kernel
theorem dX0_slipsBy_27 : decode cX0_slipsBy 27 = .ok (.ireturn, 1) := by decide +kernel
theorem dX0_dayPasses_0 : decode cX0_dayPasses 0 = .ok (.iconst 0, 1) := by decide +kernel
theorem dX0_dayPasses_1 : decode cX0_dayPasses 1 = .ok (.istore_n 1, 1) := by decide +kernel
theorem dX0_dayPasses_2 : decode cX0_dayPasses 2 = .ok (.iload_n 1, 1) := by decide +kernel
theorem dX0_dayPasses_3 : decode cX0_dayPasses 3 = .ok (.aload_n 0, 1) := by decide +kernel
theorem dX0_dayPasses_4 : decode cX0_dayPasses 4 = .ok (.getfield 39, 3) := by decide +kernel
theorem dX0_dayPasses_7 : decode cX0_dayPasses 7 = .ok (.if_icmp .ge 19, 3) := by decide +kernel
theorem dX0_dayPasses_10 : decode cX0_dayPasses 10 = .ok (.aload_n 0, 1) := by decide +kernel
theorem dX0_dayPasses_11 : decode cX0_dayPasses 11 = .ok (.getfield 11, 3) := by decide +kernel
theorem dX0_dayPasses_14 : decode cX0_dayPasses 14 = .ok (.iload_n 1, 1) := by decide +kernel
theorem dX0_dayPasses_15 : decode cX0_dayPasses 15 = .ok (.aaload, 1) := by decide +kernel
theorem dX0_dayPasses_16 : decode cX0_dayPasses 16 = .ok (.iconst 0, 1) := by decide +kernel
theorem dX0_dayPasses_17 : decode cX0_dayPasses 17 = .ok (.putfield 76, 3) := by decide +kernel
theorem dX0_dayPasses_20 : decode cX0_dayPasses 20 = .ok (.iinc 1 1, 3) := by decide +kernel
theorem dX0_dayPasses_23 : decode cX0_dayPasses 23 = .ok (.goto (-21), 3) := by decide +kernel
theorem dX0_dayPasses_26 : decode cX0_dayPasses 26 = .ok (.iconst 0, 1) := by decide +kernel
theorem dX0_dayPasses_27 : decode cX0_dayPasses 27 = .ok (.istore_n 1, 1) := by decide +kernel
theorem dX0_dayPasses_28 : decode cX0_dayPasses 28 = .ok (.iload_n 1, 1) := by decide +kernel
theorem dX0_dayPasses_29 : decode cX0_dayPasses 29 = .ok (.aload_n 0, 1) := by decide +kernel
theorem dX0_dayPasses_30 : decode cX0_dayPasses 30 = .ok (.getfield 42, 3) := by decide +kernel
theorem dX0_dayPasses_33 : decode cX0_dayPasses 33 = .ok (.if_icmp .ge 35, 3) := by decide +kernel
theorem dX0_dayPasses_36 : decode cX0_dayPasses 36 = .ok (.aload_n 0, 1) := by decide +kernel
theorem dX0_dayPasses_37 : decode cX0_dayPasses 37 = .ok (.invokevirtual 85, 3) := by decide +kernel
theorem dX0_dayPasses_40 : decode cX0_dayPasses 40 = .ok (.sipush 1024, 3) := by decide +kernel
theorem dX0_dayPasses_43 : decode cX0_dayPasses 43 = .ok (.irem, 1) := by decide +kernel
theorem dX0_dayPasses_44 : decode cX0_dayPasses 44 = .ok (.aload_n 0, 1) := by decide +kernel
theorem dX0_dayPasses_45 : decode cX0_dayPasses 45 = .ok (.invokevirtual 98, 3) := by decide +kernel
theorem dX0_dayPasses_48 : decode cX0_dayPasses 48 = .ok (.iand, 1) := by decide +kernel
theorem dX0_dayPasses_49 : decode cX0_dayPasses 49 = .ok (.istore_n 2, 1) := by decide +kernel
theorem dX0_dayPasses_50 : decode cX0_dayPasses 50 = .ok (.aload_n 0, 1) := by decide +kernel
theorem dX0_dayPasses_51 : decode cX0_dayPasses 51 = .ok (.aload_n 0, 1) := by decide +kernel
theorem dX0_dayPasses_52 : decode cX0_dayPasses 52 = .ok (.getfield 19, 3) := by decide +kernel
theorem dX0_dayPasses_55 : decode cX0_dayPasses 55 = .ok (.iload_n 1, 1) := by decide +kernel
theorem dX0_dayPasses_56 : decode cX0_dayPasses 56 = .ok (.aaload, 1) := by decide +kernel
theorem dX0_dayPasses_57 : decode cX0_dayPasses 57 = .ok (.iload_n 2, 1) := by decide +kernel
theorem dX0_dayPasses_58 : decode cX0_dayPasses 58 = .ok (.invokevirtual 146, 3) := by decide +kernel
theorem dX0_dayPasses_61 : decode cX0_dayPasses 61 = .ok (.pop, 1) := by decide +kernel
theorem dX0_dayPasses_62 : decode cX0_dayPasses 62 = .ok (.iinc 1 1, 3) := by decide +kernel
theorem dX0_dayPasses_65 : decode cX0_dayPasses 65 = .ok (.goto (-37), 3) := by decide +kernel
theorem dX0_dayPasses_68 : decode cX0_dayPasses 68 = .ok (.aload_n 0, 1) := by decide +kernel
theorem dX0_dayPasses_69 : decode cX0_dayPasses 69 = .ok (.dup, 1) := by decide +kernel
theorem dX0_dayPasses_70 : decode cX0_dayPasses 70 = .ok (.getfield 51, 3) := by decide +kernel
theorem dX0_dayPasses_73 : decode cX0_dayPasses 73 = .ok (.iconst 1, 1) := by decide +kernel
theorem dX0_dayPasses_74 : decode cX0_dayPasses 74 = .ok (.iadd, 1) := by decide +kernel
theorem dX0_dayPasses_75 : decode cX0_dayPasses 75 = .ok (.putfield 51, 3) := by decide +kernel
theorem dX0_dayPasses_78 : decode cX0_dayPasses 78 = .ok (.return_, 1) := by decide +kernel
theorem dX1_init_0 : decode cX1_init 0 = .ok (.aload_n 0, 1) := by decide +kernel
theorem dX1_init_1 : decode cX1_init 1 = .ok (.invokespecial 3, 3) := by decide +kernel
theorem dX1_init_4 : decode cX1_init 4 = .ok (.aload_n 0, 1) := by decide +kernel
theorem dX1_init_5 : decode cX1_init 5 = .ok (.bipush 14, 2) := by decide +kernel
theorem dX1_init_7 : decode cX1_init 7 = .ok (.bipush 96, 2) := by decide +kernel
theorem dX1_init_9 : decode cX1_init 9 = .ok (.multianewarray 9 2, 4) := by decide +kernel
theorem dX1_init_13 : decode cX1_init 13 = .ok (.putfield 11, 3) := by decide +kernel
theorem dX1_init_16 : decode cX1_init 16 = .ok (.aload_n 0, 1) := by decide +kernel
theorem dX1_init_17 : decode cX1_init 17 = .ok (.bipush 14, 2) := by decide +kernel
theorem dX1_init_19 : decode cX1_init 19 = .ok (.newarray .int, 2) := by decide +kernel
theorem dX1_init_21 : decode cX1_init 21 = .ok (.putfield 16, 3) := by decide +kernel
theorem dX1_init_24 : decode cX1_init 24 = .ok (.aload_n 0, 1) := by decide +kernel
theorem dX1_init_25 : decode cX1_init 25 = .ok (.bipush 14, 2) := by decide +kernel
theorem dX1_init_27 : decode cX1_init 27 = .ok (.newarray .int, 2) := by decide +kernel
theorem dX1_init_29 : decode cX1_init 29 = .ok (.putfield 20, 3) := by decide +kernel
theorem dX1_init_32 : decode cX1_init 32 = .ok (.aload_n 0, 1) := by decide +kernel
theorem dX1_init_33 : decode cX1_init 33 = .ok (.bipush 14, 2) := by decide +kernel
theorem dX1_init_35 : decode cX1_init 35 = .ok (.newarray .int, 2) := by decide +kernel
theorem dX1_init_37 : decode cX1_init 37 = .ok (.putfield 23, 3) := by decide +kernel
theorem dX1_init_40 : decode cX1_init 40 = .ok (.aload_n 0, 1) := by decide +kernel
theorem dX1_init_41 : decode cX1_init 41 = .ok (.bipush 96, 2) := by decide +kernel
theorem dX1_init_43 : decode cX1_init 43 = .ok (.newarray .int, 2) := by decide +kernel
theorem dX1_init_45 : decode cX1_init 45 = .ok (.putfield 26, 3) := by decide +kernel
theorem dX1_init_48 : decode cX1_init 48 = .ok (.return_, 1) := by decide +kernel
theorem dX1_becomes_0 : decode cX1_becomes 0 = .ok (.aload_n 2, 1) := by decide +kernel
theorem dX1_becomes_1 : decode cX1_becomes 1 = .ok (.getfield 29, 3) := by decide +kernel
theorem dX1_becomes_4 : decode cX1_becomes 4 = .ok (.iconst 0, 1) := by decide +kernel
theorem dX1_becomes_5 : decode cX1_becomes 5 = .ok (.aload_n 0, 1) := by decide +kernel
theorem dX1_becomes_6 : decode cX1_becomes 6 = .ok (.getfield 11, 3) := by decide +kernel
theorem dX1_becomes_9 : decode cX1_becomes 9 = .ok (.iload_n 1, 1) := by decide +kernel
theorem dX1_becomes_10 : decode cX1_becomes 10 = .ok (.aaload, 1) := by decide +kernel
theorem dX1_becomes_11 : decode cX1_becomes 11 = .ok (.iconst 0, 1) := by decide +kernel
theorem dX1_becomes_12 : decode cX1_becomes 12 = .ok (.aload_n 2, 1) := by decide +kernel
theorem dX1_becomes_13 : decode cX1_becomes 13 = .ok (.getfield 33, 3) := by decide +kernel
theorem dX1_becomes_16 : decode cX1_becomes 16 = .ok (.invokestatic 37, 3) := by decide +kernel
theorem dX1_becomes_19 : decode cX1_becomes 19 = .ok (.aload_n 0, 1) := by decide +kernel
theorem dX1_becomes_20 : decode cX1_becomes 20 = .ok (.getfield 16, 3) := by decide +kernel
theorem dX1_becomes_23 : decode cX1_becomes 23 = .ok (.iload_n 1, 1) := by decide +kernel
theorem dX1_becomes_24 : decode cX1_becomes 24 = .ok (.aload_n 2, 1) := by decide +kernel
theorem dX1_becomes_25 : decode cX1_becomes 25 = .ok (.getfield 33, 3) := by decide +kernel
theorem dX1_becomes_28 : decode cX1_becomes 28 = .ok (.iastore, 1) := by decide +kernel
theorem dX1_becomes_29 : decode cX1_becomes 29 = .ok (.aload_n 0, 1) := by decide +kernel
theorem dX1_becomes_30 : decode cX1_becomes 30 = .ok (.getfield 20, 3) := by decide +kernel
theorem dX1_becomes_33 : decode cX1_becomes 33 = .ok (.iload_n 1, 1) := by decide +kernel
theorem dX1_becomes_34 : decode cX1_becomes 34 = .ok (.aload_n 2, 1) := by decide +kernel
theorem dX1_becomes_35 : decode cX1_becomes 35 = .ok (.getfield 43, 3) := by decide +kernel
theorem dX1_becomes_38 : decode cX1_becomes 38 = .ok (.iastore, 1) := by decide +kernel
theorem dX1_becomes_39 : decode cX1_becomes 39 = .ok (.aload_n 0, 1) := by decide +kernel
theorem dX1_becomes_40 : decode cX1_becomes 40 = .ok (.getfield 23, 3) := by decide +kernel
theorem dX1_becomes_43 : decode cX1_becomes 43 = .ok (.iload_n 1, 1) := by decide +kernel
theorem dX1_becomes_44 : decode cX1_becomes 44 = .ok (.aload_n 2, 1) := by decide +kernel
theorem dX1_becomes_45 : decode cX1_becomes 45 = .ok (.getfield 46, 3) := by decide +kernel
theorem dX1_becomes_48 : decode cX1_becomes 48 = .ok (.iastore, 1) := by decide +kernel
theorem dX1_becomes_49 : decode cX1_becomes 49 = .ok (.return_, 1) := by decide +kernel
theorem dX1_value_0 : decode cX1_value 0 = .ok (.iconst (-1), 1) := by decide +kernel
theorem dX1_value_1 : decode cX1_value 1 = .ok (.istore 5, 2) := by decide +kernel
theorem dX1_value_3 : decode cX1_value 3 = .ok (.iconst 0, 1) := by decide +kernel
theorem dX1_value_4 : decode cX1_value 4 = .ok (.istore 6, 2) := by decide +kernel
theorem dX1_value_6 : decode cX1_value 6 = .ok (.iload 6, 2) := by decide +kernel
theorem dX1_value_8 : decode cX1_value 8 = .ok (.aload_n 0, 1) := by decide +kernel
theorem dX1_value_9 : decode cX1_value 9 = .ok (.getfield 16, 3) := by decide +kernel
theorem dX1_value_12 : decode cX1_value 12 = .ok (.iload_n 1, 1) := by decide +kernel
theorem dX1_value_13 : decode cX1_value 13 = .ok (.iaload, 1) := by decide +kernel
theorem dX1_value_14 : decode cX1_value 14 = .ok (.if_icmp .ge 124, 3) := by decide +kernel
theorem dX1_value_17 : decode cX1_value 17 = .ok (.aload_n 0, 1) := by decide +kernel
theorem dX1_value_18 : decode cX1_value 18 = .ok (.getfield 11, 3) := by decide +kernel
theorem dX1_value_21 : decode cX1_value 21 = .ok (.iload_n 1, 1) := by decide +kernel
theorem dX1_value_22 : decode cX1_value 22 = .ok (.aaload, 1) := by decide +kernel
theorem dX1_value_23 : decode cX1_value 23 = .ok (.iload 6, 2) := by decide +kernel
theorem dX1_value_25 : decode cX1_value 25 = .ok (.iaload, 1) := by decide +kernel
theorem dX1_value_26 : decode cX1_value 26 = .ok (.istore 7, 2) := by decide +kernel
theorem dX1_value_28 : decode cX1_value 28 = .ok (.iload 7, 2) := by decide +kernel
theorem dX1_value_30 : decode cX1_value 30 = .ok (.bipush (-3), 2) := by decide +kernel
theorem dX1_value_32 : decode cX1_value 32 = .ok (.if_icmp .lt 25, 3) := by decide +kernel
theorem dX1_value_35 : decode cX1_value 35 = .ok (.iinc 5 1, 3) := by decide +kernel
theorem dX1_value_38 : decode cX1_value 38 = .ok (.aload_n 0, 1) := by decide +kernel
theorem dX1_value_39 : decode cX1_value 39 = .ok (.getfield 26, 3) := by decide +kernel
theorem dX1_value_42 : decode cX1_value 42 = .ok (.iload 5, 2) := by decide +kernel
theorem dX1_value_44 : decode cX1_value 44 = .ok (.iload 7, 2) := by decide +kernel
theorem dX1_value_46 : decode cX1_value 46 = .ok (.iload_n 2, 1) := by decide +kernel
theorem dX1_value_47 : decode cX1_value 47 = .ok (.iload_n 3, 1) := by decide +kernel
theorem dX1_value_48 : decode cX1_value 48 = .ok (.iload 4, 2) := by decide +kernel
theorem dX1_value_50 : decode cX1_value 50 = .ok (.invokestatic 48, 3) := by decide +kernel
theorem dX1_value_53 : decode cX1_value 53 = .ok (.iastore, 1) := by decide +kernel
theorem dX1_value_54 : decode cX1_value 54 = .ok (.goto 78, 3) := by decide +kernel
theorem dX1_value_57 : decode cX1_value 57 = .ok (.iload 7, 2) := by decide +kernel
theorem dX1_value_59 : decode cX1_value 59 = .ok (.bipush (-4), 2) := by decide +kernel
theorem dX1_value_61 : decode cX1_value 61 = .ok (.if_icmp .ne 33, 3) := by decide +kernel
theorem dX1_value_64 : decode cX1_value 64 = .ok (.iload 5, 2) := by decide +kernel
theorem dX1_value_66 : decode cX1_value 66 = .ok (.ifCond .lt 28, 3) := by decide +kernel
theorem dX1_value_69 : decode cX1_value 69 = .ok (.aload_n 0, 1) := by decide +kernel
theorem dX1_value_70 : decode cX1_value 70 = .ok (.getfield 26, 3) := by decide +kernel
theorem dX1_value_73 : decode cX1_value 73 = .ok (.iload 5, 2) := by decide +kernel
theorem dX1_value_75 : decode cX1_value 75 = .ok (.aload_n 0, 1) := by decide +kernel
theorem dX1_value_76 : decode cX1_value 76 = .ok (.getfield 26, 3) := by decide +kernel
theorem dX1_value_79 : decode cX1_value 79 = .ok (.iload 5, 2) := by decide +kernel
theorem dX1_value_81 : decode cX1_value 81 = .ok (.iaload, 1) := by decide +kernel
theorem dX1_value_82 : decode cX1_value 82 = .ok (.ifCond .ne 7, 3) := by decide +kernel
theorem dX1_value_85 : decode cX1_value 85 = .ok (.iconst 1, 1) := by decide +kernel
theorem dX1_value_86 : decode cX1_value 86 = .ok (.goto 4, 3) := by decide +kernel
theorem dX1_value_89 : decode cX1_value 89 = .ok (.iconst 0, 1) := by decide +kernel
theorem dX1_value_90 : decode cX1_value 90 = .ok (.iastore, 1) := by decide +kernel
theorem dX1_value_91 : decode cX1_value 91 = .ok (.goto 41, 3) := by decide +kernel
theorem dX1_value_94 : decode cX1_value 94 = .ok (.iload 5, 2) := by decide +kernel
theorem dX1_value_96 : decode cX1_value 96 = .ok (.iconst 1, 1) := by decide +kernel
theorem dX1_value_97 : decode cX1_value 97 = .ok (.if_icmp .lt 35, 3) := by decide +kernel
theorem dX1_value_100 : decode cX1_value 100 = .ok (.iinc 5 (-1), 3) := by decide +kernel
theorem dX1_value_103 : decode cX1_value 103 = .ok (.aload_n 0, 1) := by decide +kernel
theorem dX1_value_104 : decode cX1_value 104 = .ok (.getfield 26, 3) := by decide +kernel
theorem dX1_value_107 : decode cX1_value 107 = .ok (.iload 5, 2) := by decide +kernel
theorem dX1_value_109 : decode cX1_value 109 = .ok (.iload 7, 2) := by decide +kernel
theorem dX1_value_111 : decode cX1_value 111 = .ok (.ineg, 1) := by decide +kernel
theorem dX1_value_112 : decode cX1_value 112 = .ok (.aload_n 0, 1) := by decide +kernel
theorem dX1_value_113 : decode cX1_value 113 = .ok (.getfield 26, 3) := by decide +kernel
theorem dX1_value_116 : decode cX1_value 116 = .ok (.iload 5, 2) := by decide +kernel
theorem dX1_value_118 : decode cX1_value 118 = .ok (.iaload, 1) := by decide +kernel
theorem dX1_value_119 : decode cX1_value 119 = .ok (.aload_n 0, 1) := by decide +kernel
theorem dX1_value_120 : decode cX1_value 120 = .ok (.getfield 26, 3) := by decide +kernel
theorem dX1_value_123 : decode cX1_value 123 = .ok (.iload 5, 2) := by decide +kernel
theorem dX1_value_125 : decode cX1_value 125 = .ok (.iconst 1, 1) := by decide +kernel
theorem dX1_value_126 : decode cX1_value 126 = .ok (.iadd, 1) := by decide +kernel
theorem dX1_value_127 : decode cX1_value 127 = .ok (.iaload, 1) := by decide +kernel
theorem dX1_value_128 : decode cX1_value 128 = .ok (.invokestatic 52, 3) := by decide +kernel
theorem dX1_value_131 : decode cX1_value 131 = .ok (.iastore, 1) := by decide +kernel
theorem dX1_value_132 : decode cX1_value 132 = .ok (.iinc 6 1, 3) := by decide +kernel
theorem dX1_value_135 : decode cX1_value 135 = .ok (.goto (-129), 3) := by decide +kernel
theorem dX1_value_138 : decode cX1_value 138 = .ok (.aload_n 0, 1) := by decide +kernel
theorem dX1_value_139 : decode cX1_value 139 = .ok (.getfield 26, 3) := by decide +kernel
theorem dX1_value_142 : decode cX1_value 142 = .ok (.iconst 0, 1) := by decide +kernel
theorem dX1_value_143 : decode cX1_value 143 = .ok (.iaload, 1) := by decide +kernel
theorem dX1_value_144 : decode cX1_value 144 = .ok (.ireturn, 1) := by decide +kernel
theorem dX1_leaf_0 : decode cX1_leaf 0 = .ok (.iload_n 0, 1) := by decide +kernel
theorem dX1_leaf_1 : decode cX1_leaf 1 = .ok (.tableswitch 33 (-3) (-1) #[31, 29, 27], 27) := by decide +kernel
theorem dX1_leaf_28 : decode cX1_leaf 28 = .ok (.iload_n 1, 1) := by decide +kernel
theorem dX1_leaf_29 : decode cX1_leaf 29 = .ok (.ireturn, 1) := by decide +kernel
theorem dX1_leaf_30 : decode cX1_leaf 30 = .ok (.iload_n 2, 1) := by decide +kernel
theorem dX1_leaf_31 : decode cX1_leaf 31 = .ok (.ireturn, 1) := by decide +kernel
theorem dX1_leaf_32 : decode cX1_leaf 32 = .ok (.iload_n 3, 1) := by decide +kernel
theorem dX1_leaf_33 : decode cX1_leaf 33 = .ok (.ireturn, 1) := by decide +kernel
theorem dX1_leaf_34 : decode cX1_leaf 34 = .ok (.iload_n 0, 1) := by decide +kernel
theorem dX1_leaf_35 : decode cX1_leaf 35 = .ok (.ireturn, 1) := by decide +kernel
theorem dX1_joined_0 : decode cX1_joined 0 = .ok (.iload_n 0, 1) := by decide +kernel
theorem dX1_joined_1 : decode cX1_joined 1 = .ok (.lookupswitch 148 #[(38, 89), (42, 144), (43, 136), (45, 140), (60, 103), (61, 114), (62, 125), (124, 75)], 75) := by decide +kernel
theorem dX1_joined_76 : decode cX1_joined 76 = .ok (.iload_n 1, 1) := by decide +kernel
theorem dX1_joined_77 : decode cX1_joined 77 = .ok (.ifCond .ne 7, 3) := by decide +kernel
theorem dX1_joined_80 : decode cX1_joined 80 = .ok (.iload_n 2, 1) := by decide +kernel
theorem dX1_joined_81 : decode cX1_joined 81 = .ok (.ifCond .eq 7, 3) := by decide +kernel
theorem dX1_joined_84 : decode cX1_joined 84 = .ok (.iconst 1, 1) := by decide +kernel
theorem dX1_joined_85 : decode cX1_joined 85 = .ok (.goto 4, 3) := by decide +kernel
theorem dX1_joined_88 : decode cX1_joined 88 = .ok (.iconst 0, 1) := by decide +kernel
theorem dX1_joined_89 : decode cX1_joined 89 = .ok (.ireturn, 1) := by decide +kernel
theorem dX1_joined_90 : decode cX1_joined 90 = .ok (.iload_n 1, 1) := by decide +kernel
theorem dX1_joined_91 : decode cX1_joined 91 = .ok (.ifCond .eq 11, 3) := by decide +kernel
theorem dX1_joined_94 : decode cX1_joined 94 = .ok (.iload_n 2, 1) := by decide +kernel
theorem dX1_joined_95 : decode cX1_joined 95 = .ok (.ifCond .eq 7, 3) := by decide +kernel
theorem dX1_joined_98 : decode cX1_joined 98 = .ok (.iconst 1, 1) := by decide +kernel
theorem dX1_joined_99 : decode cX1_joined 99 = .ok (.goto 4, 3) := by decide +kernel
theorem dX1_joined_102 : decode cX1_joined 102 = .ok (.iconst 0, 1) := by decide +kernel
theorem dX1_joined_103 : decode cX1_joined 103 = .ok (.ireturn, 1) := by decide +kernel
theorem dX1_joined_104 : decode cX1_joined 104 = .ok (.iload_n 1, 1) := by decide +kernel
theorem dX1_joined_105 : decode cX1_joined 105 = .ok (.iload_n 2, 1) := by decide +kernel
theorem dX1_joined_106 : decode cX1_joined 106 = .ok (.if_icmp .ge 7, 3) := by decide +kernel
theorem dX1_joined_109 : decode cX1_joined 109 = .ok (.iconst 1, 1) := by decide +kernel
theorem dX1_joined_110 : decode cX1_joined 110 = .ok (.goto 4, 3) := by decide +kernel
theorem dX1_joined_113 : decode cX1_joined 113 = .ok (.iconst 0, 1) := by decide +kernel
theorem dX1_joined_114 : decode cX1_joined 114 = .ok (.ireturn, 1) := by decide +kernel
theorem dX1_joined_115 : decode cX1_joined 115 = .ok (.iload_n 1, 1) := by decide +kernel
theorem dX1_joined_116 : decode cX1_joined 116 = .ok (.iload_n 2, 1) := by decide +kernel
theorem dX1_joined_117 : decode cX1_joined 117 = .ok (.if_icmp .ne 7, 3) := by decide +kernel
theorem dX1_joined_120 : decode cX1_joined 120 = .ok (.iconst 1, 1) := by decide +kernel
theorem dX1_joined_121 : decode cX1_joined 121 = .ok (.goto 4, 3) := by decide +kernel
theorem dX1_joined_124 : decode cX1_joined 124 = .ok (.iconst 0, 1) := by decide +kernel
theorem dX1_joined_125 : decode cX1_joined 125 = .ok (.ireturn, 1) := by decide +kernel
theorem dX1_joined_126 : decode cX1_joined 126 = .ok (.iload_n 1, 1) := by decide +kernel
theorem dX1_joined_127 : decode cX1_joined 127 = .ok (.iload_n 2, 1) := by decide +kernel
theorem dX1_joined_128 : decode cX1_joined 128 = .ok (.if_icmp .le 7, 3) := by decide +kernel
theorem dX1_joined_131 : decode cX1_joined 131 = .ok (.iconst 1, 1) := by decide +kernel
theorem dX1_joined_132 : decode cX1_joined 132 = .ok (.goto 4, 3) := by decide +kernel
theorem dX1_joined_135 : decode cX1_joined 135 = .ok (.iconst 0, 1) := by decide +kernel
theorem dX1_joined_136 : decode cX1_joined 136 = .ok (.ireturn, 1) := by decide +kernel
theorem dX1_joined_137 : decode cX1_joined 137 = .ok (.iload_n 1, 1) := by decide +kernel
theorem dX1_joined_138 : decode cX1_joined 138 = .ok (.iload_n 2, 1) := by decide +kernel
theorem dX1_joined_139 : decode cX1_joined 139 = .ok (.iadd, 1) := by decide +kernel
theorem dX1_joined_140 : decode cX1_joined 140 = .ok (.ireturn, 1) := by decide +kernel
theorem dX1_joined_141 : decode cX1_joined 141 = .ok (.iload_n 1, 1) := by decide +kernel
theorem dX1_joined_142 : decode cX1_joined 142 = .ok (.iload_n 2, 1) := by decide +kernel
theorem dX1_joined_143 : decode cX1_joined 143 = .ok (.isub, 1) := by decide +kernel
theorem dX1_joined_144 : decode cX1_joined 144 = .ok (.ireturn, 1) := by decide +kernel
theorem dX1_joined_145 : decode cX1_joined 145 = .ok (.iload_n 1, 1) := by decide +kernel
theorem dX1_joined_146 : decode cX1_joined 146 = .ok (.iload_n 2, 1) := by decide +kernel
theorem dX1_joined_147 : decode cX1_joined 147 = .ok (.imul, 1) := by decide +kernel
theorem dX1_joined_148 : decode cX1_joined 148 = .ok (.ireturn, 1) := by decide +kernel
theorem dX1_joined_149 : decode cX1_joined 149 = .ok (.iload_n 2, 1) := by decide +kernel
theorem dX1_joined_150 : decode cX1_joined 150 = .ok (.ifCond .ne 7, 3) := by decide +kernel
theorem dX1_joined_153 : decode cX1_joined 153 = .ok (.iconst 0, 1) := by decide +kernel
theorem dX1_joined_154 : decode cX1_joined 154 = .ok (.goto 6, 3) := by decide +kernel
theorem dX1_joined_157 : decode cX1_joined 157 = .ok (.iload_n 1, 1) := by decide +kernel
theorem dX1_joined_158 : decode cX1_joined 158 = .ok (.iload_n 2, 1) := by decide +kernel
theorem dX1_joined_159 : decode cX1_joined 159 = .ok (.idiv, 1) := by decide +kernel
theorem dX1_joined_160 : decode cX1_joined 160 = .ok (.ireturn, 1) := by decide +kernel
theorem dX2_init_0 : decode cX2_init 0 = .ok (.aload_n 0, 1) := by decide +kernel
theorem dX2_init_1 : decode cX2_init 1 = .ok (.invokespecial 3, 3) := by decide +kernel
theorem dX2_init_4 : decode cX2_init 4 = .ok (.aload_n 0, 1) := by decide +kernel
theorem dX2_init_5 : decode cX2_init 5 = .ok (.bipush 96, 2) := by decide +kernel
theorem dX2_init_7 : decode cX2_init 7 = .ok (.newarray .int, 2) := by decide +kernel
theorem dX2_init_9 : decode cX2_init 9 = .ok (.putfield 9, 3) := by decide +kernel
theorem dX2_init_12 : decode cX2_init 12 = .ok (.aload_n 0, 1) := by decide +kernel
theorem dX2_init_13 : decode cX2_init 13 = .ok (.aload_n 1, 1) := by decide +kernel
theorem dX2_init_14 : decode cX2_init 14 = .ok (.putfield 15, 3) := by decide +kernel
theorem dX2_init_17 : decode cX2_init 17 = .ok (.return_, 1) := by decide +kernel
theorem dX2_parse_0 : decode cX2_parse 0 = .ok (.aload_n 0, 1) := by decide +kernel
theorem dX2_parse_1 : decode cX2_parse 1 = .ok (.iload_n 1, 1) := by decide +kernel
theorem dX2_parse_2 : decode cX2_parse 2 = .ok (.putfield 18, 3) := by decide +kernel
theorem dX2_parse_5 : decode cX2_parse 5 = .ok (.aload_n 0, 1) := by decide +kernel
theorem dX2_parse_6 : decode cX2_parse 6 = .ok (.iconst 0, 1) := by decide +kernel
theorem dX2_parse_7 : decode cX2_parse 7 = .ok (.putfield 22, 3) := by decide +kernel
theorem dX2_parse_10 : decode cX2_parse 10 = .ok (.aload_n 0, 1) := by decide +kernel
theorem dX2_parse_11 : decode cX2_parse 11 = .ok (.iconst 0, 1) := by decide +kernel
theorem dX2_parse_12 : decode cX2_parse 12 = .ok (.putfield 25, 3) := by decide +kernel
theorem dX2_parse_15 : decode cX2_parse 15 = .ok (.aload_n 0, 1) := by decide +kernel
theorem dX2_parse_16 : decode cX2_parse 16 = .ok (.iconst (-1), 1) := by decide +kernel
theorem dX2_parse_17 : decode cX2_parse 17 = .ok (.putfield 28, 3) := by decide +kernel
theorem dX2_parse_20 : decode cX2_parse 20 = .ok (.aload_n 0, 1) := by decide +kernel
theorem dX2_parse_21 : decode cX2_parse 21 = .ok (.iconst 0, 1) := by decide +kernel
theorem dX2_parse_22 : decode cX2_parse 22 = .ok (.putfield 31, 3) := by decide +kernel
theorem dX2_parse_25 : decode cX2_parse 25 = .ok (.aload_n 0, 1) := by decide +kernel
theorem dX2_parse_26 : decode cX2_parse 26 = .ok (.iconst 0, 1) := by decide +kernel
theorem dX2_parse_27 : decode cX2_parse 27 = .ok (.putfield 34, 3) := by decide +kernel
theorem dX2_parse_30 : decode cX2_parse 30 = .ok (.aload_n 0, 1) := by decide +kernel
theorem dX2_parse_31 : decode cX2_parse 31 = .ok (.invokevirtual 37, 3) := by decide +kernel
theorem dX2_parse_34 : decode cX2_parse 34 = .ok (.aload_n 0, 1) := by decide +kernel
theorem dX2_parse_35 : decode cX2_parse 35 = .ok (.aload_n 0, 1) := by decide +kernel
theorem dX2_parse_36 : decode cX2_parse 36 = .ok (.invokevirtual 40, 3) := by decide +kernel
theorem dX2_parse_39 : decode cX2_parse 39 = .ok (.putfield 44, 3) := by decide +kernel
theorem dX2_parse_42 : decode cX2_parse 42 = .ok (.aload_n 0, 1) := by decide +kernel
theorem dX2_parse_43 : decode cX2_parse 43 = .ok (.getfield 44, 3) := by decide +kernel
theorem dX2_parse_46 : decode cX2_parse 46 = .ok (.ldc 47, 2) := by decide +kernel
theorem dX2_parse_48 : decode cX2_parse 48 = .ok (.if_icmp .ne 8, 3) := by decide +kernel
theorem dX2_parse_51 : decode cX2_parse 51 = .ok (.aload_n 0, 1) := by decide +kernel
theorem dX2_parse_52 : decode cX2_parse 52 = .ok (.invokevirtual 48, 3) := by decide +kernel
theorem dX2_parse_55 : decode cX2_parse 55 = .ok (.return_, 1) := by decide +kernel
theorem dX2_parse_56 : decode cX2_parse 56 = .ok (.aload_n 0, 1) := by decide +kernel
theorem dX2_parse_57 : decode cX2_parse 57 = .ok (.invokevirtual 37, 3) := by decide +kernel
theorem dX2_parse_60 : decode cX2_parse 60 = .ok (.aload_n 0, 1) := by decide +kernel
theorem dX2_parse_61 : decode cX2_parse 61 = .ok (.iconst 0, 1) := by decide +kernel
theorem dX2_parse_62 : decode cX2_parse 62 = .ok (.iconst 0, 1) := by decide +kernel
theorem dX2_parse_63 : decode cX2_parse 63 = .ok (.iconst 0, 1) := by decide +kernel
theorem dX2_parse_64 : decode cX2_parse 64 = .ok (.invokevirtual 51, 3) := by decide +kernel
theorem dX2_parse_67 : decode cX2_parse 67 = .ok (.aload_n 0, 1) := by decide +kernel
theorem dX2_parse_68 : decode cX2_parse 68 = .ok (.getfield 34, 3) := by decide +kernel
theorem dX2_parse_71 : decode cX2_parse 71 = .ok (.ifCond .eq 7, 3) := by decide +kernel
theorem dX2_parse_74 : decode cX2_parse 74 = .ok (.aload_n 0, 1) := by decide +kernel
theorem dX2_parse_75 : decode cX2_parse 75 = .ok (.invokevirtual 48, 3) := by decide +kernel
theorem dX2_parse_78 : decode cX2_parse 78 = .ok (.return_, 1) := by decide +kernel
theorem dX2_fail_0 : decode cX2_fail 0 = .ok (.aload_n 0, 1) := by decide +kernel
theorem dX2_fail_1 : decode cX2_fail 1 = .ok (.getfield 28, 3) := by decide +kernel
theorem dX2_fail_4 : decode cX2_fail 4 = .ok (.ifCond .ge 11, 3) := by decide +kernel
theorem dX2_fail_7 : decode cX2_fail 7 = .ok (.aload_n 0, 1) := by decide +kernel
theorem dX2_fail_8 : decode cX2_fail 8 = .ok (.aload_n 0, 1) := by decide +kernel
theorem dX2_fail_9 : decode cX2_fail 9 = .ok (.getfield 55, 3) := by decide +kernel
theorem dX2_fail_12 : decode cX2_fail 12 = .ok (.putfield 28, 3) := by decide +kernel
theorem dX2_fail_15 : decode cX2_fail 15 = .ok (.return_, 1) := by decide +kernel
theorem dX2_advance_0 : decode cX2_advance 0 = .ok (.aload_n 0, 1) := by decide +kernel
theorem dX2_advance_1 : decode cX2_advance 1 = .ok (.getfield 31, 3) := by decide +kernel
theorem dX2_advance_4 : decode cX2_advance 4 = .ok (.istore_n 1, 1) := by decide +kernel
theorem dX2_advance_5 : decode cX2_advance 5 = .ok (.aload_n 0, 1) := by decide +kernel
theorem dX2_advance_6 : decode cX2_advance 6 = .ok (.invokevirtual 58, 3) := by decide +kernel
theorem dX2_advance_9 : decode cX2_advance 9 = .ok (.istore_n 2, 1) := by decide +kernel
theorem dX2_advance_10 : decode cX2_advance 10 = .ok (.aload_n 0, 1) := by decide +kernel
theorem dX2_advance_11 : decode cX2_advance 11 = .ok (.aload_n 0, 1) := by decide +kernel
theorem dX2_advance_12 : decode cX2_advance 12 = .ok (.getfield 31, 3) := by decide +kernel
theorem dX2_advance_15 : decode cX2_advance 15 = .ok (.putfield 55, 3) := by decide +kernel
theorem dX2_advance_18 : decode cX2_advance 18 = .ok (.aload_n 0, 1) := by decide +kernel
theorem dX2_advance_19 : decode cX2_advance 19 = .ok (.getfield 55, 3) := by decide +kernel
theorem dX2_advance_22 : decode cX2_advance 22 = .ok (.aload_n 0, 1) := by decide +kernel
theorem dX2_advance_23 : decode cX2_advance 23 = .ok (.getfield 18, 3) := by decide +kernel
theorem dX2_advance_26 : decode cX2_advance 26 = .ok (.if_icmp .ge 28, 3) := by decide +kernel
theorem dX2_advance_29 : decode cX2_advance 29 = .ok (.aload_n 0, 1) := by decide +kernel
theorem dX2_advance_30 : decode cX2_advance 30 = .ok (.aload_n 0, 1) := by decide +kernel
theorem dX2_advance_31 : decode cX2_advance 31 = .ok (.getfield 55, 3) := by decide +kernel
theorem dX2_advance_34 : decode cX2_advance 34 = .ok (.invokevirtual 62, 3) := by decide +kernel
theorem dX2_advance_37 : decode cX2_advance 37 = .ok (.iconst 4, 1) := by decide +kernel
theorem dX2_advance_38 : decode cX2_advance 38 = .ok (.if_icmp .ne 16, 3) := by decide +kernel
theorem dX2_advance_41 : decode cX2_advance 41 = .ok (.aload_n 0, 1) := by decide +kernel
theorem dX2_advance_42 : decode cX2_advance 42 = .ok (.dup, 1) := by decide +kernel
theorem dX2_advance_43 : decode cX2_advance 43 = .ok (.getfield 55, 3) := by decide +kernel
theorem dX2_advance_46 : decode cX2_advance 46 = .ok (.iconst 1, 1) := by decide +kernel
theorem dX2_advance_47 : decode cX2_advance 47 = .ok (.iadd, 1) := by decide +kernel
theorem dX2_advance_48 : decode cX2_advance 48 = .ok (.putfield 55, 3) := by decide +kernel
theorem dX2_advance_51 : decode cX2_advance 51 = .ok (.goto (-33), 3) := by decide +kernel
theorem dX2_advance_54 : decode cX2_advance 54 = .ok (.aload_n 0, 1) := by decide +kernel
theorem dX2_advance_55 : decode cX2_advance 55 = .ok (.aload_n 0, 1) := by decide +kernel
theorem dX2_advance_56 : decode cX2_advance 56 = .ok (.aload_n 0, 1) := by decide +kernel
theorem dX2_advance_57 : decode cX2_advance 57 = .ok (.getfield 55, 3) := by decide +kernel
theorem dX2_advance_60 : decode cX2_advance 60 = .ok (.invokevirtual 62, 3) := by decide +kernel
theorem dX2_advance_63 : decode cX2_advance 63 = .ok (.putfield 34, 3) := by decide +kernel
theorem dX2_advance_66 : decode cX2_advance 66 = .ok (.aload_n 0, 1) := by decide +kernel
theorem dX2_advance_67 : decode cX2_advance 67 = .ok (.aload_n 0, 1) := by decide +kernel
theorem dX2_advance_68 : decode cX2_advance 68 = .ok (.getfield 55, 3) := by decide +kernel
theorem dX2_advance_71 : decode cX2_advance 71 = .ok (.aload_n 0, 1) := by decide +kernel
theorem dX2_advance_72 : decode cX2_advance 72 = .ok (.getfield 18, 3) := by decide +kernel
theorem dX2_advance_75 : decode cX2_advance 75 = .ok (.if_icmp .ge 12, 3) := by decide +kernel
theorem dX2_advance_78 : decode cX2_advance 78 = .ok (.aload_n 0, 1) := by decide +kernel
theorem dX2_advance_79 : decode cX2_advance 79 = .ok (.getfield 55, 3) := by decide +kernel
theorem dX2_advance_82 : decode cX2_advance 82 = .ok (.iconst 1, 1) := by decide +kernel
theorem dX2_advance_83 : decode cX2_advance 83 = .ok (.iadd, 1) := by decide +kernel
theorem dX2_advance_84 : decode cX2_advance 84 = .ok (.goto 7, 3) := by decide +kernel
theorem dX2_advance_87 : decode cX2_advance 87 = .ok (.aload_n 0, 1) := by decide +kernel
theorem dX2_advance_88 : decode cX2_advance 88 = .ok (.getfield 55, 3) := by decide +kernel
theorem dX2_advance_91 : decode cX2_advance 91 = .ok (.putfield 31, 3) := by decide +kernel
theorem dX2_advance_94 : decode cX2_advance 94 = .ok (.aload_n 0, 1) := by decide +kernel
theorem dX2_advance_95 : decode cX2_advance 95 = .ok (.getfield 31, 3) := by decide +kernel
theorem dX2_advance_98 : decode cX2_advance 98 = .ok (.aload_n 0, 1) := by decide +kernel
theorem dX2_advance_99 : decode cX2_advance 99 = .ok (.getfield 18, 3) := by decide +kernel
theorem dX2_advance_102 : decode cX2_advance 102 = .ok (.if_icmp .ge 38, 3) := by decide +kernel
theorem dX2_advance_105 : decode cX2_advance 105 = .ok (.aload_n 0, 1) := by decide +kernel
theorem dX2_advance_106 : decode cX2_advance 106 = .ok (.invokevirtual 58, 3) := by decide +kernel
theorem dX2_advance_109 : decode cX2_advance 109 = .ok (.ifCond .eq 31, 3) := by decide +kernel
theorem dX2_advance_112 : decode cX2_advance 112 = .ok (.aload_n 0, 1) := by decide +kernel
theorem dX2_advance_113 : decode cX2_advance 113 = .ok (.aload_n 0, 1) := by decide +kernel
theorem dX2_advance_114 : decode cX2_advance 114 = .ok (.getfield 31, 3) := by decide +kernel
theorem dX2_advance_117 : decode cX2_advance 117 = .ok (.invokevirtual 62, 3) := by decide +kernel
theorem dX2_advance_120 : decode cX2_advance 120 = .ok (.aload_n 0, 1) := by decide +kernel
theorem dX2_advance_121 : decode cX2_advance 121 = .ok (.getfield 34, 3) := by decide +kernel
theorem dX2_advance_124 : decode cX2_advance 124 = .ok (.if_icmp .ne 16, 3) := by decide +kernel
theorem dX2_advance_127 : decode cX2_advance 127 = .ok (.aload_n 0, 1) := by decide +kernel
theorem dX2_advance_128 : decode cX2_advance 128 = .ok (.dup, 1) := by decide +kernel
theorem dX2_advance_129 : decode cX2_advance 129 = .ok (.getfield 31, 3) := by decide +kernel
theorem dX2_advance_132 : decode cX2_advance 132 = .ok (.iconst 1, 1) := by decide +kernel
theorem dX2_advance_133 : decode cX2_advance 133 = .ok (.iadd, 1) := by decide +kernel
theorem dX2_advance_134 : decode cX2_advance 134 = .ok (.putfield 31, 3) := by decide +kernel
theorem dX2_advance_137 : decode cX2_advance 137 = .ok (.goto (-43), 3) := by decide +kernel
theorem dX2_advance_140 : decode cX2_advance 140 = .ok (.aload_n 0, 1) := by decide +kernel
theorem dX2_advance_141 : decode cX2_advance 141 = .ok (.iload_n 2, 1) := by decide +kernel
theorem dX2_advance_142 : decode cX2_advance 142 = .ok (.ifCond .eq 22, 3) := by decide +kernel
theorem dX2_advance_145 : decode cX2_advance 145 = .ok (.aload_n 0, 1) := by decide +kernel
theorem dX2_advance_146 : decode cX2_advance 146 = .ok (.invokevirtual 58, 3) := by decide +kernel
theorem dX2_advance_149 : decode cX2_advance 149 = .ok (.ifCond .eq 15, 3) := by decide +kernel
theorem dX2_advance_152 : decode cX2_advance 152 = .ok (.aload_n 0, 1) := by decide +kernel
theorem dX2_advance_153 : decode cX2_advance 153 = .ok (.getfield 55, 3) := by decide +kernel
theorem dX2_advance_156 : decode cX2_advance 156 = .ok (.iload_n 1, 1) := by decide +kernel
theorem dX2_advance_157 : decode cX2_advance 157 = .ok (.if_icmp .ne 7, 3) := by decide +kernel
theorem dX2_advance_160 : decode cX2_advance 160 = .ok (.iconst 1, 1) := by decide +kernel
theorem dX2_advance_161 : decode cX2_advance 161 = .ok (.goto 4, 3) := by decide +kernel
theorem dX2_advance_164 : decode cX2_advance 164 = .ok (.iconst 0, 1) := by decide +kernel
theorem dX2_advance_165 : decode cX2_advance 165 = .ok (.putfield 66, 3) := by decide +kernel
theorem dX2_advance_168 : decode cX2_advance 168 = .ok (.return_, 1) := by decide +kernel
theorem dX2_isWord_0 : decode cX2_isWord 0 = .ok (.aload_n 0, 1) := by decide +kernel
theorem dX2_isWord_1 : decode cX2_isWord 1 = .ok (.getfield 34, 3) := by decide +kernel
theorem dX2_isWord_4 : decode cX2_isWord 4 = .ok (.iconst 1, 1) := by decide +kernel
theorem dX2_isWord_5 : decode cX2_isWord 5 = .ok (.if_icmp .eq 11, 3) := by decide +kernel
theorem dX2_isWord_8 : decode cX2_isWord 8 = .ok (.aload_n 0, 1) := by decide +kernel
theorem dX2_isWord_9 : decode cX2_isWord 9 = .ok (.getfield 34, 3) := by decide +kernel
theorem dX2_isWord_12 : decode cX2_isWord 12 = .ok (.iconst 2, 1) := by decide +kernel
theorem dX2_isWord_13 : decode cX2_isWord 13 = .ok (.if_icmp .ne 7, 3) := by decide +kernel
theorem dX2_isWord_16 : decode cX2_isWord 16 = .ok (.iconst 1, 1) := by decide +kernel
theorem dX2_isWord_17 : decode cX2_isWord 17 = .ok (.goto 4, 3) := by decide +kernel
theorem dX2_isWord_20 : decode cX2_isWord 20 = .ok (.iconst 0, 1) := by decide +kernel
theorem dX2_isWord_21 : decode cX2_isWord 21 = .ok (.ireturn, 1) := by decide +kernel
theorem dX2_sortAt_0 : decode cX2_sortAt 0 = .ok (.iload_n 1, 1) := by decide +kernel
theorem dX2_sortAt_1 : decode cX2_sortAt 1 = .ok (.ifCond .lt 11, 3) := by decide +kernel
theorem dX2_sortAt_4 : decode cX2_sortAt 4 = .ok (.iload_n 1, 1) := by decide +kernel
theorem dX2_sortAt_5 : decode cX2_sortAt 5 = .ok (.aload_n 0, 1) := by decide +kernel
theorem dX2_sortAt_6 : decode cX2_sortAt 6 = .ok (.getfield 18, 3) := by decide +kernel
theorem dX2_sortAt_9 : decode cX2_sortAt 9 = .ok (.if_icmp .lt 5, 3) := by decide +kernel
theorem dX2_sortAt_12 : decode cX2_sortAt 12 = .ok (.iconst 0, 1) := by decide +kernel
theorem dX2_sortAt_13 : decode cX2_sortAt 13 = .ok (.ireturn, 1) := by decide +kernel
theorem dX2_sortAt_14 : decode cX2_sortAt 14 = .ok (.aload_n 0, 1) := by decide +kernel
theorem dX2_sortAt_15 : decode cX2_sortAt 15 = .ok (.getfield 15, 3) := by decide +kernel
theorem dX2_sortAt_18 : decode cX2_sortAt 18 = .ok (.iload_n 1, 1) := by decide +kernel
theorem dX2_sortAt_19 : decode cX2_sortAt 19 = .ok (.iaload, 1) := by decide +kernel
theorem dX2_sortAt_20 : decode cX2_sortAt 20 = .ok (.istore_n 2, 1) := by decide +kernel
theorem dX2_sortAt_21 : decode cX2_sortAt 21 = .ok (.iload_n 2, 1) := by decide +kernel
theorem dX2_sortAt_22 : decode cX2_sortAt 22 = .ok (.bipush 97, 2) := by decide +kernel
theorem dX2_sortAt_24 : decode cX2_sortAt 24 = .ok (.if_icmp .lt 11, 3) := by decide +kernel
theorem dX2_sortAt_27 : decode cX2_sortAt 27 = .ok (.iload_n 2, 1) := by decide +kernel
theorem dX2_sortAt_28 : decode cX2_sortAt 28 = .ok (.bipush 122, 2) := by decide +kernel
theorem dX2_sortAt_30 : decode cX2_sortAt 30 = .ok (.if_icmp .gt 5, 3) := by decide +kernel
theorem dX2_sortAt_33 : decode cX2_sortAt 33 = .ok (.iconst 1, 1) := by decide +kernel
theorem dX2_sortAt_34 : decode cX2_sortAt 34 = .ok (.ireturn, 1) := by decide +kernel
theorem dX2_sortAt_35 : decode cX2_sortAt 35 = .ok (.iload_n 2, 1) := by decide +kernel
theorem dX2_sortAt_36 : decode cX2_sortAt 36 = .ok (.bipush 48, 2) := by decide +kernel
theorem dX2_sortAt_38 : decode cX2_sortAt 38 = .ok (.if_icmp .lt 11, 3) := by decide +kernel
theorem dX2_sortAt_41 : decode cX2_sortAt 41 = .ok (.iload_n 2, 1) := by decide +kernel
theorem dX2_sortAt_42 : decode cX2_sortAt 42 = .ok (.bipush 57, 2) := by decide +kernel
theorem dX2_sortAt_44 : decode cX2_sortAt 44 = .ok (.if_icmp .gt 5, 3) := by decide +kernel
theorem dX2_sortAt_47 : decode cX2_sortAt 47 = .ok (.iconst 2, 1) := by decide +kernel
theorem dX2_sortAt_48 : decode cX2_sortAt 48 = .ok (.ireturn, 1) := by decide +kernel
theorem dX2_sortAt_49 : decode cX2_sortAt 49 = .ok (.iload_n 2, 1) := by decide +kernel
theorem dX2_sortAt_50 : decode cX2_sortAt 50 = .ok (.bipush 32, 2) := by decide +kernel
theorem dX2_sortAt_52 : decode cX2_sortAt 52 = .ok (.if_icmp .ne 7, 3) := by decide +kernel
theorem dX2_sortAt_55 : decode cX2_sortAt 55 = .ok (.iconst 4, 1) := by decide +kernel
theorem dX2_sortAt_56 : decode cX2_sortAt 56 = .ok (.goto 4, 3) := by decide +kernel
theorem dX2_sortAt_59 : decode cX2_sortAt 59 = .ok (.iconst 3, 1) := by decide +kernel
theorem dX2_sortAt_60 : decode cX2_sortAt 60 = .ok (.ireturn, 1) := by decide +kernel
theorem dX2_keyHere_0 : decode cX2_keyHere 0 = .ok (.iconst 0, 1) := by decide +kernel
theorem dX2_keyHere_1 : decode cX2_keyHere 1 = .ok (.istore_n 1, 1) := by decide +kernel
theorem dX2_keyHere_2 : decode cX2_keyHere 2 = .ok (.iload_n 1, 1) := by decide +kernel
theorem dX2_keyHere_3 : decode cX2_keyHere 3 = .ok (.iconst 3, 1) := by decide +kernel
theorem dX2_keyHere_4 : decode cX2_keyHere 4 = .ok (.if_icmp .ge 88, 3) := by decide +kernel
theorem dX2_keyHere_7 : decode cX2_keyHere 7 = .ok (.aload_n 0, 1) := by decide +kernel
theorem dX2_keyHere_8 : decode cX2_keyHere 8 = .ok (.getfield 34, 3) := by decide +kernel
theorem dX2_keyHere_11 : decode cX2_keyHere 11 = .ok (.iconst 1, 1) := by decide +kernel
theorem dX2_keyHere_12 : decode cX2_keyHere 12 = .ok (.if_icmp .ne 20, 3) := by decide +kernel
theorem dX2_keyHere_15 : decode cX2_keyHere 15 = .ok (.aload_n 0, 1) := by decide +kernel
theorem dX2_keyHere_16 : decode cX2_keyHere 16 = .ok (.getfield 31, 3) := by decide +kernel
theorem dX2_keyHere_19 : decode cX2_keyHere 19 = .ok (.aload_n 0, 1) := by decide +kernel
theorem dX2_keyHere_20 : decode cX2_keyHere 20 = .ok (.getfield 55, 3) := by decide +kernel
theorem dX2_keyHere_23 : decode cX2_keyHere 23 = .ok (.isub, 1) := by decide +kernel
theorem dX2_keyHere_24 : decode cX2_keyHere 24 = .ok (.iconst 4, 1) := by decide +kernel
theorem dX2_keyHere_25 : decode cX2_keyHere 25 = .ok (.if_icmp .ne 7, 3) := by decide +kernel
theorem dX2_keyHere_28 : decode cX2_keyHere 28 = .ok (.iconst 1, 1) := by decide +kernel
theorem dX2_keyHere_29 : decode cX2_keyHere 29 = .ok (.goto 4, 3) := by decide +kernel
theorem dX2_keyHere_32 : decode cX2_keyHere 32 = .ok (.iconst 0, 1) := by decide +kernel
theorem dX2_keyHere_33 : decode cX2_keyHere 33 = .ok (.istore_n 2, 1) := by decide +kernel
theorem dX2_keyHere_34 : decode cX2_keyHere 34 = .ok (.iconst 0, 1) := by decide +kernel
theorem dX2_keyHere_35 : decode cX2_keyHere 35 = .ok (.istore_n 3, 1) := by decide +kernel
theorem dX2_keyHere_36 : decode cX2_keyHere 36 = .ok (.iload_n 2, 1) := by decide +kernel
theorem dX2_keyHere_37 : decode cX2_keyHere 37 = .ok (.ifCond .eq 43, 3) := by decide +kernel
theorem dX2_keyHere_40 : decode cX2_keyHere 40 = .ok (.iload_n 3, 1) := by decide +kernel
theorem dX2_keyHere_41 : decode cX2_keyHere 41 = .ok (.iconst 4, 1) := by decide +kernel
theorem dX2_keyHere_42 : decode cX2_keyHere 42 = .ok (.if_icmp .ge 38, 3) := by decide +kernel
theorem dX2_keyHere_45 : decode cX2_keyHere 45 = .ok (.aload_n 0, 1) := by decide +kernel
theorem dX2_keyHere_46 : decode cX2_keyHere 46 = .ok (.getfield 15, 3) := by decide +kernel
theorem dX2_keyHere_49 : decode cX2_keyHere 49 = .ok (.aload_n 0, 1) := by decide +kernel
theorem dX2_keyHere_50 : decode cX2_keyHere 50 = .ok (.getfield 55, 3) := by decide +kernel
theorem dX2_keyHere_53 : decode cX2_keyHere 53 = .ok (.iload_n 3, 1) := by decide +kernel
theorem dX2_keyHere_54 : decode cX2_keyHere 54 = .ok (.iadd, 1) := by decide +kernel
theorem dX2_keyHere_55 : decode cX2_keyHere 55 = .ok (.iaload, 1) := by decide +kernel
theorem dX2_keyHere_56 : decode cX2_keyHere 56 = .ok (.getstatic 70, 3) := by decide +kernel
theorem dX2_keyHere_59 : decode cX2_keyHere 59 = .ok (.iconst 4, 1) := by decide +kernel
theorem dX2_keyHere_60 : decode cX2_keyHere 60 = .ok (.iload_n 1, 1) := by decide +kernel
theorem dX2_keyHere_61 : decode cX2_keyHere 61 = .ok (.imul, 1) := by decide +kernel
theorem dX2_keyHere_62 : decode cX2_keyHere 62 = .ok (.iload_n 3, 1) := by decide +kernel
theorem dX2_keyHere_63 : decode cX2_keyHere 63 = .ok (.iadd, 1) := by decide +kernel
theorem dX2_keyHere_64 : decode cX2_keyHere 64 = .ok (.caload, 1) := by decide +kernel
theorem dX2_keyHere_65 : decode cX2_keyHere 65 = .ok (.if_icmp .ne 7, 3) := by decide +kernel
theorem dX2_keyHere_68 : decode cX2_keyHere 68 = .ok (.iconst 1, 1) := by decide +kernel
theorem dX2_keyHere_69 : decode cX2_keyHere 69 = .ok (.goto 4, 3) := by decide +kernel
theorem dX2_keyHere_72 : decode cX2_keyHere 72 = .ok (.iconst 0, 1) := by decide +kernel
theorem dX2_keyHere_73 : decode cX2_keyHere 73 = .ok (.istore_n 2, 1) := by decide +kernel
theorem dX2_keyHere_74 : decode cX2_keyHere 74 = .ok (.iinc 3 1, 3) := by decide +kernel
theorem dX2_keyHere_77 : decode cX2_keyHere 77 = .ok (.goto (-41), 3) := by decide +kernel
theorem dX2_keyHere_80 : decode cX2_keyHere 80 = .ok (.iload_n 2, 1) := by decide +kernel
theorem dX2_keyHere_81 : decode cX2_keyHere 81 = .ok (.ifCond .eq 5, 3) := by decide +kernel
theorem dX2_keyHere_84 : decode cX2_keyHere 84 = .ok (.iload_n 1, 1) := by decide +kernel
theorem dX2_keyHere_85 : decode cX2_keyHere 85 = .ok (.ireturn, 1) := by decide +kernel
theorem dX2_keyHere_86 : decode cX2_keyHere 86 = .ok (.iinc 1 1, 3) := by decide +kernel
theorem dX2_keyHere_89 : decode cX2_keyHere 89 = .ok (.goto (-87), 3) := by decide +kernel
theorem dX2_keyHere_92 : decode cX2_keyHere 92 = .ok (.ldc 47, 2) := by decide +kernel
theorem dX2_keyHere_94 : decode cX2_keyHere 94 = .ok (.ireturn, 1) := by decide +kernel
theorem dX2_signHere_0 : decode cX2_signHere 0 = .ok (.aload_n 0, 1) := by decide +kernel
theorem dX2_signHere_1 : decode cX2_signHere 1 = .ok (.getfield 34, 3) := by decide +kernel
theorem dX2_signHere_4 : decode cX2_signHere 4 = .ok (.iconst 3, 1) := by decide +kernel
theorem dX2_signHere_5 : decode cX2_signHere 5 = .ok (.if_icmp .ne 15, 3) := by decide +kernel
theorem dX2_signHere_8 : decode cX2_signHere 8 = .ok (.aload_n 0, 1) := by decide +kernel
theorem dX2_signHere_9 : decode cX2_signHere 9 = .ok (.getfield 15, 3) := by decide +kernel
theorem dX2_signHere_12 : decode cX2_signHere 12 = .ok (.aload_n 0, 1) := by decide +kernel
theorem dX2_signHere_13 : decode cX2_signHere 13 = .ok (.getfield 55, 3) := by decide +kernel
theorem dX2_signHere_16 : decode cX2_signHere 16 = .ok (.iaload, 1) := by decide +kernel
theorem dX2_signHere_17 : decode cX2_signHere 17 = .ok (.goto 4, 3) := by decide +kernel
theorem dX2_signHere_20 : decode cX2_signHere 20 = .ok (.iconst 0, 1) := by decide +kernel
theorem dX2_signHere_21 : decode cX2_signHere 21 = .ok (.ireturn, 1) := by decide +kernel
theorem dX2_levelOf_0 : decode cX2_levelOf 0 = .ok (.iload_n 0, 1) := by decide +kernel
theorem dX2_levelOf_1 : decode cX2_levelOf 1 = .ok (.lookupswitch 93 #[(38, 85), (42, 91), (43, 89), (45, 89), (47, 91), (60, 87), (61, 87), (62, 87), (124, 83)], 83) := by decide +kernel
theorem dX2_levelOf_84 : decode cX2_levelOf 84 = .ok (.iconst 0, 1) := by decide +kernel
theorem dX2_levelOf_85 : decode cX2_levelOf 85 = .ok (.ireturn, 1) := by decide +kernel
theorem dX2_levelOf_86 : decode cX2_levelOf 86 = .ok (.iconst 1, 1) := by decide +kernel
theorem dX2_levelOf_87 : decode cX2_levelOf 87 = .ok (.ireturn, 1) := by decide +kernel
theorem dX2_levelOf_88 : decode cX2_levelOf 88 = .ok (.iconst 2, 1) := by decide +kernel
theorem dX2_levelOf_89 : decode cX2_levelOf 89 = .ok (.ireturn, 1) := by decide +kernel
theorem dX2_levelOf_90 : decode cX2_levelOf 90 = .ok (.iconst 3, 1) := by decide +kernel
theorem dX2_levelOf_91 : decode cX2_levelOf 91 = .ok (.ireturn, 1) := by decide +kernel
theorem dX2_levelOf_92 : decode cX2_levelOf 92 = .ok (.iconst 4, 1) := by decide +kernel
theorem dX2_levelOf_93 : decode cX2_levelOf 93 = .ok (.ireturn, 1) := by decide +kernel
theorem dX2_levelOf_94 : decode cX2_levelOf 94 = .ok (.ldc 47, 2) := by decide +kernel
theorem dX2_levelOf_96 : decode cX2_levelOf 96 = .ok (.ireturn, 1) := by decide +kernel
theorem dX2_expression_0 : decode cX2_expression 0 = .ok (.iload_n 1, 1) := by decide +kernel
theorem dX2_expression_1 : decode cX2_expression 1 = .ok (.iconst 5, 1) := by decide +kernel
theorem dX2_expression_2 : decode cX2_expression 2 = .ok (.if_icmp .lt 10, 3) := by decide +kernel
theorem dX2_expression_5 : decode cX2_expression 5 = .ok (.aload_n 0, 1) := by decide +kernel
theorem dX2_expression_6 : decode cX2_expression 6 = .ok (.iload_n 2, 1) := by decide +kernel
theorem dX2_expression_7 : decode cX2_expression 7 = .ok (.iload_n 3, 1) := by decide +kernel
theorem dX2_expression_8 : decode cX2_expression 8 = .ok (.invokevirtual 74, 3) := by decide +kernel
theorem dX2_expression_11 : decode cX2_expression 11 = .ok (.return_, 1) := by decide +kernel
theorem dX2_expression_12 : decode cX2_expression 12 = .ok (.aload_n 0, 1) := by decide +kernel
theorem dX2_expression_13 : decode cX2_expression 13 = .ok (.iload_n 1, 1) := by decide +kernel
theorem dX2_expression_14 : decode cX2_expression 14 = .ok (.iconst 1, 1) := by decide +kernel
theorem dX2_expression_15 : decode cX2_expression 15 = .ok (.iadd, 1) := by decide +kernel
theorem dX2_expression_16 : decode cX2_expression 16 = .ok (.iload_n 2, 1) := by decide +kernel
theorem dX2_expression_17 : decode cX2_expression 17 = .ok (.iload_n 3, 1) := by decide +kernel
theorem dX2_expression_18 : decode cX2_expression 18 = .ok (.invokevirtual 51, 3) := by decide +kernel
theorem dX2_expression_21 : decode cX2_expression 21 = .ok (.iload_n 1, 1) := by decide +kernel
theorem dX2_expression_22 : decode cX2_expression 22 = .ok (.iconst 2, 1) := by decide +kernel
theorem dX2_expression_23 : decode cX2_expression 23 = .ok (.if_icmp .ne 7, 3) := by decide +kernel
theorem dX2_expression_26 : decode cX2_expression 26 = .ok (.iconst 1, 1) := by decide +kernel
theorem dX2_expression_27 : decode cX2_expression 27 = .ok (.goto 5, 3) := by decide +kernel
theorem dX2_expression_30 : decode cX2_expression 30 = .ok (.bipush 96, 2) := by decide +kernel
theorem dX2_expression_32 : decode cX2_expression 32 = .ok (.istore 4, 2) := by decide +kernel
theorem dX2_expression_34 : decode cX2_expression 34 = .ok (.iconst 0, 1) := by decide +kernel
theorem dX2_expression_35 : decode cX2_expression 35 = .ok (.istore 5, 2) := by decide +kernel
theorem dX2_expression_37 : decode cX2_expression 37 = .ok (.iload 5, 2) := by decide +kernel
theorem dX2_expression_39 : decode cX2_expression 39 = .ok (.iload 4, 2) := by decide +kernel
theorem dX2_expression_41 : decode cX2_expression 41 = .ok (.if_icmp .ge 53, 3) := by decide +kernel
theorem dX2_expression_44 : decode cX2_expression 44 = .ok (.aload_n 0, 1) := by decide +kernel
theorem dX2_expression_45 : decode cX2_expression 45 = .ok (.getfield 28, 3) := by decide +kernel
theorem dX2_expression_48 : decode cX2_expression 48 = .ok (.ifCond .ge 46, 3) := by decide +kernel
theorem dX2_expression_51 : decode cX2_expression 51 = .ok (.aload_n 0, 1) := by decide +kernel
theorem dX2_expression_52 : decode cX2_expression 52 = .ok (.invokevirtual 78, 3) := by decide +kernel
theorem dX2_expression_55 : decode cX2_expression 55 = .ok (.invokestatic 81, 3) := by decide +kernel
theorem dX2_expression_58 : decode cX2_expression 58 = .ok (.iload_n 1, 1) := by decide +kernel
theorem dX2_expression_59 : decode cX2_expression 59 = .ok (.if_icmp .ne 35, 3) := by decide +kernel
theorem dX2_expression_62 : decode cX2_expression 62 = .ok (.aload_n 0, 1) := by decide +kernel
theorem dX2_expression_63 : decode cX2_expression 63 = .ok (.invokevirtual 78, 3) := by decide +kernel
theorem dX2_expression_66 : decode cX2_expression 66 = .ok (.istore 6, 2) := by decide +kernel
theorem dX2_expression_68 : decode cX2_expression 68 = .ok (.aload_n 0, 1) := by decide +kernel
theorem dX2_expression_69 : decode cX2_expression 69 = .ok (.invokevirtual 37, 3) := by decide +kernel
theorem dX2_expression_72 : decode cX2_expression 72 = .ok (.aload_n 0, 1) := by decide +kernel
theorem dX2_expression_73 : decode cX2_expression 73 = .ok (.iload_n 1, 1) := by decide +kernel
theorem dX2_expression_74 : decode cX2_expression 74 = .ok (.iconst 1, 1) := by decide +kernel
theorem dX2_expression_75 : decode cX2_expression 75 = .ok (.iadd, 1) := by decide +kernel
theorem dX2_expression_76 : decode cX2_expression 76 = .ok (.iload_n 2, 1) := by decide +kernel
theorem dX2_expression_77 : decode cX2_expression 77 = .ok (.iload_n 3, 1) := by decide +kernel
theorem dX2_expression_78 : decode cX2_expression 78 = .ok (.invokevirtual 51, 3) := by decide +kernel
theorem dX2_expression_81 : decode cX2_expression 81 = .ok (.aload_n 0, 1) := by decide +kernel
theorem dX2_expression_82 : decode cX2_expression 82 = .ok (.iload 6, 2) := by decide +kernel
theorem dX2_expression_84 : decode cX2_expression 84 = .ok (.ineg, 1) := by decide +kernel
theorem dX2_expression_85 : decode cX2_expression 85 = .ok (.invokevirtual 84, 3) := by decide +kernel
theorem dX2_expression_88 : decode cX2_expression 88 = .ok (.iinc 5 1, 3) := by decide +kernel
theorem dX2_expression_91 : decode cX2_expression 91 = .ok (.goto (-54), 3) := by decide +kernel
theorem dX2_expression_94 : decode cX2_expression 94 = .ok (.return_, 1) := by decide +kernel
theorem dX2_piece_0 : decode cX2_piece 0 = .ok (.aload_n 0, 1) := by decide +kernel
theorem dX2_piece_1 : decode cX2_piece 1 = .ok (.invokevirtual 78, 3) := by decide +kernel
theorem dX2_piece_4 : decode cX2_piece 4 = .ok (.istore_n 3, 1) := by decide +kernel
theorem dX2_piece_5 : decode cX2_piece 5 = .ok (.iload_n 3, 1) := by decide +kernel
theorem dX2_piece_6 : decode cX2_piece 6 = .ok (.bipush 33, 2) := by decide +kernel
theorem dX2_piece_8 : decode cX2_piece 8 = .ok (.if_icmp .ne 30, 3) := by decide +kernel
theorem dX2_piece_11 : decode cX2_piece 11 = .ok (.iload_n 2, 1) := by decide +kernel
theorem dX2_piece_12 : decode cX2_piece 12 = .ok (.bipush 8, 2) := by decide +kernel
theorem dX2_piece_14 : decode cX2_piece 14 = .ok (.if_icmp .ge 24, 3) := by decide +kernel
theorem dX2_piece_17 : decode cX2_piece 17 = .ok (.aload_n 0, 1) := by decide +kernel
theorem dX2_piece_18 : decode cX2_piece 18 = .ok (.invokevirtual 37, 3) := by decide +kernel
theorem dX2_piece_21 : decode cX2_piece 21 = .ok (.aload_n 0, 1) := by decide +kernel
theorem dX2_piece_22 : decode cX2_piece 22 = .ok (.iload_n 1, 1) := by decide +kernel
theorem dX2_piece_23 : decode cX2_piece 23 = .ok (.iload_n 2, 1) := by decide +kernel
theorem dX2_piece_24 : decode cX2_piece 24 = .ok (.iconst 1, 1) := by decide +kernel
theorem dX2_piece_25 : decode cX2_piece 25 = .ok (.iadd, 1) := by decide +kernel
theorem dX2_piece_26 : decode cX2_piece 26 = .ok (.invokevirtual 74, 3) := by decide +kernel
theorem dX2_piece_29 : decode cX2_piece 29 = .ok (.aload_n 0, 1) := by decide +kernel
theorem dX2_piece_30 : decode cX2_piece 30 = .ok (.bipush (-4), 2) := by decide +kernel
theorem dX2_piece_32 : decode cX2_piece 32 = .ok (.invokevirtual 84, 3) := by decide +kernel
theorem dX2_piece_35 : decode cX2_piece 35 = .ok (.goto 39, 3) := by decide +kernel
theorem dX2_piece_38 : decode cX2_piece 38 = .ok (.iload_n 3, 1) := by decide +kernel
theorem dX2_piece_39 : decode cX2_piece 39 = .ok (.bipush 40, 2) := by decide +kernel
theorem dX2_piece_41 : decode cX2_piece 41 = .ok (.if_icmp .ne 29, 3) := by decide +kernel
theorem dX2_piece_44 : decode cX2_piece 44 = .ok (.iload_n 1, 1) := by decide +kernel
theorem dX2_piece_45 : decode cX2_piece 45 = .ok (.bipush 8, 2) := by decide +kernel
theorem dX2_piece_47 : decode cX2_piece 47 = .ok (.if_icmp .ge 23, 3) := by decide +kernel
theorem dX2_piece_50 : decode cX2_piece 50 = .ok (.aload_n 0, 1) := by decide +kernel
theorem dX2_piece_51 : decode cX2_piece 51 = .ok (.invokevirtual 37, 3) := by decide +kernel
theorem dX2_piece_54 : decode cX2_piece 54 = .ok (.aload_n 0, 1) := by decide +kernel
theorem dX2_piece_55 : decode cX2_piece 55 = .ok (.iconst 0, 1) := by decide +kernel
theorem dX2_piece_56 : decode cX2_piece 56 = .ok (.iload_n 1, 1) := by decide +kernel
theorem dX2_piece_57 : decode cX2_piece 57 = .ok (.iconst 1, 1) := by decide +kernel
theorem dX2_piece_58 : decode cX2_piece 58 = .ok (.iadd, 1) := by decide +kernel
theorem dX2_piece_59 : decode cX2_piece 59 = .ok (.iload_n 2, 1) := by decide +kernel
theorem dX2_piece_60 : decode cX2_piece 60 = .ok (.invokevirtual 51, 3) := by decide +kernel
theorem dX2_piece_63 : decode cX2_piece 63 = .ok (.aload_n 0, 1) := by decide +kernel
theorem dX2_piece_64 : decode cX2_piece 64 = .ok (.invokevirtual 90, 3) := by decide +kernel
theorem dX2_piece_67 : decode cX2_piece 67 = .ok (.goto 7, 3) := by decide +kernel
theorem dX2_piece_70 : decode cX2_piece 70 = .ok (.aload_n 0, 1) := by decide +kernel
theorem dX2_piece_71 : decode cX2_piece 71 = .ok (.invokevirtual 93, 3) := by decide +kernel
theorem dX2_piece_74 : decode cX2_piece 74 = .ok (.return_, 1) := by decide +kernel
theorem dX2_close_0 : decode cX2_close 0 = .ok (.aload_n 0, 1) := by decide +kernel
theorem dX2_close_1 : decode cX2_close 1 = .ok (.invokevirtual 78, 3) := by decide +kernel
theorem dX2_close_4 : decode cX2_close 4 = .ok (.bipush 41, 2) := by decide +kernel
theorem dX2_close_6 : decode cX2_close 6 = .ok (.if_icmp .ne 10, 3) := by decide +kernel
theorem dX2_close_9 : decode cX2_close 9 = .ok (.aload_n 0, 1) := by decide +kernel
theorem dX2_close_10 : decode cX2_close 10 = .ok (.invokevirtual 37, 3) := by decide +kernel
theorem dX2_close_13 : decode cX2_close 13 = .ok (.goto 7, 3) := by decide +kernel
theorem dX2_close_16 : decode cX2_close 16 = .ok (.aload_n 0, 1) := by decide +kernel
theorem dX2_close_17 : decode cX2_close 17 = .ok (.invokevirtual 48, 3) := by decide +kernel
theorem dX2_close_20 : decode cX2_close 20 = .ok (.return_, 1) := by decide +kernel
theorem dX2_leaf_0 : decode cX2_leaf 0 = .ok (.aload_n 0, 1) := by decide +kernel
theorem dX2_leaf_1 : decode cX2_leaf 1 = .ok (.getfield 34, 3) := by decide +kernel
theorem dX2_leaf_4 : decode cX2_leaf 4 = .ok (.iconst 2, 1) := by decide +kernel
theorem dX2_leaf_5 : decode cX2_leaf 5 = .ok (.if_icmp .ne 10, 3) := by decide +kernel
theorem dX2_leaf_8 : decode cX2_leaf 8 = .ok (.aload_n 0, 1) := by decide +kernel
theorem dX2_leaf_9 : decode cX2_leaf 9 = .ok (.invokevirtual 96, 3) := by decide +kernel
theorem dX2_leaf_12 : decode cX2_leaf 12 = .ok (.goto 7, 3) := by decide +kernel
theorem dX2_leaf_15 : decode cX2_leaf 15 = .ok (.aload_n 0, 1) := by decide +kernel
theorem dX2_leaf_16 : decode cX2_leaf 16 = .ok (.invokevirtual 99, 3) := by decide +kernel
theorem dX2_leaf_19 : decode cX2_leaf 19 = .ok (.istore_n 1, 1) := by decide +kernel
theorem dX2_leaf_20 : decode cX2_leaf 20 = .ok (.iload_n 1, 1) := by decide +kernel
theorem dX2_leaf_21 : decode cX2_leaf 21 = .ok (.ldc 47, 2) := by decide +kernel
theorem dX2_leaf_23 : decode cX2_leaf 23 = .ok (.if_icmp .eq 10, 3) := by decide +kernel
theorem dX2_leaf_26 : decode cX2_leaf 26 = .ok (.aload_n 0, 1) := by decide +kernel
theorem dX2_leaf_27 : decode cX2_leaf 27 = .ok (.getfield 66, 3) := by decide +kernel
theorem dX2_leaf_30 : decode cX2_leaf 30 = .ok (.ifCond .eq 8, 3) := by decide +kernel
theorem dX2_leaf_33 : decode cX2_leaf 33 = .ok (.aload_n 0, 1) := by decide +kernel
theorem dX2_leaf_34 : decode cX2_leaf 34 = .ok (.invokevirtual 48, 3) := by decide +kernel
theorem dX2_leaf_37 : decode cX2_leaf 37 = .ok (.return_, 1) := by decide +kernel
theorem dX2_leaf_38 : decode cX2_leaf 38 = .ok (.aload_n 0, 1) := by decide +kernel
theorem dX2_leaf_39 : decode cX2_leaf 39 = .ok (.iload_n 1, 1) := by decide +kernel
theorem dX2_leaf_40 : decode cX2_leaf 40 = .ok (.invokevirtual 84, 3) := by decide +kernel
theorem dX2_leaf_43 : decode cX2_leaf 43 = .ok (.aload_n 0, 1) := by decide +kernel
theorem dX2_leaf_44 : decode cX2_leaf 44 = .ok (.dup, 1) := by decide +kernel
theorem dX2_leaf_45 : decode cX2_leaf 45 = .ok (.getfield 25, 3) := by decide +kernel
theorem dX2_leaf_48 : decode cX2_leaf 48 = .ok (.iconst 1, 1) := by decide +kernel
theorem dX2_leaf_49 : decode cX2_leaf 49 = .ok (.iadd, 1) := by decide +kernel
theorem dX2_leaf_50 : decode cX2_leaf 50 = .ok (.putfield 25, 3) := by decide +kernel
theorem dX2_leaf_53 : decode cX2_leaf 53 = .ok (.aload_n 0, 1) := by decide +kernel
theorem dX2_leaf_54 : decode cX2_leaf 54 = .ok (.invokevirtual 37, 3) := by decide +kernel
theorem dX2_leaf_57 : decode cX2_leaf 57 = .ok (.return_, 1) := by decide +kernel
theorem dX2_numberHere_0 : decode cX2_numberHere 0 = .ok (.aload_n 0, 1) := by decide +kernel
theorem dX2_numberHere_1 : decode cX2_numberHere 1 = .ok (.getfield 31, 3) := by decide +kernel
theorem dX2_numberHere_4 : decode cX2_numberHere 4 = .ok (.aload_n 0, 1) := by decide +kernel
theorem dX2_numberHere_5 : decode cX2_numberHere 5 = .ok (.getfield 55, 3) := by decide +kernel
theorem dX2_numberHere_8 : decode cX2_numberHere 8 = .ok (.isub, 1) := by decide +kernel
theorem dX2_numberHere_9 : decode cX2_numberHere 9 = .ok (.iconst 4, 1) := by decide +kernel
theorem dX2_numberHere_10 : decode cX2_numberHere 10 = .ok (.if_icmp .le 6, 3) := by decide +kernel
theorem dX2_numberHere_13 : decode cX2_numberHere 13 = .ok (.ldc 47, 2) := by decide +kernel
theorem dX2_numberHere_15 : decode cX2_numberHere 15 = .ok (.ireturn, 1) := by decide +kernel
theorem dX2_numberHere_16 : decode cX2_numberHere 16 = .ok (.iconst 0, 1) := by decide +kernel
theorem dX2_numberHere_17 : decode cX2_numberHere 17 = .ok (.istore_n 1, 1) := by decide +kernel
theorem dX2_numberHere_18 : decode cX2_numberHere 18 = .ok (.aload_n 0, 1) := by decide +kernel
theorem dX2_numberHere_19 : decode cX2_numberHere 19 = .ok (.getfield 55, 3) := by decide +kernel
theorem dX2_numberHere_22 : decode cX2_numberHere 22 = .ok (.istore_n 2, 1) := by decide +kernel
theorem dX2_numberHere_23 : decode cX2_numberHere 23 = .ok (.iload_n 2, 1) := by decide +kernel
theorem dX2_numberHere_24 : decode cX2_numberHere 24 = .ok (.aload_n 0, 1) := by decide +kernel
theorem dX2_numberHere_25 : decode cX2_numberHere 25 = .ok (.getfield 31, 3) := by decide +kernel
theorem dX2_numberHere_28 : decode cX2_numberHere 28 = .ok (.if_icmp .ge 24, 3) := by decide +kernel
theorem dX2_numberHere_31 : decode cX2_numberHere 31 = .ok (.bipush 10, 2) := by decide +kernel
theorem dX2_numberHere_33 : decode cX2_numberHere 33 = .ok (.iload_n 1, 1) := by decide +kernel
theorem dX2_numberHere_34 : decode cX2_numberHere 34 = .ok (.imul, 1) := by decide +kernel
theorem dX2_numberHere_35 : decode cX2_numberHere 35 = .ok (.aload_n 0, 1) := by decide +kernel
theorem dX2_numberHere_36 : decode cX2_numberHere 36 = .ok (.getfield 15, 3) := by decide +kernel
theorem dX2_numberHere_39 : decode cX2_numberHere 39 = .ok (.iload_n 2, 1) := by decide +kernel
theorem dX2_numberHere_40 : decode cX2_numberHere 40 = .ok (.iaload, 1) := by decide +kernel
theorem dX2_numberHere_41 : decode cX2_numberHere 41 = .ok (.iadd, 1) := by decide +kernel
theorem dX2_numberHere_42 : decode cX2_numberHere 42 = .ok (.bipush 48, 2) := by decide +kernel
theorem dX2_numberHere_44 : decode cX2_numberHere 44 = .ok (.isub, 1) := by decide +kernel
theorem dX2_numberHere_45 : decode cX2_numberHere 45 = .ok (.istore_n 1, 1) := by decide +kernel
theorem dX2_numberHere_46 : decode cX2_numberHere 46 = .ok (.iinc 2 1, 3) := by decide +kernel
theorem dX2_numberHere_49 : decode cX2_numberHere 49 = .ok (.goto (-26), 3) := by decide +kernel
theorem dX2_numberHere_52 : decode cX2_numberHere 52 = .ok (.iload_n 1, 1) := by decide +kernel
theorem dX2_numberHere_53 : decode cX2_numberHere 53 = .ok (.ireturn, 1) := by decide +kernel
theorem dX2_nameHere_0 : decode cX2_nameHere 0 = .ok (.aload_n 0, 1) := by decide +kernel
theorem dX2_nameHere_1 : decode cX2_nameHere 1 = .ok (.getfield 34, 3) := by decide +kernel
theorem dX2_nameHere_4 : decode cX2_nameHere 4 = .ok (.iconst 1, 1) := by decide +kernel
theorem dX2_nameHere_5 : decode cX2_nameHere 5 = .ok (.if_icmp .ne 16, 3) := by decide +kernel
theorem dX2_nameHere_8 : decode cX2_nameHere 8 = .ok (.aload_n 0, 1) := by decide +kernel
theorem dX2_nameHere_9 : decode cX2_nameHere 9 = .ok (.getfield 31, 3) := by decide +kernel
theorem dX2_nameHere_12 : decode cX2_nameHere 12 = .ok (.aload_n 0, 1) := by decide +kernel
theorem dX2_nameHere_13 : decode cX2_nameHere 13 = .ok (.getfield 55, 3) := by decide +kernel
theorem dX2_nameHere_16 : decode cX2_nameHere 16 = .ok (.isub, 1) := by decide +kernel
theorem dX2_nameHere_17 : decode cX2_nameHere 17 = .ok (.iconst 1, 1) := by decide +kernel
theorem dX2_nameHere_18 : decode cX2_nameHere 18 = .ok (.if_icmp .eq 6, 3) := by decide +kernel
theorem dX2_nameHere_21 : decode cX2_nameHere 21 = .ok (.ldc 47, 2) := by decide +kernel
theorem dX2_nameHere_23 : decode cX2_nameHere 23 = .ok (.ireturn, 1) := by decide +kernel
theorem dX2_nameHere_24 : decode cX2_nameHere 24 = .ok (.iconst 0, 1) := by decide +kernel
theorem dX2_nameHere_25 : decode cX2_nameHere 25 = .ok (.istore_n 1, 1) := by decide +kernel
theorem dX2_nameHere_26 : decode cX2_nameHere 26 = .ok (.iload_n 1, 1) := by decide +kernel
theorem dX2_nameHere_27 : decode cX2_nameHere 27 = .ok (.iconst 3, 1) := by decide +kernel
theorem dX2_nameHere_28 : decode cX2_nameHere 28 = .ok (.if_icmp .ge 37, 3) := by decide +kernel
theorem dX2_nameHere_31 : decode cX2_nameHere 31 = .ok (.aload_n 0, 1) := by decide +kernel
theorem dX2_nameHere_32 : decode cX2_nameHere 32 = .ok (.getfield 15, 3) := by decide +kernel
theorem dX2_nameHere_35 : decode cX2_nameHere 35 = .ok (.aload_n 0, 1) := by decide +kernel
theorem dX2_nameHere_36 : decode cX2_nameHere 36 = .ok (.getfield 55, 3) := by decide +kernel
theorem dX2_nameHere_39 : decode cX2_nameHere 39 = .ok (.iaload, 1) := by decide +kernel
theorem dX2_nameHere_40 : decode cX2_nameHere 40 = .ok (.getstatic 102, 3) := by decide +kernel
theorem dX2_nameHere_43 : decode cX2_nameHere 43 = .ok (.iconst 3, 1) := by decide +kernel
theorem dX2_nameHere_44 : decode cX2_nameHere 44 = .ok (.aload_n 0, 1) := by decide +kernel
theorem dX2_nameHere_45 : decode cX2_nameHere 45 = .ok (.getfield 44, 3) := by decide +kernel
theorem dX2_nameHere_48 : decode cX2_nameHere 48 = .ok (.imul, 1) := by decide +kernel
theorem dX2_nameHere_49 : decode cX2_nameHere 49 = .ok (.iload_n 1, 1) := by decide +kernel
theorem dX2_nameHere_50 : decode cX2_nameHere 50 = .ok (.iadd, 1) := by decide +kernel
theorem dX2_nameHere_51 : decode cX2_nameHere 51 = .ok (.caload, 1) := by decide +kernel
theorem dX2_nameHere_52 : decode cX2_nameHere 52 = .ok (.if_icmp .ne 7, 3) := by decide +kernel
theorem dX2_nameHere_55 : decode cX2_nameHere 55 = .ok (.iconst (-1), 1) := by decide +kernel
theorem dX2_nameHere_56 : decode cX2_nameHere 56 = .ok (.iload_n 1, 1) := by decide +kernel
theorem dX2_nameHere_57 : decode cX2_nameHere 57 = .ok (.isub, 1) := by decide +kernel
theorem dX2_nameHere_58 : decode cX2_nameHere 58 = .ok (.ireturn, 1) := by decide +kernel
theorem dX2_nameHere_59 : decode cX2_nameHere 59 = .ok (.iinc 1 1, 3) := by decide +kernel
theorem dX2_nameHere_62 : decode cX2_nameHere 62 = .ok (.goto (-36), 3) := by decide +kernel
theorem dX2_nameHere_65 : decode cX2_nameHere 65 = .ok (.ldc 47, 2) := by decide +kernel
theorem dX2_nameHere_67 : decode cX2_nameHere 67 = .ok (.ireturn, 1) := by decide +kernel
theorem dX2_addStep_0 : decode cX2_addStep 0 = .ok (.aload_n 0, 1) := by decide +kernel
theorem dX2_addStep_1 : decode cX2_addStep 1 = .ok (.getfield 22, 3) := by decide +kernel
theorem dX2_addStep_4 : decode cX2_addStep 4 = .ok (.bipush 96, 2) := by decide +kernel
theorem dX2_addStep_6 : decode cX2_addStep 6 = .ok (.if_icmp .ge 23, 3) := by decide +kernel
theorem dX2_addStep_9 : decode cX2_addStep 9 = .ok (.aload_n 0, 1) := by decide +kernel
theorem dX2_addStep_10 : decode cX2_addStep 10 = .ok (.getfield 9, 3) := by decide +kernel
theorem dX2_addStep_13 : decode cX2_addStep 13 = .ok (.aload_n 0, 1) := by decide +kernel
theorem dX2_addStep_14 : decode cX2_addStep 14 = .ok (.getfield 22, 3) := by decide +kernel
theorem dX2_addStep_17 : decode cX2_addStep 17 = .ok (.iload_n 1, 1) := by decide +kernel
theorem dX2_addStep_18 : decode cX2_addStep 18 = .ok (.iastore, 1) := by decide +kernel
theorem dX2_addStep_19 : decode cX2_addStep 19 = .ok (.aload_n 0, 1) := by decide +kernel
theorem dX2_addStep_20 : decode cX2_addStep 20 = .ok (.dup, 1) := by decide +kernel
theorem dX2_addStep_21 : decode cX2_addStep 21 = .ok (.getfield 22, 3) := by decide +kernel
theorem dX2_addStep_24 : decode cX2_addStep 24 = .ok (.iconst 1, 1) := by decide +kernel
theorem dX2_addStep_25 : decode cX2_addStep 25 = .ok (.iadd, 1) := by decide +kernel
theorem dX2_addStep_26 : decode cX2_addStep 26 = .ok (.putfield 22, 3) := by decide +kernel
theorem dX2_addStep_29 : decode cX2_addStep 29 = .ok (.return_, 1) := by decide +kernel
theorem dX3_init_0 : decode cX3_init 0 = .ok (.aload_n 0, 1) := by decide +kernel
theorem dX3_init_1 : decode cX3_init 1 = .ok (.invokespecial 3, 3) := by decide +kernel
theorem dX3_init_4 : decode cX3_init 4 = .ok (.aload_n 0, 1) := by decide +kernel
theorem dX3_init_5 : decode cX3_init 5 = .ok (.iconst (-1), 1) := by decide +kernel
theorem dX3_init_6 : decode cX3_init 6 = .ok (.putfield 9, 3) := by decide +kernel
theorem dX3_init_9 : decode cX3_init 9 = .ok (.aload_n 0, 1) := by decide +kernel
theorem dX3_init_10 : decode cX3_init 10 = .ok (.bipush 24, 2) := by decide +kernel
theorem dX3_init_12 : decode cX3_init 12 = .ok (.newarray .int, 2) := by decide +kernel
theorem dX3_init_14 : decode cX3_init 14 = .ok (.putfield 15, 3) := by decide +kernel
theorem dX3_init_17 : decode cX3_init 17 = .ok (.return_, 1) := by decide +kernel
theorem dX3_clear_0 : decode cX3_clear 0 = .ok (.aload_n 0, 1) := by decide +kernel
theorem dX3_clear_1 : decode cX3_clear 1 = .ok (.iload_n 1, 1) := by decide +kernel
theorem dX3_clear_2 : decode cX3_clear 2 = .ok (.putfield 9, 3) := by decide +kernel
theorem dX3_clear_5 : decode cX3_clear 5 = .ok (.aload_n 0, 1) := by decide +kernel
theorem dX3_clear_6 : decode cX3_clear 6 = .ok (.iload_n 2, 1) := by decide +kernel
theorem dX3_clear_7 : decode cX3_clear 7 = .ok (.putfield 19, 3) := by decide +kernel
theorem dX3_clear_10 : decode cX3_clear 10 = .ok (.iconst 0, 1) := by decide +kernel
theorem dX3_clear_11 : decode cX3_clear 11 = .ok (.istore_n 3, 1) := by decide +kernel
theorem dX3_clear_12 : decode cX3_clear 12 = .ok (.iload_n 3, 1) := by decide +kernel
theorem dX3_clear_13 : decode cX3_clear 13 = .ok (.bipush 24, 2) := by decide +kernel
theorem dX3_clear_15 : decode cX3_clear 15 = .ok (.if_icmp .ge 16, 3) := by decide +kernel
theorem dX3_clear_18 : decode cX3_clear 18 = .ok (.aload_n 0, 1) := by decide +kernel
theorem dX3_clear_19 : decode cX3_clear 19 = .ok (.getfield 15, 3) := by decide +kernel
theorem dX3_clear_22 : decode cX3_clear 22 = .ok (.iload_n 3, 1) := by decide +kernel
theorem dX3_clear_23 : decode cX3_clear 23 = .ok (.iconst 0, 1) := by decide +kernel
theorem dX3_clear_24 : decode cX3_clear 24 = .ok (.iastore, 1) := by decide +kernel
theorem dX3_clear_25 : decode cX3_clear 25 = .ok (.iinc 3 1, 3) := by decide +kernel
theorem dX3_clear_28 : decode cX3_clear 28 = .ok (.goto (-16), 3) := by decide +kernel
theorem dX3_clear_31 : decode cX3_clear 31 = .ok (.return_, 1) := by decide +kernel
theorem dX3_becomes_0 : decode cX3_becomes 0 = .ok (.aload_n 0, 1) := by decide +kernel
theorem dX3_becomes_1 : decode cX3_becomes 1 = .ok (.aload_n 1, 1) := by decide +kernel
theorem dX3_becomes_2 : decode cX3_becomes 2 = .ok (.getfield 9, 3) := by decide +kernel
theorem dX3_becomes_5 : decode cX3_becomes 5 = .ok (.putfield 9, 3) := by decide +kernel
theorem dX3_becomes_8 : decode cX3_becomes 8 = .ok (.aload_n 0, 1) := by decide +kernel
theorem dX3_becomes_9 : decode cX3_becomes 9 = .ok (.aload_n 1, 1) := by decide +kernel
theorem dX3_becomes_10 : decode cX3_becomes 10 = .ok (.getfield 19, 3) := by decide +kernel
theorem dX3_becomes_13 : decode cX3_becomes 13 = .ok (.putfield 19, 3) := by decide +kernel
theorem dX3_becomes_16 : decode cX3_becomes 16 = .ok (.aload_n 1, 1) := by decide +kernel
theorem dX3_becomes_17 : decode cX3_becomes 17 = .ok (.getfield 15, 3) := by decide +kernel
theorem dX3_becomes_20 : decode cX3_becomes 20 = .ok (.iconst 0, 1) := by decide +kernel
theorem dX3_becomes_21 : decode cX3_becomes 21 = .ok (.aload_n 0, 1) := by decide +kernel
theorem dX3_becomes_22 : decode cX3_becomes 22 = .ok (.getfield 15, 3) := by decide +kernel
theorem dX3_becomes_25 : decode cX3_becomes 25 = .ok (.iconst 0, 1) := by decide +kernel
theorem dX3_becomes_26 : decode cX3_becomes 26 = .ok (.bipush 24, 2) := by decide +kernel
theorem dX3_becomes_28 : decode cX3_becomes 28 = .ok (.invokestatic 22, 3) := by decide +kernel
theorem dX3_becomes_31 : decode cX3_becomes 31 = .ok (.return_, 1) := by decide +kernel
theorem dX3_isMissing_0 : decode cX3_isMissing 0 = .ok (.aload_n 0, 1) := by decide +kernel
theorem dX3_isMissing_1 : decode cX3_isMissing 1 = .ok (.getfield 9, 3) := by decide +kernel
theorem dX3_isMissing_4 : decode cX3_isMissing 4 = .ok (.iconst (-1), 1) := by decide +kernel
theorem dX3_isMissing_5 : decode cX3_isMissing 5 = .ok (.if_icmp .ne 7, 3) := by decide +kernel
theorem dX3_isMissing_8 : decode cX3_isMissing 8 = .ok (.iconst 1, 1) := by decide +kernel
theorem dX3_isMissing_9 : decode cX3_isMissing 9 = .ok (.goto 4, 3) := by decide +kernel
theorem dX3_isMissing_12 : decode cX3_isMissing 12 = .ok (.iconst 0, 1) := by decide +kernel
theorem dX3_isMissing_13 : decode cX3_isMissing 13 = .ok (.ireturn, 1) := by decide +kernel
theorem dX3_hasPlace_0 : decode cX3_hasPlace 0 = .ok (.iload_n 1, 1) := by decide +kernel
theorem dX3_hasPlace_1 : decode cX3_hasPlace 1 = .ok (.iconst 0, 1) := by decide +kernel
theorem dX3_hasPlace_2 : decode cX3_hasPlace 2 = .ok (.aload_n 0, 1) := by decide +kernel
theorem dX3_hasPlace_3 : decode cX3_hasPlace 3 = .ok (.getfield 19, 3) := by decide +kernel
theorem dX3_hasPlace_6 : decode cX3_hasPlace 6 = .ok (.iconst 1, 1) := by decide +kernel
theorem dX3_hasPlace_7 : decode cX3_hasPlace 7 = .ok (.isub, 1) := by decide +kernel
theorem dX3_hasPlace_8 : decode cX3_hasPlace 8 = .ok (.invokestatic 28, 3) := by decide +kernel
theorem dX3_hasPlace_11 : decode cX3_hasPlace 11 = .ok (.ireturn, 1) := by decide +kernel
theorem dX3_hasSpan_0 : decode cX3_hasSpan 0 = .ok (.iload_n 1, 1) := by decide +kernel
theorem dX3_hasSpan_1 : decode cX3_hasSpan 1 = .ok (.iconst 0, 1) := by decide +kernel
theorem dX3_hasSpan_2 : decode cX3_hasSpan 2 = .ok (.aload_n 0, 1) := by decide +kernel
theorem dX3_hasSpan_3 : decode cX3_hasSpan 3 = .ok (.getfield 19, 3) := by decide +kernel
theorem dX3_hasSpan_6 : decode cX3_hasSpan 6 = .ok (.invokestatic 28, 3) := by decide +kernel
theorem dX3_hasSpan_9 : decode cX3_hasSpan 9 = .ok (.ifCond .eq 21, 3) := by decide +kernel
theorem dX3_hasSpan_12 : decode cX3_hasSpan 12 = .ok (.iload_n 2, 1) := by decide +kernel
theorem dX3_hasSpan_13 : decode cX3_hasSpan 13 = .ok (.iconst 0, 1) := by decide +kernel
theorem dX3_hasSpan_14 : decode cX3_hasSpan 14 = .ok (.aload_n 0, 1) := by decide +kernel
theorem dX3_hasSpan_15 : decode cX3_hasSpan 15 = .ok (.getfield 19, 3) := by decide +kernel
theorem dX3_hasSpan_18 : decode cX3_hasSpan 18 = .ok (.iload_n 1, 1) := by decide +kernel
theorem dX3_hasSpan_19 : decode cX3_hasSpan 19 = .ok (.isub, 1) := by decide +kernel
theorem dX3_hasSpan_20 : decode cX3_hasSpan 20 = .ok (.invokestatic 28, 3) := by decide +kernel
theorem dX3_hasSpan_23 : decode cX3_hasSpan 23 = .ok (.ifCond .eq 7, 3) := by decide +kernel
theorem dX3_hasSpan_26 : decode cX3_hasSpan 26 = .ok (.iconst 1, 1) := by decide +kernel
theorem dX3_hasSpan_27 : decode cX3_hasSpan 27 = .ok (.goto 4, 3) := by decide +kernel
theorem dX3_hasSpan_30 : decode cX3_hasSpan 30 = .ok (.iconst 0, 1) := by decide +kernel
theorem dX3_hasSpan_31 : decode cX3_hasSpan 31 = .ok (.ireturn, 1) := by decide +kernel
theorem dX3_isNumber_0 : decode cX3_isNumber 0 = .ok (.aload_n 0, 1) := by decide +kernel
theorem dX3_isNumber_1 : decode cX3_isNumber 1 = .ok (.iload_n 1, 1) := by decide +kernel
theorem dX3_isNumber_2 : decode cX3_isNumber 2 = .ok (.invokevirtual 32, 3) := by decide +kernel
theorem dX3_isNumber_5 : decode cX3_isNumber 5 = .ok (.ifCond .eq 18, 3) := by decide +kernel
theorem dX3_isNumber_8 : decode cX3_isNumber 8 = .ok (.aload_n 0, 1) := by decide +kernel
theorem dX3_isNumber_9 : decode cX3_isNumber 9 = .ok (.getfield 15, 3) := by decide +kernel
theorem dX3_isNumber_12 : decode cX3_isNumber 12 = .ok (.iload_n 1, 1) := by decide +kernel
theorem dX3_isNumber_13 : decode cX3_isNumber 13 = .ok (.iaload, 1) := by decide +kernel
theorem dX3_isNumber_14 : decode cX3_isNumber 14 = .ok (.ldc 36, 2) := by decide +kernel
theorem dX3_isNumber_16 : decode cX3_isNumber 16 = .ok (.if_icmp .eq 7, 3) := by decide +kernel
theorem dX3_isNumber_19 : decode cX3_isNumber 19 = .ok (.iconst 1, 1) := by decide +kernel
theorem dX3_isNumber_20 : decode cX3_isNumber 20 = .ok (.goto 4, 3) := by decide +kernel
theorem dX3_isNumber_23 : decode cX3_isNumber 23 = .ok (.iconst 0, 1) := by decide +kernel
theorem dX3_isNumber_24 : decode cX3_isNumber 24 = .ok (.ireturn, 1) := by decide +kernel
theorem dX4_init_0 : decode cX4_init 0 = .ok (.aload_n 0, 1) := by decide +kernel
theorem dX4_init_1 : decode cX4_init 1 = .ok (.invokespecial 3, 3) := by decide +kernel
theorem dX4_init_4 : decode cX4_init 4 = .ok (.aload_n 0, 1) := by decide +kernel
theorem dX4_init_5 : decode cX4_init 5 = .ok (.bipush 10, 2) := by decide +kernel
theorem dX4_init_7 : decode cX4_init 7 = .ok (.newarray .int, 2) := by decide +kernel
theorem dX4_init_9 : decode cX4_init 9 = .ok (.putfield 9, 3) := by decide +kernel
theorem dX4_init_12 : decode cX4_init 12 = .ok (.aload_n 0, 1) := by decide +kernel
theorem dX4_init_13 : decode cX4_init 13 = .ok (.aload_n 1, 1) := by decide +kernel
theorem dX4_init_14 : decode cX4_init 14 = .ok (.putfield 15, 3) := by decide +kernel
theorem dX4_init_17 : decode cX4_init 17 = .ok (.return_, 1) := by decide +kernel
theorem dX4_cheapestBeside_0 : decode cX4_cheapestBeside 0 = .ok (.aload_n 0, 1) := by decide +kernel
theorem dX4_cheapestBeside_1 : decode cX4_cheapestBeside 1 = .ok (.invokevirtual 19, 3) := by decide +kernel
theorem dX4_cheapestBeside_4 : decode cX4_cheapestBeside 4 = .ok (.ldc 22, 2) := by decide +kernel
theorem dX4_cheapestBeside_6 : decode cX4_cheapestBeside 6 = .ok (.istore_n 3, 1) := by decide +kernel
theorem dX4_cheapestBeside_7 : decode cX4_cheapestBeside 7 = .ok (.iconst 0, 1) := by decide +kernel
theorem dX4_cheapestBeside_8 : decode cX4_cheapestBeside 8 = .ok (.istore 4, 2) := by decide +kernel
theorem dX4_cheapestBeside_10 : decode cX4_cheapestBeside 10 = .ok (.iconst 0, 1) := by decide +kernel
theorem dX4_cheapestBeside_11 : decode cX4_cheapestBeside 11 = .ok (.istore 5, 2) := by decide +kernel
theorem dX4_cheapestBeside_13 : decode cX4_cheapestBeside 13 = .ok (.aload_n 0, 1) := by decide +kernel
theorem dX4_cheapestBeside_14 : decode cX4_cheapestBeside 14 = .ok (.getfield 15, 3) := by decide +kernel
theorem dX4_cheapestBeside_17 : decode cX4_cheapestBeside 17 = .ok (.invokevirtual 23, 3) := by decide +kernel
theorem dX4_cheapestBeside_20 : decode cX4_cheapestBeside 20 = .ok (.istore 6, 2) := by decide +kernel
theorem dX4_cheapestBeside_22 : decode cX4_cheapestBeside 22 = .ok (.iconst 0, 1) := by decide +kernel
theorem dX4_cheapestBeside_23 : decode cX4_cheapestBeside 23 = .ok (.istore 7, 2) := by decide +kernel
theorem dX4_cheapestBeside_25 : decode cX4_cheapestBeside 25 = .ok (.iload 7, 2) := by decide +kernel
theorem dX4_cheapestBeside_27 : decode cX4_cheapestBeside 27 = .ok (.iload 6, 2) := by decide +kernel
theorem dX4_cheapestBeside_29 : decode cX4_cheapestBeside 29 = .ok (.if_icmp .gt 86, 3) := by decide +kernel
theorem dX4_cheapestBeside_32 : decode cX4_cheapestBeside 32 = .ok (.aload_n 0, 1) := by decide +kernel
theorem dX4_cheapestBeside_33 : decode cX4_cheapestBeside 33 = .ok (.getfield 15, 3) := by decide +kernel
theorem dX4_cheapestBeside_36 : decode cX4_cheapestBeside 36 = .ok (.iload 7, 2) := by decide +kernel
theorem dX4_cheapestBeside_38 : decode cX4_cheapestBeside 38 = .ok (.iload_n 2, 1) := by decide +kernel
theorem dX4_cheapestBeside_39 : decode cX4_cheapestBeside 39 = .ok (.invokevirtual 29, 3) := by decide +kernel
theorem dX4_cheapestBeside_42 : decode cX4_cheapestBeside 42 = .ok (.ifCond .ne 6, 3) := by decide +kernel
theorem dX4_cheapestBeside_45 : decode cX4_cheapestBeside 45 = .ok (.goto 64, 3) := by decide +kernel
theorem dX4_cheapestBeside_48 : decode cX4_cheapestBeside 48 = .ok (.aload_n 0, 1) := by decide +kernel
theorem dX4_cheapestBeside_49 : decode cX4_cheapestBeside 49 = .ok (.iload 7, 2) := by decide +kernel
theorem dX4_cheapestBeside_51 : decode cX4_cheapestBeside 51 = .ok (.iload_n 1, 1) := by decide +kernel
theorem dX4_cheapestBeside_52 : decode cX4_cheapestBeside 52 = .ok (.iconst (-1), 1) := by decide +kernel
theorem dX4_cheapestBeside_53 : decode cX4_cheapestBeside 53 = .ok (.ixor, 1) := by decide +kernel
theorem dX4_cheapestBeside_54 : decode cX4_cheapestBeside 54 = .ok (.iand, 1) := by decide +kernel
theorem dX4_cheapestBeside_55 : decode cX4_cheapestBeside 55 = .ok (.invokevirtual 33, 3) := by decide +kernel
theorem dX4_cheapestBeside_58 : decode cX4_cheapestBeside 58 = .ok (.istore 8, 2) := by decide +kernel
theorem dX4_cheapestBeside_60 : decode cX4_cheapestBeside 60 = .ok (.iload 7, 2) := by decide +kernel
theorem dX4_cheapestBeside_62 : decode cX4_cheapestBeside 62 = .ok (.iload_n 1, 1) := by decide +kernel
theorem dX4_cheapestBeside_63 : decode cX4_cheapestBeside 63 = .ok (.iconst (-1), 1) := by decide +kernel
theorem dX4_cheapestBeside_64 : decode cX4_cheapestBeside 64 = .ok (.ixor, 1) := by decide +kernel
theorem dX4_cheapestBeside_65 : decode cX4_cheapestBeside 65 = .ok (.iand, 1) := by decide +kernel
theorem dX4_cheapestBeside_66 : decode cX4_cheapestBeside 66 = .ok (.invokestatic 37, 3) := by decide +kernel
theorem dX4_cheapestBeside_69 : decode cX4_cheapestBeside 69 = .ok (.istore 9, 2) := by decide +kernel
theorem dX4_cheapestBeside_71 : decode cX4_cheapestBeside 71 = .ok (.iload_n 3, 1) := by decide +kernel
theorem dX4_cheapestBeside_72 : decode cX4_cheapestBeside 72 = .ok (.ldc 22, 2) := by decide +kernel
theorem dX4_cheapestBeside_74 : decode cX4_cheapestBeside 74 = .ok (.if_icmp .eq 24, 3) := by decide +kernel
theorem dX4_cheapestBeside_77 : decode cX4_cheapestBeside 77 = .ok (.iload 8, 2) := by decide +kernel
theorem dX4_cheapestBeside_79 : decode cX4_cheapestBeside 79 = .ok (.iload 4, 2) := by decide +kernel
theorem dX4_cheapestBeside_81 : decode cX4_cheapestBeside 81 = .ok (.if_icmp .lt 17, 3) := by decide +kernel
theorem dX4_cheapestBeside_84 : decode cX4_cheapestBeside 84 = .ok (.iload 8, 2) := by decide +kernel
theorem dX4_cheapestBeside_86 : decode cX4_cheapestBeside 86 = .ok (.iload 4, 2) := by decide +kernel
theorem dX4_cheapestBeside_88 : decode cX4_cheapestBeside 88 = .ok (.if_icmp .ne 21, 3) := by decide +kernel
theorem dX4_cheapestBeside_91 : decode cX4_cheapestBeside 91 = .ok (.iload 9, 2) := by decide +kernel
theorem dX4_cheapestBeside_93 : decode cX4_cheapestBeside 93 = .ok (.iload 5, 2) := by decide +kernel
theorem dX4_cheapestBeside_95 : decode cX4_cheapestBeside 95 = .ok (.if_icmp .ge 14, 3) := by decide +kernel
theorem dX4_cheapestBeside_98 : decode cX4_cheapestBeside 98 = .ok (.iload 7, 2) := by decide +kernel
theorem dX4_cheapestBeside_100 : decode cX4_cheapestBeside 100 = .ok (.istore_n 3, 1) := by decide +kernel
theorem dX4_cheapestBeside_101 : decode cX4_cheapestBeside 101 = .ok (.iload 8, 2) := by decide +kernel
theorem dX4_cheapestBeside_103 : decode cX4_cheapestBeside 103 = .ok (.istore 4, 2) := by decide +kernel
theorem dX4_cheapestBeside_105 : decode cX4_cheapestBeside 105 = .ok (.iload 9, 2) := by decide +kernel
theorem dX4_cheapestBeside_107 : decode cX4_cheapestBeside 107 = .ok (.istore 5, 2) := by decide +kernel
theorem dX4_cheapestBeside_109 : decode cX4_cheapestBeside 109 = .ok (.iinc 7 1, 3) := by decide +kernel
theorem dX4_cheapestBeside_112 : decode cX4_cheapestBeside 112 = .ok (.goto (-87), 3) := by decide +kernel
theorem dX4_cheapestBeside_115 : decode cX4_cheapestBeside 115 = .ok (.iload_n 3, 1) := by decide +kernel
theorem dX4_cheapestBeside_116 : decode cX4_cheapestBeside 116 = .ok (.ireturn, 1) := by decide +kernel
theorem dX4_readPrices_0 : decode cX4_readPrices 0 = .ok (.iconst 0, 1) := by decide +kernel
theorem dX4_readPrices_1 : decode cX4_readPrices 1 = .ok (.istore_n 1, 1) := by decide +kernel
theorem dX4_readPrices_2 : decode cX4_readPrices 2 = .ok (.iload_n 1, 1) := by decide +kernel
theorem dX4_readPrices_3 : decode cX4_readPrices 3 = .ok (.aload_n 0, 1) := by decide +kernel
theorem dX4_readPrices_4 : decode cX4_readPrices 4 = .ok (.getfield 15, 3) := by decide +kernel
theorem dX4_readPrices_7 : decode cX4_readPrices 7 = .ok (.getfield 42, 3) := by decide +kernel
theorem dX4_readPrices_10 : decode cX4_readPrices 10 = .ok (.if_icmp .ge 31, 3) := by decide +kernel
theorem dX4_readPrices_13 : decode cX4_readPrices 13 = .ok (.aload_n 0, 1) := by decide +kernel
theorem dX4_readPrices_14 : decode cX4_readPrices 14 = .ok (.getfield 9, 3) := by decide +kernel
theorem dX4_readPrices_17 : decode cX4_readPrices 17 = .ok (.iload_n 1, 1) := by decide +kernel
theorem dX4_readPrices_18 : decode cX4_readPrices 18 = .ok (.aload_n 0, 1) := by decide +kernel
theorem dX4_readPrices_19 : decode cX4_readPrices 19 = .ok (.getfield 15, 3) := by decide +kernel
theorem dX4_readPrices_22 : decode cX4_readPrices 22 = .ok (.aload_n 0, 1) := by decide +kernel
theorem dX4_readPrices_23 : decode cX4_readPrices 23 = .ok (.getfield 15, 3) := by decide +kernel
theorem dX4_readPrices_26 : decode cX4_readPrices 26 = .ok (.getfield 46, 3) := by decide +kernel
theorem dX4_readPrices_29 : decode cX4_readPrices 29 = .ok (.iload_n 1, 1) := by decide +kernel
theorem dX4_readPrices_30 : decode cX4_readPrices 30 = .ok (.aaload, 1) := by decide +kernel
theorem dX4_readPrices_31 : decode cX4_readPrices 31 = .ok (.invokevirtual 50, 3) := by decide +kernel
theorem dX4_readPrices_34 : decode cX4_readPrices 34 = .ok (.iastore, 1) := by decide +kernel
theorem dX4_readPrices_35 : decode cX4_readPrices 35 = .ok (.iinc 1 1, 3) := by decide +kernel
theorem dX4_readPrices_38 : decode cX4_readPrices 38 = .ok (.goto (-36), 3) := by decide +kernel
theorem dX4_readPrices_41 : decode cX4_readPrices 41 = .ok (.return_, 1) := by decide +kernel
theorem dX4_priceOf_0 : decode cX4_priceOf 0 = .ok (.iconst 0, 1) := by decide +kernel
theorem dX4_priceOf_1 : decode cX4_priceOf 1 = .ok (.istore_n 2, 1) := by decide +kernel
theorem dX4_priceOf_2 : decode cX4_priceOf 2 = .ok (.iconst 0, 1) := by decide +kernel
theorem dX4_priceOf_3 : decode cX4_priceOf 3 = .ok (.istore_n 3, 1) := by decide +kernel
theorem dX4_priceOf_4 : decode cX4_priceOf 4 = .ok (.iload_n 3, 1) := by decide +kernel
theorem dX4_priceOf_5 : decode cX4_priceOf 5 = .ok (.aload_n 0, 1) := by decide +kernel
theorem dX4_priceOf_6 : decode cX4_priceOf 6 = .ok (.getfield 15, 3) := by decide +kernel
theorem dX4_priceOf_9 : decode cX4_priceOf 9 = .ok (.getfield 42, 3) := by decide +kernel
theorem dX4_priceOf_12 : decode cX4_priceOf 12 = .ok (.if_icmp .ge 27, 3) := by decide +kernel
theorem dX4_priceOf_15 : decode cX4_priceOf 15 = .ok (.iload_n 1, 1) := by decide +kernel
theorem dX4_priceOf_16 : decode cX4_priceOf 16 = .ok (.iload_n 3, 1) := by decide +kernel
theorem dX4_priceOf_17 : decode cX4_priceOf 17 = .ok (.ishr, 1) := by decide +kernel
theorem dX4_priceOf_18 : decode cX4_priceOf 18 = .ok (.iconst 1, 1) := by decide +kernel
theorem dX4_priceOf_19 : decode cX4_priceOf 19 = .ok (.iand, 1) := by decide +kernel
theorem dX4_priceOf_20 : decode cX4_priceOf 20 = .ok (.iconst 1, 1) := by decide +kernel
theorem dX4_priceOf_21 : decode cX4_priceOf 21 = .ok (.if_icmp .ne 12, 3) := by decide +kernel
theorem dX4_priceOf_24 : decode cX4_priceOf 24 = .ok (.iload_n 2, 1) := by decide +kernel
theorem dX4_priceOf_25 : decode cX4_priceOf 25 = .ok (.aload_n 0, 1) := by decide +kernel
theorem dX4_priceOf_26 : decode cX4_priceOf 26 = .ok (.getfield 9, 3) := by decide +kernel
theorem dX4_priceOf_29 : decode cX4_priceOf 29 = .ok (.iload_n 3, 1) := by decide +kernel
theorem dX4_priceOf_30 : decode cX4_priceOf 30 = .ok (.iaload, 1) := by decide +kernel
theorem dX4_priceOf_31 : decode cX4_priceOf 31 = .ok (.iadd, 1) := by decide +kernel
theorem dX4_priceOf_32 : decode cX4_priceOf 32 = .ok (.istore_n 2, 1) := by decide +kernel
theorem dX4_priceOf_33 : decode cX4_priceOf 33 = .ok (.iinc 3 1, 3) := by decide +kernel
theorem dX4_priceOf_36 : decode cX4_priceOf 36 = .ok (.goto (-32), 3) := by decide +kernel
theorem dX4_priceOf_39 : decode cX4_priceOf 39 = .ok (.iload_n 2, 1) := by decide +kernel
theorem dX4_priceOf_40 : decode cX4_priceOf 40 = .ok (.ireturn, 1) := by decide +kernel
theorem dX4_fewestOf_0 : decode cX4_fewestOf 0 = .ok (.ldc 22, 2) := by decide +kernel
theorem dX4_fewestOf_2 : decode cX4_fewestOf 2 = .ok (.istore 4, 2) := by decide +kernel
theorem dX4_fewestOf_4 : decode cX4_fewestOf 4 = .ok (.iconst 0, 1) := by decide +kernel
theorem dX4_fewestOf_5 : decode cX4_fewestOf 5 = .ok (.istore 5, 2) := by decide +kernel
theorem dX4_fewestOf_7 : decode cX4_fewestOf 7 = .ok (.iconst 0, 1) := by decide +kernel
theorem dX4_fewestOf_8 : decode cX4_fewestOf 8 = .ok (.istore 6, 2) := by decide +kernel
theorem dX4_fewestOf_10 : decode cX4_fewestOf 10 = .ok (.iload 6, 2) := by decide +kernel
theorem dX4_fewestOf_12 : decode cX4_fewestOf 12 = .ok (.iload_n 1, 1) := by decide +kernel
theorem dX4_fewestOf_13 : decode cX4_fewestOf 13 = .ok (.if_icmp .gt 74, 3) := by decide +kernel
theorem dX4_fewestOf_16 : decode cX4_fewestOf 16 = .ok (.iload 6, 2) := by decide +kernel
theorem dX4_fewestOf_18 : decode cX4_fewestOf 18 = .ok (.invokestatic 37, 3) := by decide +kernel
theorem dX4_fewestOf_21 : decode cX4_fewestOf 21 = .ok (.istore 7, 2) := by decide +kernel
theorem dX4_fewestOf_23 : decode cX4_fewestOf 23 = .ok (.iload 4, 2) := by decide +kernel
theorem dX4_fewestOf_25 : decode cX4_fewestOf 25 = .ok (.ldc 22, 2) := by decide +kernel
theorem dX4_fewestOf_27 : decode cX4_fewestOf 27 = .ok (.if_icmp .eq 10, 3) := by decide +kernel
theorem dX4_fewestOf_30 : decode cX4_fewestOf 30 = .ok (.iload 7, 2) := by decide +kernel
theorem dX4_fewestOf_32 : decode cX4_fewestOf 32 = .ok (.iload 5, 2) := by decide +kernel
theorem dX4_fewestOf_34 : decode cX4_fewestOf 34 = .ok (.if_icmp .ge 7, 3) := by decide +kernel
theorem dX4_fewestOf_37 : decode cX4_fewestOf 37 = .ok (.iconst 1, 1) := by decide +kernel
theorem dX4_fewestOf_38 : decode cX4_fewestOf 38 = .ok (.goto 4, 3) := by decide +kernel
theorem dX4_fewestOf_41 : decode cX4_fewestOf 41 = .ok (.iconst 0, 1) := by decide +kernel
theorem dX4_fewestOf_42 : decode cX4_fewestOf 42 = .ok (.istore 8, 2) := by decide +kernel
theorem dX4_fewestOf_44 : decode cX4_fewestOf 44 = .ok (.iload 6, 2) := by decide +kernel
theorem dX4_fewestOf_46 : decode cX4_fewestOf 46 = .ok (.iload_n 1, 1) := by decide +kernel
theorem dX4_fewestOf_47 : decode cX4_fewestOf 47 = .ok (.iconst (-1), 1) := by decide +kernel
theorem dX4_fewestOf_48 : decode cX4_fewestOf 48 = .ok (.ixor, 1) := by decide +kernel
theorem dX4_fewestOf_49 : decode cX4_fewestOf 49 = .ok (.iand, 1) := by decide +kernel
theorem dX4_fewestOf_50 : decode cX4_fewestOf 50 = .ok (.ifCond .ne 31, 3) := by decide +kernel
theorem dX4_fewestOf_53 : decode cX4_fewestOf 53 = .ok (.iload 8, 2) := by decide +kernel
theorem dX4_fewestOf_55 : decode cX4_fewestOf 55 = .ok (.ifCond .eq 26, 3) := by decide +kernel
theorem dX4_fewestOf_58 : decode cX4_fewestOf 58 = .ok (.aload_n 0, 1) := by decide +kernel
theorem dX4_fewestOf_59 : decode cX4_fewestOf 59 = .ok (.getfield 15, 3) := by decide +kernel
theorem dX4_fewestOf_62 : decode cX4_fewestOf 62 = .ok (.iload 6, 2) := by decide +kernel
theorem dX4_fewestOf_64 : decode cX4_fewestOf 64 = .ok (.iload_n 2, 1) := by decide +kernel
theorem dX4_fewestOf_65 : decode cX4_fewestOf 65 = .ok (.ior, 1) := by decide +kernel
theorem dX4_fewestOf_66 : decode cX4_fewestOf 66 = .ok (.iload_n 3, 1) := by decide +kernel
theorem dX4_fewestOf_67 : decode cX4_fewestOf 67 = .ok (.invokevirtual 29, 3) := by decide +kernel
theorem dX4_fewestOf_70 : decode cX4_fewestOf 70 = .ok (.ifCond .eq 11, 3) := by decide +kernel
theorem dX4_fewestOf_73 : decode cX4_fewestOf 73 = .ok (.iload 6, 2) := by decide +kernel
theorem dX4_fewestOf_75 : decode cX4_fewestOf 75 = .ok (.istore 4, 2) := by decide +kernel
theorem dX4_fewestOf_77 : decode cX4_fewestOf 77 = .ok (.iload 7, 2) := by decide +kernel
theorem dX4_fewestOf_79 : decode cX4_fewestOf 79 = .ok (.istore 5, 2) := by decide +kernel
theorem dX4_fewestOf_81 : decode cX4_fewestOf 81 = .ok (.iinc 6 1, 3) := by decide +kernel
theorem dX4_fewestOf_84 : decode cX4_fewestOf 84 = .ok (.goto (-74), 3) := by decide +kernel
theorem dX4_fewestOf_87 : decode cX4_fewestOf 87 = .ok (.iload 4, 2) := by decide +kernel
theorem dX4_fewestOf_89 : decode cX4_fewestOf 89 = .ok (.ireturn, 1) := by decide +kernel
theorem dX4_mostSenses_0 : decode cX4_mostSenses 0 = .ok (.iconst 0, 1) := by decide +kernel
theorem dX4_mostSenses_1 : decode cX4_mostSenses 1 = .ok (.istore 4, 2) := by decide +kernel
theorem dX4_mostSenses_3 : decode cX4_mostSenses 3 = .ok (.iconst 0, 1) := by decide +kernel
theorem dX4_mostSenses_4 : decode cX4_mostSenses 4 = .ok (.istore 5, 2) := by decide +kernel
theorem dX4_mostSenses_6 : decode cX4_mostSenses 6 = .ok (.iload 5, 2) := by decide +kernel
theorem dX4_mostSenses_8 : decode cX4_mostSenses 8 = .ok (.iload_n 1, 1) := by decide +kernel
theorem dX4_mostSenses_9 : decode cX4_mostSenses 9 = .ok (.if_icmp .gt 48, 3) := by decide +kernel
theorem dX4_mostSenses_12 : decode cX4_mostSenses 12 = .ok (.iload 5, 2) := by decide +kernel
theorem dX4_mostSenses_14 : decode cX4_mostSenses 14 = .ok (.iload_n 1, 1) := by decide +kernel
theorem dX4_mostSenses_15 : decode cX4_mostSenses 15 = .ok (.iconst (-1), 1) := by decide +kernel
theorem dX4_mostSenses_16 : decode cX4_mostSenses 16 = .ok (.ixor, 1) := by decide +kernel
theorem dX4_mostSenses_17 : decode cX4_mostSenses 17 = .ok (.iand, 1) := by decide +kernel
theorem dX4_mostSenses_18 : decode cX4_mostSenses 18 = .ok (.ifCond .ne 33, 3) := by decide +kernel
theorem dX4_mostSenses_21 : decode cX4_mostSenses 21 = .ok (.iload 5, 2) := by decide +kernel
theorem dX4_mostSenses_23 : decode cX4_mostSenses 23 = .ok (.invokestatic 37, 3) := by decide +kernel
theorem dX4_mostSenses_26 : decode cX4_mostSenses 26 = .ok (.iload_n 3, 1) := by decide +kernel
theorem dX4_mostSenses_27 : decode cX4_mostSenses 27 = .ok (.if_icmp .gt 24, 3) := by decide +kernel
theorem dX4_mostSenses_30 : decode cX4_mostSenses 30 = .ok (.iload 4, 2) := by decide +kernel
theorem dX4_mostSenses_32 : decode cX4_mostSenses 32 = .ok (.iload_n 2, 1) := by decide +kernel
theorem dX4_mostSenses_33 : decode cX4_mostSenses 33 = .ok (.aload_n 0, 1) := by decide +kernel
theorem dX4_mostSenses_34 : decode cX4_mostSenses 34 = .ok (.getfield 15, 3) := by decide +kernel
theorem dX4_mostSenses_37 : decode cX4_mostSenses 37 = .ok (.iload 5, 2) := by decide +kernel
theorem dX4_mostSenses_39 : decode cX4_mostSenses 39 = .ok (.invokevirtual 54, 3) := by decide +kernel
theorem dX4_mostSenses_42 : decode cX4_mostSenses 42 = .ok (.iand, 1) := by decide +kernel
theorem dX4_mostSenses_43 : decode cX4_mostSenses 43 = .ok (.invokestatic 37, 3) := by decide +kernel
theorem dX4_mostSenses_46 : decode cX4_mostSenses 46 = .ok (.invokestatic 57, 3) := by decide +kernel
theorem dX4_mostSenses_49 : decode cX4_mostSenses 49 = .ok (.istore 4, 2) := by decide +kernel
theorem dX4_mostSenses_51 : decode cX4_mostSenses 51 = .ok (.iinc 5 1, 3) := by decide +kernel
theorem dX4_mostSenses_54 : decode cX4_mostSenses 54 = .ok (.goto (-48), 3) := by decide +kernel
theorem dX4_mostSenses_57 : decode cX4_mostSenses 57 = .ok (.iload 4, 2) := by decide +kernel
theorem dX4_mostSenses_59 : decode cX4_mostSenses 59 = .ok (.ireturn, 1) := by decide +kernel
theorem dX5_init_0 : decode cX5_init 0 = .ok (.aload_n 0, 1) := by decide +kernel
theorem dX5_init_1 : decode cX5_init 1 = .ok (.invokespecial 3, 3) := by decide +kernel
theorem dX5_init_4 : decode cX5_init 4 = .ok (.aload_n 0, 1) := by decide +kernel
theorem dX5_init_5 : decode cX5_init 5 = .ok (.iconst 0, 1) := by decide +kernel
theorem dX5_init_6 : decode cX5_init 6 = .ok (.putfield 9, 3) := by decide +kernel
theorem dX5_init_9 : decode cX5_init 9 = .ok (.aload_n 0, 1) := by decide +kernel
theorem dX5_init_10 : decode cX5_init 10 = .ok (.new 15, 3) := by decide +kernel
theorem dX5_init_13 : decode cX5_init 13 = .ok (.dup, 1) := by decide +kernel
theorem dX5_init_14 : decode cX5_init 14 = .ok (.invokespecial 17, 3) := by decide +kernel
theorem dX5_init_17 : decode cX5_init 17 = .ok (.putfield 18, 3) := by decide +kernel
theorem dX5_init_20 : decode cX5_init 20 = .ok (.aload_n 0, 1) := by decide +kernel
theorem dX5_init_21 : decode cX5_init 21 = .ok (.new 22, 3) := by decide +kernel
theorem dX5_init_24 : decode cX5_init 24 = .ok (.dup, 1) := by decide +kernel
theorem dX5_init_25 : decode cX5_init 25 = .ok (.invokespecial 24, 3) := by decide +kernel
theorem dX5_init_28 : decode cX5_init 28 = .ok (.putfield 25, 3) := by decide +kernel
theorem dX5_init_31 : decode cX5_init 31 = .ok (.return_, 1) := by decide +kernel
theorem dX6_init_0 : decode cX6_init 0 = .ok (.aload_n 0, 1) := by decide +kernel
theorem dX6_init_1 : decode cX6_init 1 = .ok (.invokespecial 1, 3) := by decide +kernel
theorem dX6_init_4 : decode cX6_init 4 = .ok (.return_, 1) := by decide +kernel
theorem dX6_becomes_0 : decode cX6_becomes 0 = .ok (.aload_n 0, 1) := by decide +kernel
theorem dX6_becomes_1 : decode cX6_becomes 1 = .ok (.aload_n 1, 1) := by decide +kernel
theorem dX6_becomes_2 : decode cX6_becomes 2 = .ok (.getfield 7, 3) := by decide +kernel
theorem dX6_becomes_5 : decode cX6_becomes 5 = .ok (.putfield 7, 3) := by decide +kernel
theorem dX6_becomes_8 : decode cX6_becomes 8 = .ok (.aload_n 0, 1) := by decide +kernel
theorem dX6_becomes_9 : decode cX6_becomes 9 = .ok (.aload_n 1, 1) := by decide +kernel
theorem dX6_becomes_10 : decode cX6_becomes 10 = .ok (.getfield 13, 3) := by decide +kernel
theorem dX6_becomes_13 : decode cX6_becomes 13 = .ok (.putfield 13, 3) := by decide +kernel
theorem dX6_becomes_16 : decode cX6_becomes 16 = .ok (.return_, 1) := by decide +kernel
theorem dX7_init_0 : decode cX7_init 0 = .ok (.aload_n 0, 1) := by decide +kernel
theorem dX7_init_1 : decode cX7_init 1 = .ok (.invokespecial 3, 3) := by decide +kernel
theorem dX7_init_4 : decode cX7_init 4 = .ok (.return_, 1) := by decide +kernel
theorem dX7_becomes_0 : decode cX7_becomes 0 = .ok (.aload_n 0, 1) := by decide +kernel
theorem dX7_becomes_1 : decode cX7_becomes 1 = .ok (.aload_n 1, 1) := by decide +kernel
theorem dX7_becomes_2 : decode cX7_becomes 2 = .ok (.getfield 9, 3) := by decide +kernel
theorem dX7_becomes_5 : decode cX7_becomes 5 = .ok (.putfield 9, 3) := by decide +kernel
theorem dX7_becomes_8 : decode cX7_becomes 8 = .ok (.aload_n 0, 1) := by decide +kernel
theorem dX7_becomes_9 : decode cX7_becomes 9 = .ok (.aload_n 1, 1) := by decide +kernel
theorem dX7_becomes_10 : decode cX7_becomes 10 = .ok (.getfield 15, 3) := by decide +kernel
theorem dX7_becomes_13 : decode cX7_becomes 13 = .ok (.putfield 15, 3) := by decide +kernel
theorem dX7_becomes_16 : decode cX7_becomes 16 = .ok (.aload_n 0, 1) := by decide +kernel
theorem dX7_becomes_17 : decode cX7_becomes 17 = .ok (.aload_n 1, 1) := by decide +kernel
theorem dX7_becomes_18 : decode cX7_becomes 18 = .ok (.getfield 18, 3) := by decide +kernel
theorem dX7_becomes_21 : decode cX7_becomes 21 = .ok (.putfield 18, 3) := by decide +kernel
theorem dX7_becomes_24 : decode cX7_becomes 24 = .ok (.aload_n 0, 1) := by decide +kernel
theorem dX7_becomes_25 : decode cX7_becomes 25 = .ok (.aload_n 1, 1) := by decide +kernel
theorem dX7_becomes_26 : decode cX7_becomes 26 = .ok (.getfield 21, 3) := by decide +kernel
theorem dX7_becomes_29 : decode cX7_becomes 29 = .ok (.putfield 21, 3) := by decide +kernel
theorem dX7_becomes_32 : decode cX7_becomes 32 = .ok (.aload_n 0, 1) := by decide +kernel
theorem dX7_becomes_33 : decode cX7_becomes 33 = .ok (.aload_n 1, 1) := by decide +kernel
theorem dX7_becomes_34 : decode cX7_becomes 34 = .ok (.getfield 24, 3) := by decide +kernel
theorem dX7_becomes_37 : decode cX7_becomes 37 = .ok (.putfield 24, 3) := by decide +kernel
theorem dX7_becomes_40 : decode cX7_becomes 40 = .ok (.aload_n 0, 1) := by decide +kernel
theorem dX7_becomes_41 : decode cX7_becomes 41 = .ok (.aload_n 1, 1) := by decide +kernel
theorem dX7_becomes_42 : decode cX7_becomes 42 = .ok (.getfield 27, 3) := by decide +kernel
theorem dX7_becomes_45 : decode cX7_becomes 45 = .ok (.putfield 27, 3) := by decide +kernel
theorem dX7_becomes_48 : decode cX7_becomes 48 = .ok (.return_, 1) := by decide +kernel
theorem dX7_isOf_0 : decode cX7_isOf 0 = .ok (.iload_n 1, 1) := by decide +kernel
theorem dX7_isOf_1 : decode cX7_isOf 1 = .ok (.ifCond .eq 23, 3) := by decide +kernel
theorem dX7_isOf_4 : decode cX7_isOf 4 = .ok (.iload_n 1, 1) := by decide +kernel
theorem dX7_isOf_5 : decode cX7_isOf 5 = .ok (.aload_n 0, 1) := by decide +kernel
theorem dX7_isOf_6 : decode cX7_isOf 6 = .ok (.getfield 9, 3) := by decide +kernel
theorem dX7_isOf_9 : decode cX7_isOf 9 = .ok (.if_icmp .eq 15, 3) := by decide +kernel
theorem dX7_isOf_12 : decode cX7_isOf 12 = .ok (.iload_n 1, 1) := by decide +kernel
theorem dX7_isOf_13 : decode cX7_isOf 13 = .ok (.getstatic 30, 3) := by decide +kernel
theorem dX7_isOf_16 : decode cX7_isOf 16 = .ok (.aload_n 0, 1) := by decide +kernel
theorem dX7_isOf_17 : decode cX7_isOf 17 = .ok (.getfield 9, 3) := by decide +kernel
theorem dX7_isOf_20 : decode cX7_isOf 20 = .ok (.iaload, 1) := by decide +kernel
theorem dX7_isOf_21 : decode cX7_isOf 21 = .ok (.if_icmp .ne 7, 3) := by decide +kernel
theorem dX7_isOf_24 : decode cX7_isOf 24 = .ok (.iconst 1, 1) := by decide +kernel
theorem dX7_isOf_25 : decode cX7_isOf 25 = .ok (.goto 4, 3) := by decide +kernel
theorem dX7_isOf_28 : decode cX7_isOf 28 = .ok (.iconst 0, 1) := by decide +kernel
theorem dX7_isOf_29 : decode cX7_isOf 29 = .ok (.ireturn, 1) := by decide +kernel
theorem dX7_costs_0 : decode cX7_costs 0 = .ok (.aload_n 0, 1) := by decide +kernel
theorem dX7_costs_1 : decode cX7_costs 1 = .ok (.getfield 27, 3) := by decide +kernel
theorem dX7_costs_4 : decode cX7_costs 4 = .ok (.aload_n 0, 1) := by decide +kernel
theorem dX7_costs_5 : decode cX7_costs 5 = .ok (.getfield 21, 3) := by decide +kernel
theorem dX7_costs_8 : decode cX7_costs 8 = .ok (.iconst 2, 1) := by decide +kernel
theorem dX7_costs_9 : decode cX7_costs 9 = .ok (.idiv, 1) := by decide +kernel
theorem dX7_costs_10 : decode cX7_costs 10 = .ok (.if_icmp .lt 9, 3) := by decide +kernel
theorem dX7_costs_13 : decode cX7_costs 13 = .ok (.iconst 2, 1) := by decide +kernel
theorem dX7_costs_14 : decode cX7_costs 14 = .ok (.iload_n 1, 1) := by decide +kernel
theorem dX7_costs_15 : decode cX7_costs 15 = .ok (.imul, 1) := by decide +kernel
theorem dX7_costs_16 : decode cX7_costs 16 = .ok (.goto 4, 3) := by decide +kernel
theorem dX7_costs_19 : decode cX7_costs 19 = .ok (.iload_n 1, 1) := by decide +kernel
theorem dX7_costs_20 : decode cX7_costs 20 = .ok (.istore_n 2, 1) := by decide +kernel
theorem dX7_costs_21 : decode cX7_costs 21 = .ok (.iload_n 1, 1) := by decide +kernel
theorem dX7_costs_22 : decode cX7_costs 22 = .ok (.iconst 2, 1) := by decide +kernel
theorem dX7_costs_23 : decode cX7_costs 23 = .ok (.idiv, 1) := by decide +kernel
theorem dX7_costs_24 : decode cX7_costs 24 = .ok (.istore_n 3, 1) := by decide +kernel
theorem dX7_costs_25 : decode cX7_costs 25 = .ok (.aload_n 0, 1) := by decide +kernel
theorem dX7_costs_26 : decode cX7_costs 26 = .ok (.getfield 9, 3) := by decide +kernel
theorem dX7_costs_29 : decode cX7_costs 29 = .ok (.tableswitch 53 1 5 #[35, 41, 37, 43, 51], 35) := by decide +kernel
theorem dX7_costs_64 : decode cX7_costs 64 = .ok (.iload_n 2, 1) := by decide +kernel
theorem dX7_costs_65 : decode cX7_costs 65 = .ok (.ireturn, 1) := by decide +kernel
theorem dX7_costs_66 : decode cX7_costs 66 = .ok (.iload_n 2, 1) := by decide +kernel
theorem dX7_costs_67 : decode cX7_costs 67 = .ok (.iconst 3, 1) := by decide +kernel
theorem dX7_costs_68 : decode cX7_costs 68 = .ok (.iadd, 1) := by decide +kernel
theorem dX7_costs_69 : decode cX7_costs 69 = .ok (.ireturn, 1) := by decide +kernel
theorem dX7_costs_70 : decode cX7_costs 70 = .ok (.iload_n 3, 1) := by decide +kernel
theorem dX7_costs_71 : decode cX7_costs 71 = .ok (.ireturn, 1) := by decide +kernel
theorem dX7_costs_72 : decode cX7_costs 72 = .ok (.iconst 0, 1) := by decide +kernel
theorem dX7_costs_73 : decode cX7_costs 73 = .ok (.iload_n 3, 1) := by decide +kernel
theorem dX7_costs_74 : decode cX7_costs 74 = .ok (.iconst 2, 1) := by decide +kernel
theorem dX7_costs_75 : decode cX7_costs 75 = .ok (.isub, 1) := by decide +kernel
theorem dX7_costs_76 : decode cX7_costs 76 = .ok (.invokestatic 34, 3) := by decide +kernel
theorem dX7_costs_79 : decode cX7_costs 79 = .ok (.ireturn, 1) := by decide +kernel
theorem dX7_costs_80 : decode cX7_costs 80 = .ok (.iconst 0, 1) := by decide +kernel
theorem dX7_costs_81 : decode cX7_costs 81 = .ok (.ireturn, 1) := by decide +kernel
theorem dX7_costs_82 : decode cX7_costs 82 = .ok (.iload_n 1, 1) := by decide +kernel
theorem dX7_costs_83 : decode cX7_costs 83 = .ok (.ireturn, 1) := by decide +kernel
theorem dX7_worth_0 : decode cX7_worth 0 = .ok (.aload_n 0, 1) := by decide +kernel
theorem dX7_worth_1 : decode cX7_worth 1 = .ok (.getfield 9, 3) := by decide +kernel
theorem dX7_worth_4 : decode cX7_worth 4 = .ok (.tableswitch 80 1 5 #[36, 54, 44, 62, 72], 36) := by decide +kernel
theorem dX7_worth_40 : decode cX7_worth 40 = .ok (.aload_n 0, 1) := by decide +kernel
theorem dX7_worth_41 : decode cX7_worth 41 = .ok (.getfield 18, 3) := by decide +kernel
theorem dX7_worth_44 : decode cX7_worth 44 = .ok (.bipush 6, 2) := by decide +kernel
theorem dX7_worth_46 : decode cX7_worth 46 = .ok (.iadd, 1) := by decide +kernel
theorem dX7_worth_47 : decode cX7_worth 47 = .ok (.ireturn, 1) := by decide +kernel
theorem dX7_worth_48 : decode cX7_worth 48 = .ok (.iconst 2, 1) := by decide +kernel
theorem dX7_worth_49 : decode cX7_worth 49 = .ok (.aload_n 0, 1) := by decide +kernel
theorem dX7_worth_50 : decode cX7_worth 50 = .ok (.getfield 18, 3) := by decide +kernel
theorem dX7_worth_53 : decode cX7_worth 53 = .ok (.bipush 6, 2) := by decide +kernel
theorem dX7_worth_55 : decode cX7_worth 55 = .ok (.iadd, 1) := by decide +kernel
theorem dX7_worth_56 : decode cX7_worth 56 = .ok (.imul, 1) := by decide +kernel
theorem dX7_worth_57 : decode cX7_worth 57 = .ok (.ireturn, 1) := by decide +kernel
theorem dX7_worth_58 : decode cX7_worth 58 = .ok (.bipush 99, 2) := by decide +kernel
theorem dX7_worth_60 : decode cX7_worth 60 = .ok (.aload_n 0, 1) := by decide +kernel
theorem dX7_worth_61 : decode cX7_worth 61 = .ok (.getfield 18, 3) := by decide +kernel
theorem dX7_worth_64 : decode cX7_worth 64 = .ok (.isub, 1) := by decide +kernel
theorem dX7_worth_65 : decode cX7_worth 65 = .ok (.ireturn, 1) := by decide +kernel
theorem dX7_worth_66 : decode cX7_worth 66 = .ok (.bipush 99, 2) := by decide +kernel
theorem dX7_worth_68 : decode cX7_worth 68 = .ok (.aload_n 0, 1) := by decide +kernel
theorem dX7_worth_69 : decode cX7_worth 69 = .ok (.getfield 18, 3) := by decide +kernel
theorem dX7_worth_72 : decode cX7_worth 72 = .ok (.isub, 1) := by decide +kernel
theorem dX7_worth_73 : decode cX7_worth 73 = .ok (.iconst 5, 1) := by decide +kernel
theorem dX7_worth_74 : decode cX7_worth 74 = .ok (.isub, 1) := by decide +kernel
theorem dX7_worth_75 : decode cX7_worth 75 = .ok (.ireturn, 1) := by decide +kernel
theorem dX7_worth_76 : decode cX7_worth 76 = .ok (.aload_n 0, 1) := by decide +kernel
theorem dX7_worth_77 : decode cX7_worth 77 = .ok (.getfield 15, 3) := by decide +kernel
theorem dX7_worth_80 : decode cX7_worth 80 = .ok (.invokestatic 40, 3) := by decide +kernel
theorem dX7_worth_83 : decode cX7_worth 83 = .ok (.ireturn, 1) := by decide +kernel
theorem dX7_worth_84 : decode cX7_worth 84 = .ok (.aload_n 0, 1) := by decide +kernel
theorem dX7_worth_85 : decode cX7_worth 85 = .ok (.getfield 18, 3) := by decide +kernel
theorem dX7_worth_88 : decode cX7_worth 88 = .ok (.ireturn, 1) := by decide +kernel
theorem dX8_init_0 : decode cX8_init 0 = .ok (.aload_n 0, 1) := by decide +kernel
theorem dX8_init_1 : decode cX8_init 1 = .ok (.invokespecial 1, 3) := by decide +kernel
theorem dX8_init_4 : decode cX8_init 4 = .ok (.aload_n 0, 1) := by decide +kernel
theorem dX8_init_5 : decode cX8_init 5 = .ok (.new 7, 3) := by decide +kernel
theorem dX8_init_8 : decode cX8_init 8 = .ok (.dup, 1) := by decide +kernel
theorem dX8_init_9 : decode cX8_init 9 = .ok (.invokespecial 9, 3) := by decide +kernel
theorem dX8_init_12 : decode cX8_init 12 = .ok (.putfield 10, 3) := by decide +kernel
theorem dX8_init_15 : decode cX8_init 15 = .ok (.aload_n 0, 1) := by decide +kernel
theorem dX8_init_16 : decode cX8_init 16 = .ok (.new 16, 3) := by decide +kernel
theorem dX8_init_19 : decode cX8_init 19 = .ok (.dup, 1) := by decide +kernel
theorem dX8_init_20 : decode cX8_init 20 = .ok (.aload_n 0, 1) := by decide +kernel
theorem dX8_init_21 : decode cX8_init 21 = .ok (.getfield 10, 3) := by decide +kernel
theorem dX8_init_24 : decode cX8_init 24 = .ok (.invokespecial 18, 3) := by decide +kernel
theorem dX8_init_27 : decode cX8_init 27 = .ok (.putfield 21, 3) := by decide +kernel
theorem dX8_init_30 : decode cX8_init 30 = .ok (.aload_n 0, 1) := by decide +kernel
theorem dX8_init_31 : decode cX8_init 31 = .ok (.new 16, 3) := by decide +kernel
theorem dX8_init_34 : decode cX8_init 34 = .ok (.dup, 1) := by decide +kernel
theorem dX8_init_35 : decode cX8_init 35 = .ok (.aload_n 0, 1) := by decide +kernel
theorem dX8_init_36 : decode cX8_init 36 = .ok (.getfield 10, 3) := by decide +kernel
theorem dX8_init_39 : decode cX8_init 39 = .ok (.invokespecial 18, 3) := by decide +kernel
theorem dX8_init_42 : decode cX8_init 42 = .ok (.putfield 25, 3) := by decide +kernel
theorem dX8_init_45 : decode cX8_init 45 = .ok (.aload_n 0, 1) := by decide +kernel
theorem dX8_init_46 : decode cX8_init 46 = .ok (.new 16, 3) := by decide +kernel
theorem dX8_init_49 : decode cX8_init 49 = .ok (.dup, 1) := by decide +kernel
theorem dX8_init_50 : decode cX8_init 50 = .ok (.aload_n 0, 1) := by decide +kernel
theorem dX8_init_51 : decode cX8_init 51 = .ok (.getfield 10, 3) := by decide +kernel
theorem dX8_init_54 : decode cX8_init 54 = .ok (.invokespecial 18, 3) := by decide +kernel
theorem dX8_init_57 : decode cX8_init 57 = .ok (.putfield 28, 3) := by decide +kernel
theorem dX8_init_60 : decode cX8_init 60 = .ok (.aload_n 0, 1) := by decide +kernel
theorem dX8_init_61 : decode cX8_init 61 = .ok (.new 31, 3) := by decide +kernel
theorem dX8_init_64 : decode cX8_init 64 = .ok (.dup, 1) := by decide +kernel
theorem dX8_init_65 : decode cX8_init 65 = .ok (.aload_n 0, 1) := by decide +kernel
theorem dX8_init_66 : decode cX8_init 66 = .ok (.getfield 21, 3) := by decide +kernel
theorem dX8_init_69 : decode cX8_init 69 = .ok (.invokespecial 33, 3) := by decide +kernel
theorem dX8_init_72 : decode cX8_init 72 = .ok (.putfield 36, 3) := by decide +kernel
theorem dX8_init_75 : decode cX8_init 75 = .ok (.aload_n 0, 1) := by decide +kernel
theorem dX8_init_76 : decode cX8_init 76 = .ok (.bipush 96, 2) := by decide +kernel
theorem dX8_init_78 : decode cX8_init 78 = .ok (.newarray .int, 2) := by decide +kernel
theorem dX8_init_80 : decode cX8_init 80 = .ok (.putfield 40, 3) := by decide +kernel
theorem dX8_init_83 : decode cX8_init 83 = .ok (.aload_n 0, 1) := by decide +kernel
theorem dX8_init_84 : decode cX8_init 84 = .ok (.new 44, 3) := by decide +kernel
theorem dX8_init_87 : decode cX8_init 87 = .ok (.dup, 1) := by decide +kernel
theorem dX8_init_88 : decode cX8_init 88 = .ok (.aload_n 0, 1) := by decide +kernel
theorem dX8_init_89 : decode cX8_init 89 = .ok (.getfield 40, 3) := by decide +kernel
theorem dX8_init_92 : decode cX8_init 92 = .ok (.invokespecial 46, 3) := by decide +kernel
theorem dX8_init_95 : decode cX8_init 95 = .ok (.putfield 49, 3) := by decide +kernel
theorem dX8_init_98 : decode cX8_init 98 = .ok (.aload_n 0, 1) := by decide +kernel
theorem dX8_init_99 : decode cX8_init 99 = .ok (.iconst 4, 1) := by decide +kernel
theorem dX8_init_100 : decode cX8_init 100 = .ok (.anewarray 53, 3) := by decide +kernel
theorem dX8_init_103 : decode cX8_init 103 = .ok (.putfield 55, 3) := by decide +kernel
theorem dX8_init_106 : decode cX8_init 106 = .ok (.aload_n 0, 1) := by decide +kernel
theorem dX8_init_107 : decode cX8_init 107 = .ok (.iconst 5, 1) := by decide +kernel
theorem dX8_init_108 : decode cX8_init 108 = .ok (.anewarray 59, 3) := by decide +kernel
theorem dX8_init_111 : decode cX8_init 111 = .ok (.putfield 61, 3) := by decide +kernel
theorem dX8_init_114 : decode cX8_init 114 = .ok (.aload_n 0, 1) := by decide +kernel
theorem dX8_init_115 : decode cX8_init 115 = .ok (.bipush 60, 2) := by decide +kernel
theorem dX8_init_117 : decode cX8_init 117 = .ok (.newarray .int, 2) := by decide +kernel
theorem dX8_init_119 : decode cX8_init 119 = .ok (.putfield 65, 3) := by decide +kernel
theorem dX8_init_122 : decode cX8_init 122 = .ok (.iconst 0, 1) := by decide +kernel
theorem dX8_init_123 : decode cX8_init 123 = .ok (.istore_n 1, 1) := by decide +kernel
theorem dX8_init_124 : decode cX8_init 124 = .ok (.iload_n 1, 1) := by decide +kernel
theorem dX8_init_125 : decode cX8_init 125 = .ok (.iconst 4, 1) := by decide +kernel
theorem dX8_init_126 : decode cX8_init 126 = .ok (.if_icmp .ge 22, 3) := by decide +kernel
theorem dX8_init_129 : decode cX8_init 129 = .ok (.aload_n 0, 1) := by decide +kernel
theorem dX8_init_130 : decode cX8_init 130 = .ok (.getfield 55, 3) := by decide +kernel
theorem dX8_init_133 : decode cX8_init 133 = .ok (.iload_n 1, 1) := by decide +kernel
theorem dX8_init_134 : decode cX8_init 134 = .ok (.new 53, 3) := by decide +kernel
theorem dX8_init_137 : decode cX8_init 137 = .ok (.dup, 1) := by decide +kernel
theorem dX8_init_138 : decode cX8_init 138 = .ok (.invokespecial 68, 3) := by decide +kernel
theorem dX8_init_141 : decode cX8_init 141 = .ok (.aastore, 1) := by decide +kernel
theorem dX8_init_142 : decode cX8_init 142 = .ok (.iinc 1 1, 3) := by decide +kernel
theorem dX8_init_145 : decode cX8_init 145 = .ok (.goto (-21), 3) := by decide +kernel
theorem dX8_init_148 : decode cX8_init 148 = .ok (.iconst 0, 1) := by decide +kernel
theorem dX8_init_149 : decode cX8_init 149 = .ok (.istore_n 1, 1) := by decide +kernel
theorem dX8_init_150 : decode cX8_init 150 = .ok (.iload_n 1, 1) := by decide +kernel
theorem dX8_init_151 : decode cX8_init 151 = .ok (.iconst 5, 1) := by decide +kernel
theorem dX8_init_152 : decode cX8_init 152 = .ok (.if_icmp .ge 22, 3) := by decide +kernel
theorem dX8_init_155 : decode cX8_init 155 = .ok (.aload_n 0, 1) := by decide +kernel
theorem dX8_init_156 : decode cX8_init 156 = .ok (.getfield 61, 3) := by decide +kernel
theorem dX8_init_159 : decode cX8_init 159 = .ok (.iload_n 1, 1) := by decide +kernel
theorem dX8_init_160 : decode cX8_init 160 = .ok (.new 59, 3) := by decide +kernel
theorem dX8_init_163 : decode cX8_init 163 = .ok (.dup, 1) := by decide +kernel
theorem dX8_init_164 : decode cX8_init 164 = .ok (.invokespecial 69, 3) := by decide +kernel
theorem dX8_init_167 : decode cX8_init 167 = .ok (.aastore, 1) := by decide +kernel
theorem dX8_init_168 : decode cX8_init 168 = .ok (.iinc 1 1, 3) := by decide +kernel
theorem dX8_init_171 : decode cX8_init 171 = .ok (.goto (-21), 3) := by decide +kernel
theorem dX8_init_174 : decode cX8_init 174 = .ok (.return_, 1) := by decide +kernel
theorem dX8_word_0 : decode cX8_word 0 = .ok (.iload_n 1, 1) := by decide +kernel
theorem dX8_word_1 : decode cX8_word 1 = .ok (.invokestatic 70, 3) := by decide +kernel
theorem dX8_word_4 : decode cX8_word 4 = .ok (.ifCond .eq 39, 3) := by decide +kernel
theorem dX8_word_7 : decode cX8_word 7 = .ok (.iload_n 2, 1) := by decide +kernel
theorem dX8_word_8 : decode cX8_word 8 = .ok (.iconst 1, 1) := by decide +kernel
theorem dX8_word_9 : decode cX8_word 9 = .ok (.sipush 255, 3) := by decide +kernel
theorem dX8_word_12 : decode cX8_word 12 = .ok (.invokestatic 74, 3) := by decide +kernel
theorem dX8_word_15 : decode cX8_word 15 = .ok (.ifCond .eq 28, 3) := by decide +kernel
theorem dX8_word_18 : decode cX8_word 18 = .ok (.iload_n 3, 1) := by decide +kernel
theorem dX8_word_19 : decode cX8_word 19 = .ok (.iconst 0, 1) := by decide +kernel
theorem dX8_word_20 : decode cX8_word 20 = .ok (.bipush 99, 2) := by decide +kernel
theorem dX8_word_22 : decode cX8_word 22 = .ok (.invokestatic 74, 3) := by decide +kernel
theorem dX8_word_25 : decode cX8_word 25 = .ok (.ifCond .eq 18, 3) := by decide +kernel
theorem dX8_word_28 : decode cX8_word 28 = .ok (.iload 4, 2) := by decide +kernel
theorem dX8_word_30 : decode cX8_word 30 = .ok (.iconst 0, 1) := by decide +kernel
theorem dX8_word_31 : decode cX8_word 31 = .ok (.bipush 99, 2) := by decide +kernel
theorem dX8_word_33 : decode cX8_word 33 = .ok (.invokestatic 74, 3) := by decide +kernel
theorem dX8_word_36 : decode cX8_word 36 = .ok (.ifCond .eq 7, 3) := by decide +kernel
theorem dX8_word_39 : decode cX8_word 39 = .ok (.iconst 1, 1) := by decide +kernel
theorem dX8_word_40 : decode cX8_word 40 = .ok (.goto 4, 3) := by decide +kernel
theorem dX8_word_43 : decode cX8_word 43 = .ok (.iconst 0, 1) := by decide +kernel
theorem dX8_word_44 : decode cX8_word 44 = .ok (.istore 5, 2) := by decide +kernel
theorem dX8_word_46 : decode cX8_word 46 = .ok (.iload 5, 2) := by decide +kernel
theorem dX8_word_48 : decode cX8_word 48 = .ok (.ifCond .ne 6, 3) := by decide +kernel
theorem dX8_word_51 : decode cX8_word 51 = .ok (.ldc 78, 2) := by decide +kernel
theorem dX8_word_53 : decode cX8_word 53 = .ok (.ireturn, 1) := by decide +kernel
theorem dX8_word_54 : decode cX8_word 54 = .ok (.aload_n 0, 1) := by decide +kernel
theorem dX8_word_55 : decode cX8_word 55 = .ok (.getfield 21, 3) := by decide +kernel
theorem dX8_word_58 : decode cX8_word 58 = .ok (.getfield 79, 3) := by decide +kernel
theorem dX8_word_61 : decode cX8_word 61 = .ok (.bipush 10, 2) := by decide +kernel
theorem dX8_word_63 : decode cX8_word 63 = .ok (.if_icmp .lt 6, 3) := by decide +kernel
theorem dX8_word_66 : decode cX8_word 66 = .ok (.ldc 83, 2) := by decide +kernel
theorem dX8_word_68 : decode cX8_word 68 = .ok (.ireturn, 1) := by decide +kernel
theorem dX8_word_69 : decode cX8_word 69 = .ok (.aload_n 0, 1) := by decide +kernel
theorem dX8_word_70 : decode cX8_word 70 = .ok (.getfield 21, 3) := by decide +kernel
theorem dX8_word_73 : decode cX8_word 73 = .ok (.iload_n 1, 1) := by decide +kernel
theorem dX8_word_74 : decode cX8_word 74 = .ok (.iload_n 2, 1) := by decide +kernel
theorem dX8_word_75 : decode cX8_word 75 = .ok (.iload_n 3, 1) := by decide +kernel
theorem dX8_word_76 : decode cX8_word 76 = .ok (.iload 4, 2) := by decide +kernel
theorem dX8_word_78 : decode cX8_word 78 = .ok (.invokevirtual 84, 3) := by decide +kernel
theorem dX8_word_81 : decode cX8_word 81 = .ok (.ireturn, 1) := by decide +kernel
theorem dX8_told_0 : decode cX8_told 0 = .ok (.aload_n 0, 1) := by decide +kernel
theorem dX8_told_1 : decode cX8_told 1 = .ok (.getfield 21, 3) := by decide +kernel
theorem dX8_told_4 : decode cX8_told 4 = .ok (.iload_n 1, 1) := by decide +kernel
theorem dX8_told_5 : decode cX8_told 5 = .ok (.invokevirtual 88, 3) := by decide +kernel
theorem dX8_told_8 : decode cX8_told 8 = .ok (.ifCond .ne 6, 3) := by decide +kernel
theorem dX8_told_11 : decode cX8_told 11 = .ok (.ldc 78, 2) := by decide +kernel
theorem dX8_told_13 : decode cX8_told 13 = .ok (.ireturn, 1) := by decide +kernel
theorem dX8_told_14 : decode cX8_told 14 = .ok (.aload_n 0, 1) := by decide +kernel
theorem dX8_told_15 : decode cX8_told 15 = .ok (.getfield 21, 3) := by decide +kernel
theorem dX8_told_18 : decode cX8_told 18 = .ok (.getfield 91, 3) := by decide +kernel
theorem dX8_told_21 : decode cX8_told 21 = .ok (.iload_n 1, 1) := by decide +kernel
theorem dX8_told_22 : decode cX8_told 22 = .ok (.aaload, 1) := by decide +kernel
theorem dX8_told_23 : decode cX8_told 23 = .ok (.astore_n 3, 1) := by decide +kernel
theorem dX8_told_24 : decode cX8_told 24 = .ok (.iload_n 2, 1) := by decide +kernel
theorem dX8_told_25 : decode cX8_told 25 = .ok (.tableswitch 107 0 8 #[51, 56, 61, 66, 71, 76, 81, 90, 95], 51) := by decide +kernel
theorem dX8_told_76 : decode cX8_told 76 = .ok (.aload_n 3, 1) := by decide +kernel
theorem dX8_told_77 : decode cX8_told 77 = .ok (.getfield 95, 3) := by decide +kernel
theorem dX8_told_80 : decode cX8_told 80 = .ok (.ireturn, 1) := by decide +kernel
theorem dX8_told_81 : decode cX8_told 81 = .ok (.aload_n 3, 1) := by decide +kernel
theorem dX8_told_82 : decode cX8_told 82 = .ok (.getfield 100, 3) := by decide +kernel
theorem dX8_told_85 : decode cX8_told 85 = .ok (.ireturn, 1) := by decide +kernel
theorem dX8_told_86 : decode cX8_told 86 = .ok (.aload_n 3, 1) := by decide +kernel
theorem dX8_told_87 : decode cX8_told 87 = .ok (.getfield 103, 3) := by decide +kernel
theorem dX8_told_90 : decode cX8_told 90 = .ok (.ireturn, 1) := by decide +kernel
theorem dX8_told_91 : decode cX8_told 91 = .ok (.aload_n 3, 1) := by decide +kernel
theorem dX8_told_92 : decode cX8_told 92 = .ok (.getfield 106, 3) := by decide +kernel
theorem dX8_told_95 : decode cX8_told 95 = .ok (.ireturn, 1) := by decide +kernel
theorem dX8_told_96 : decode cX8_told 96 = .ok (.aload_n 3, 1) := by decide +kernel
theorem dX8_told_97 : decode cX8_told 97 = .ok (.getfield 109, 3) := by decide +kernel
theorem dX8_told_100 : decode cX8_told 100 = .ok (.ireturn, 1) := by decide +kernel
theorem dX8_told_101 : decode cX8_told 101 = .ok (.aload_n 3, 1) := by decide +kernel
theorem dX8_told_102 : decode cX8_told 102 = .ok (.getfield 112, 3) := by decide +kernel
theorem dX8_told_105 : decode cX8_told 105 = .ok (.ireturn, 1) := by decide +kernel
theorem dX8_told_106 : decode cX8_told 106 = .ok (.aload_n 0, 1) := by decide +kernel
theorem dX8_told_107 : decode cX8_told 107 = .ok (.getfield 21, 3) := by decide +kernel
theorem dX8_told_110 : decode cX8_told 110 = .ok (.aload_n 3, 1) := by decide +kernel
theorem dX8_told_111 : decode cX8_told 111 = .ok (.invokevirtual 115, 3) := by decide +kernel
theorem dX8_told_114 : decode cX8_told 114 = .ok (.ireturn, 1) := by decide +kernel
theorem dX8_told_115 : decode cX8_told 115 = .ok (.aload_n 3, 1) := by decide +kernel
theorem dX8_told_116 : decode cX8_told 116 = .ok (.invokevirtual 119, 3) := by decide +kernel
theorem dX8_told_119 : decode cX8_told 119 = .ok (.ireturn, 1) := by decide +kernel
theorem dX8_told_120 : decode cX8_told 120 = .ok (.aload_n 0, 1) := by decide +kernel
theorem dX8_told_121 : decode cX8_told 121 = .ok (.getfield 21, 3) := by decide +kernel
theorem dX8_told_124 : decode cX8_told 124 = .ok (.getfield 123, 3) := by decide +kernel
theorem dX8_told_127 : decode cX8_told 127 = .ok (.iload_n 1, 1) := by decide +kernel
theorem dX8_told_128 : decode cX8_told 128 = .ok (.ishr, 1) := by decide +kernel
theorem dX8_told_129 : decode cX8_told 129 = .ok (.iconst 1, 1) := by decide +kernel
theorem dX8_told_130 : decode cX8_told 130 = .ok (.iand, 1) := by decide +kernel
theorem dX8_told_131 : decode cX8_told 131 = .ok (.ireturn, 1) := by decide +kernel
theorem dX8_told_132 : decode cX8_told 132 = .ok (.ldc 78, 2) := by decide +kernel
theorem dX8_told_134 : decode cX8_told 134 = .ok (.ireturn, 1) := by decide +kernel
theorem dX8_as_0 : decode cX8_as 0 = .ok (.aload_n 0, 1) := by decide +kernel
theorem dX8_as_1 : decode cX8_as 1 = .ok (.getfield 21, 3) := by decide +kernel
theorem dX8_as_4 : decode cX8_as 4 = .ok (.iload_n 1, 1) := by decide +kernel
theorem dX8_as_5 : decode cX8_as 5 = .ok (.invokevirtual 88, 3) := by decide +kernel
theorem dX8_as_8 : decode cX8_as 8 = .ok (.ifCond .eq 10, 3) := by decide +kernel
theorem dX8_as_11 : decode cX8_as 11 = .ok (.iload_n 2, 1) := by decide +kernel
theorem dX8_as_12 : decode cX8_as 12 = .ok (.invokestatic 70, 3) := by decide +kernel
theorem dX8_as_15 : decode cX8_as 15 = .ok (.ifCond .ne 6, 3) := by decide +kernel
theorem dX8_as_18 : decode cX8_as 18 = .ok (.ldc 78, 2) := by decide +kernel
theorem dX8_as_20 : decode cX8_as 20 = .ok (.ireturn, 1) := by decide +kernel
theorem dX8_as_21 : decode cX8_as 21 = .ok (.aload_n 0, 1) := by decide +kernel
theorem dX8_as_22 : decode cX8_as 22 = .ok (.getfield 21, 3) := by decide +kernel
theorem dX8_as_25 : decode cX8_as 25 = .ok (.getfield 91, 3) := by decide +kernel
theorem dX8_as_28 : decode cX8_as 28 = .ok (.iload_n 1, 1) := by decide +kernel
theorem dX8_as_29 : decode cX8_as 29 = .ok (.aaload, 1) := by decide +kernel
theorem dX8_as_30 : decode cX8_as 30 = .ok (.iload_n 2, 1) := by decide +kernel
theorem dX8_as_31 : decode cX8_as 31 = .ok (.invokevirtual 126, 3) := by decide +kernel
theorem dX8_as_34 : decode cX8_as 34 = .ok (.ifCond .eq 18, 3) := by decide +kernel
theorem dX8_as_37 : decode cX8_as 37 = .ok (.aload_n 0, 1) := by decide +kernel
theorem dX8_as_38 : decode cX8_as 38 = .ok (.getfield 21, 3) := by decide +kernel
theorem dX8_as_41 : decode cX8_as 41 = .ok (.getfield 91, 3) := by decide +kernel
theorem dX8_as_44 : decode cX8_as 44 = .ok (.iload_n 1, 1) := by decide +kernel
theorem dX8_as_45 : decode cX8_as 45 = .ok (.aaload, 1) := by decide +kernel
theorem dX8_as_46 : decode cX8_as 46 = .ok (.getfield 103, 3) := by decide +kernel
theorem dX8_as_49 : decode cX8_as 49 = .ok (.goto 5, 3) := by decide +kernel
theorem dX8_as_52 : decode cX8_as 52 = .ok (.ldc 129, 2) := by decide +kernel
theorem dX8_as_54 : decode cX8_as 54 = .ok (.ireturn, 1) := by decide +kernel
theorem dX8_turns_0 : decode cX8_turns 0 = .ok (.aload_n 0, 1) := by decide +kernel
theorem dX8_turns_1 : decode cX8_turns 1 = .ok (.getfield 21, 3) := by decide +kernel
theorem dX8_turns_4 : decode cX8_turns 4 = .ok (.iload_n 1, 1) := by decide +kernel
theorem dX8_turns_5 : decode cX8_turns 5 = .ok (.invokevirtual 88, 3) := by decide +kernel
theorem dX8_turns_8 : decode cX8_turns 8 = .ok (.ifCond .eq 10, 3) := by decide +kernel
theorem dX8_turns_11 : decode cX8_turns 11 = .ok (.iload_n 2, 1) := by decide +kernel
theorem dX8_turns_12 : decode cX8_turns 12 = .ok (.invokestatic 70, 3) := by decide +kernel
theorem dX8_turns_15 : decode cX8_turns 15 = .ok (.ifCond .ne 6, 3) := by decide +kernel
theorem dX8_turns_18 : decode cX8_turns 18 = .ok (.ldc 78, 2) := by decide +kernel
theorem dX8_turns_20 : decode cX8_turns 20 = .ok (.ireturn, 1) := by decide +kernel
theorem dX8_turns_21 : decode cX8_turns 21 = .ok (.aload_n 0, 1) := by decide +kernel
theorem dX8_turns_22 : decode cX8_turns 22 = .ok (.getfield 21, 3) := by decide +kernel
theorem dX8_turns_25 : decode cX8_turns 25 = .ok (.getfield 91, 3) := by decide +kernel
theorem dX8_turns_28 : decode cX8_turns 28 = .ok (.iload_n 1, 1) := by decide +kernel
theorem dX8_turns_29 : decode cX8_turns 29 = .ok (.aaload, 1) := by decide +kernel
theorem dX8_turns_30 : decode cX8_turns 30 = .ok (.getfield 95, 3) := by decide +kernel
theorem dX8_turns_33 : decode cX8_turns 33 = .ok (.istore_n 3, 1) := by decide +kernel
theorem dX8_turns_34 : decode cX8_turns 34 = .ok (.aload_n 0, 1) := by decide +kernel
theorem dX8_turns_35 : decode cX8_turns 35 = .ok (.getfield 21, 3) := by decide +kernel
theorem dX8_turns_38 : decode cX8_turns 38 = .ok (.getfield 91, 3) := by decide +kernel
theorem dX8_turns_41 : decode cX8_turns 41 = .ok (.iload_n 1, 1) := by decide +kernel
theorem dX8_turns_42 : decode cX8_turns 42 = .ok (.aaload, 1) := by decide +kernel
theorem dX8_turns_43 : decode cX8_turns 43 = .ok (.iload_n 2, 1) := by decide +kernel
theorem dX8_turns_44 : decode cX8_turns 44 = .ok (.putfield 95, 3) := by decide +kernel
theorem dX8_turns_47 : decode cX8_turns 47 = .ok (.iload_n 3, 1) := by decide +kernel
theorem dX8_turns_48 : decode cX8_turns 48 = .ok (.ireturn, 1) := by decide +kernel
theorem dX8_set_0 : decode cX8_set 0 = .ok (.aload_n 0, 1) := by decide +kernel
theorem dX8_set_1 : decode cX8_set 1 = .ok (.getfield 21, 3) := by decide +kernel
theorem dX8_set_4 : decode cX8_set 4 = .ok (.iload_n 1, 1) := by decide +kernel
theorem dX8_set_5 : decode cX8_set 5 = .ok (.invokevirtual 88, 3) := by decide +kernel
theorem dX8_set_8 : decode cX8_set 8 = .ok (.ifCond .ne 6, 3) := by decide +kernel
theorem dX8_set_11 : decode cX8_set 11 = .ok (.ldc 78, 2) := by decide +kernel
theorem dX8_set_13 : decode cX8_set 13 = .ok (.ireturn, 1) := by decide +kernel
theorem dX8_set_14 : decode cX8_set 14 = .ok (.aload_n 0, 1) := by decide +kernel
theorem dX8_set_15 : decode cX8_set 15 = .ok (.getfield 21, 3) := by decide +kernel
theorem dX8_set_18 : decode cX8_set 18 = .ok (.getfield 91, 3) := by decide +kernel
theorem dX8_set_21 : decode cX8_set 21 = .ok (.iload_n 1, 1) := by decide +kernel
theorem dX8_set_22 : decode cX8_set 22 = .ok (.aaload, 1) := by decide +kernel
theorem dX8_set_23 : decode cX8_set 23 = .ok (.astore 4, 2) := by decide +kernel
theorem dX8_set_25 : decode cX8_set 25 = .ok (.ldc 78, 2) := by decide +kernel
theorem dX8_set_27 : decode cX8_set 27 = .ok (.istore 5, 2) := by decide +kernel
theorem dX8_set_29 : decode cX8_set 29 = .ok (.iload_n 2, 1) := by decide +kernel
theorem dX8_set_30 : decode cX8_set 30 = .ok (.iconst 1, 1) := by decide +kernel
theorem dX8_set_31 : decode cX8_set 31 = .ok (.if_icmp .ne 30, 3) := by decide +kernel
theorem dX8_set_34 : decode cX8_set 34 = .ok (.iload_n 3, 1) := by decide +kernel
theorem dX8_set_35 : decode cX8_set 35 = .ok (.iconst 1, 1) := by decide +kernel
theorem dX8_set_36 : decode cX8_set 36 = .ok (.sipush 255, 3) := by decide +kernel
theorem dX8_set_39 : decode cX8_set 39 = .ok (.invokestatic 74, 3) := by decide +kernel
theorem dX8_set_42 : decode cX8_set 42 = .ok (.ifCond .eq 19, 3) := by decide +kernel
theorem dX8_set_45 : decode cX8_set 45 = .ok (.aload 4, 2) := by decide +kernel
theorem dX8_set_47 : decode cX8_set 47 = .ok (.getfield 100, 3) := by decide +kernel
theorem dX8_set_50 : decode cX8_set 50 = .ok (.istore 5, 2) := by decide +kernel
theorem dX8_set_52 : decode cX8_set 52 = .ok (.aload 4, 2) := by decide +kernel
theorem dX8_set_54 : decode cX8_set 54 = .ok (.iload_n 3, 1) := by decide +kernel
theorem dX8_set_55 : decode cX8_set 55 = .ok (.putfield 100, 3) := by decide +kernel
theorem dX8_set_58 : decode cX8_set 58 = .ok (.goto 62, 3) := by decide +kernel
theorem dX8_set_61 : decode cX8_set 61 = .ok (.iload_n 2, 1) := by decide +kernel
theorem dX8_set_62 : decode cX8_set 62 = .ok (.iconst 2, 1) := by decide +kernel
theorem dX8_set_63 : decode cX8_set 63 = .ok (.if_icmp .ne 29, 3) := by decide +kernel
theorem dX8_set_66 : decode cX8_set 66 = .ok (.iload_n 3, 1) := by decide +kernel
theorem dX8_set_67 : decode cX8_set 67 = .ok (.iconst 0, 1) := by decide +kernel
theorem dX8_set_68 : decode cX8_set 68 = .ok (.bipush 99, 2) := by decide +kernel
theorem dX8_set_70 : decode cX8_set 70 = .ok (.invokestatic 74, 3) := by decide +kernel
theorem dX8_set_73 : decode cX8_set 73 = .ok (.ifCond .eq 19, 3) := by decide +kernel
theorem dX8_set_76 : decode cX8_set 76 = .ok (.aload 4, 2) := by decide +kernel
theorem dX8_set_78 : decode cX8_set 78 = .ok (.getfield 103, 3) := by decide +kernel
theorem dX8_set_81 : decode cX8_set 81 = .ok (.istore 5, 2) := by decide +kernel
theorem dX8_set_83 : decode cX8_set 83 = .ok (.aload 4, 2) := by decide +kernel
theorem dX8_set_85 : decode cX8_set 85 = .ok (.iload_n 3, 1) := by decide +kernel
theorem dX8_set_86 : decode cX8_set 86 = .ok (.putfield 103, 3) := by decide +kernel
theorem dX8_set_89 : decode cX8_set 89 = .ok (.goto 31, 3) := by decide +kernel
theorem dX8_set_92 : decode cX8_set 92 = .ok (.iload_n 2, 1) := by decide +kernel
theorem dX8_set_93 : decode cX8_set 93 = .ok (.iconst 3, 1) := by decide +kernel
theorem dX8_set_94 : decode cX8_set 94 = .ok (.if_icmp .ne 26, 3) := by decide +kernel
theorem dX8_set_97 : decode cX8_set 97 = .ok (.iload_n 3, 1) := by decide +kernel
theorem dX8_set_98 : decode cX8_set 98 = .ok (.iconst 0, 1) := by decide +kernel
theorem dX8_set_99 : decode cX8_set 99 = .ok (.bipush 99, 2) := by decide +kernel
theorem dX8_set_101 : decode cX8_set 101 = .ok (.invokestatic 74, 3) := by decide +kernel
theorem dX8_set_104 : decode cX8_set 104 = .ok (.ifCond .eq 16, 3) := by decide +kernel
theorem dX8_set_107 : decode cX8_set 107 = .ok (.aload 4, 2) := by decide +kernel
theorem dX8_set_109 : decode cX8_set 109 = .ok (.getfield 106, 3) := by decide +kernel
theorem dX8_set_112 : decode cX8_set 112 = .ok (.istore 5, 2) := by decide +kernel
theorem dX8_set_114 : decode cX8_set 114 = .ok (.aload 4, 2) := by decide +kernel
theorem dX8_set_116 : decode cX8_set 116 = .ok (.iload_n 3, 1) := by decide +kernel
theorem dX8_set_117 : decode cX8_set 117 = .ok (.putfield 106, 3) := by decide +kernel
theorem dX8_set_120 : decode cX8_set 120 = .ok (.iload 5, 2) := by decide +kernel
theorem dX8_set_122 : decode cX8_set 122 = .ok (.ireturn, 1) := by decide +kernel
theorem dX8_traveller_0 : decode cX8_traveller 0 = .ok (.aload_n 0, 1) := by decide +kernel
theorem dX8_traveller_1 : decode cX8_traveller 1 = .ok (.getfield 21, 3) := by decide +kernel
theorem dX8_traveller_4 : decode cX8_traveller 4 = .ok (.getfield 130, 3) := by decide +kernel
theorem dX8_traveller_7 : decode cX8_traveller 7 = .ok (.bipush 6, 2) := by decide +kernel
theorem dX8_traveller_9 : decode cX8_traveller 9 = .ok (.if_icmp .lt 6, 3) := by decide +kernel
theorem dX8_traveller_12 : decode cX8_traveller 12 = .ok (.ldc 83, 2) := by decide +kernel
theorem dX8_traveller_14 : decode cX8_traveller 14 = .ok (.ireturn, 1) := by decide +kernel
theorem dX8_traveller_15 : decode cX8_traveller 15 = .ok (.aload_n 0, 1) := by decide +kernel
theorem dX8_traveller_16 : decode cX8_traveller 16 = .ok (.getfield 21, 3) := by decide +kernel
theorem dX8_traveller_19 : decode cX8_traveller 19 = .ok (.invokevirtual 133, 3) := by decide +kernel
theorem dX8_traveller_22 : decode cX8_traveller 22 = .ok (.ireturn, 1) := by decide +kernel
theorem dX8_travels_0 : decode cX8_travels 0 = .ok (.aload_n 0, 1) := by decide +kernel
theorem dX8_travels_1 : decode cX8_travels 1 = .ok (.getfield 21, 3) := by decide +kernel
theorem dX8_travels_4 : decode cX8_travels 4 = .ok (.iload_n 1, 1) := by decide +kernel
theorem dX8_travels_5 : decode cX8_travels 5 = .ok (.invokevirtual 136, 3) := by decide +kernel
theorem dX8_travels_8 : decode cX8_travels 8 = .ok (.ifCond .eq 12, 3) := by decide +kernel
theorem dX8_travels_11 : decode cX8_travels 11 = .ok (.iload_n 2, 1) := by decide +kernel
theorem dX8_travels_12 : decode cX8_travels 12 = .ok (.iconst 0, 1) := by decide +kernel
theorem dX8_travels_13 : decode cX8_travels 13 = .ok (.iconst 1, 1) := by decide +kernel
theorem dX8_travels_14 : decode cX8_travels 14 = .ok (.invokestatic 74, 3) := by decide +kernel
theorem dX8_travels_17 : decode cX8_travels 17 = .ok (.ifCond .ne 6, 3) := by decide +kernel
theorem dX8_travels_20 : decode cX8_travels 20 = .ok (.ldc 78, 2) := by decide +kernel
theorem dX8_travels_22 : decode cX8_travels 22 = .ok (.ireturn, 1) := by decide +kernel
theorem dX8_travels_23 : decode cX8_travels 23 = .ok (.aload_n 0, 1) := by decide +kernel
theorem dX8_travels_24 : decode cX8_travels 24 = .ok (.getfield 21, 3) := by decide +kernel
theorem dX8_travels_27 : decode cX8_travels 27 = .ok (.getfield 139, 3) := by decide +kernel
theorem dX8_travels_30 : decode cX8_travels 30 = .ok (.iload_n 1, 1) := by decide +kernel
theorem dX8_travels_31 : decode cX8_travels 31 = .ok (.aaload, 1) := by decide +kernel
theorem dX8_travels_32 : decode cX8_travels 32 = .ok (.astore_n 3, 1) := by decide +kernel
theorem dX8_travels_33 : decode cX8_travels 33 = .ok (.iload_n 2, 1) := by decide +kernel
theorem dX8_travels_34 : decode cX8_travels 34 = .ok (.ifCond .ne 10, 3) := by decide +kernel
theorem dX8_travels_37 : decode cX8_travels 37 = .ok (.aload_n 3, 1) := by decide +kernel
theorem dX8_travels_38 : decode cX8_travels 38 = .ok (.getfield 143, 3) := by decide +kernel
theorem dX8_travels_41 : decode cX8_travels 41 = .ok (.goto 7, 3) := by decide +kernel
theorem dX8_travels_44 : decode cX8_travels 44 = .ok (.aload_n 3, 1) := by decide +kernel
theorem dX8_travels_45 : decode cX8_travels 45 = .ok (.getfield 148, 3) := by decide +kernel
theorem dX8_travels_48 : decode cX8_travels 48 = .ok (.ireturn, 1) := by decide +kernel
theorem dX8_gives_0 : decode cX8_gives 0 = .ok (.aload_n 0, 1) := by decide +kernel
theorem dX8_gives_1 : decode cX8_gives 1 = .ok (.getfield 21, 3) := by decide +kernel
theorem dX8_gives_4 : decode cX8_gives 4 = .ok (.iload_n 1, 1) := by decide +kernel
theorem dX8_gives_5 : decode cX8_gives 5 = .ok (.invokevirtual 136, 3) := by decide +kernel
theorem dX8_gives_8 : decode cX8_gives 8 = .ok (.ifCond .eq 14, 3) := by decide +kernel
theorem dX8_gives_11 : decode cX8_gives 11 = .ok (.aload_n 0, 1) := by decide +kernel
theorem dX8_gives_12 : decode cX8_gives 12 = .ok (.getfield 21, 3) := by decide +kernel
theorem dX8_gives_15 : decode cX8_gives 15 = .ok (.iload_n 2, 1) := by decide +kernel
theorem dX8_gives_16 : decode cX8_gives 16 = .ok (.invokevirtual 151, 3) := by decide +kernel
theorem dX8_gives_19 : decode cX8_gives 19 = .ok (.ifCond .ne 6, 3) := by decide +kernel
theorem dX8_gives_22 : decode cX8_gives 22 = .ok (.ldc 78, 2) := by decide +kernel
theorem dX8_gives_24 : decode cX8_gives 24 = .ok (.ireturn, 1) := by decide +kernel
theorem dX8_gives_25 : decode cX8_gives 25 = .ok (.aload_n 0, 1) := by decide +kernel
theorem dX8_gives_26 : decode cX8_gives 26 = .ok (.getfield 21, 3) := by decide +kernel
theorem dX8_gives_29 : decode cX8_gives 29 = .ok (.getfield 139, 3) := by decide +kernel
theorem dX8_gives_32 : decode cX8_gives 32 = .ok (.iload_n 1, 1) := by decide +kernel
theorem dX8_gives_33 : decode cX8_gives 33 = .ok (.aaload, 1) := by decide +kernel
theorem dX8_gives_34 : decode cX8_gives 34 = .ok (.getfield 143, 3) := by decide +kernel
theorem dX8_gives_37 : decode cX8_gives 37 = .ok (.istore_n 3, 1) := by decide +kernel
theorem dX8_gives_38 : decode cX8_gives 38 = .ok (.aload_n 0, 1) := by decide +kernel
theorem dX8_gives_39 : decode cX8_gives 39 = .ok (.getfield 21, 3) := by decide +kernel
theorem dX8_gives_42 : decode cX8_gives 42 = .ok (.getfield 139, 3) := by decide +kernel
theorem dX8_gives_45 : decode cX8_gives 45 = .ok (.iload_n 1, 1) := by decide +kernel
theorem dX8_gives_46 : decode cX8_gives 46 = .ok (.aaload, 1) := by decide +kernel
theorem dX8_gives_47 : decode cX8_gives 47 = .ok (.iload_n 2, 1) := by decide +kernel
theorem dX8_gives_48 : decode cX8_gives 48 = .ok (.putfield 143, 3) := by decide +kernel
theorem dX8_gives_51 : decode cX8_gives 51 = .ok (.iload_n 3, 1) := by decide +kernel
theorem dX8_gives_52 : decode cX8_gives 52 = .ok (.ireturn, 1) := by decide +kernel
theorem dX8_rule_0 : decode cX8_rule 0 = .ok (.ldc 78, 2) := by decide +kernel
theorem dX8_rule_2 : decode cX8_rule 2 = .ok (.istore_n 3, 1) := by decide +kernel
theorem dX8_rule_3 : decode cX8_rule 3 = .ok (.iload_n 1, 1) := by decide +kernel
theorem dX8_rule_4 : decode cX8_rule 4 = .ok (.ifCond .ne 32, 3) := by decide +kernel
theorem dX8_rule_7 : decode cX8_rule 7 = .ok (.iload_n 2, 1) := by decide +kernel
theorem dX8_rule_8 : decode cX8_rule 8 = .ok (.iconst 1, 1) := by decide +kernel
theorem dX8_rule_9 : decode cX8_rule 9 = .ok (.bipush 10, 2) := by decide +kernel
theorem dX8_rule_11 : decode cX8_rule 11 = .ok (.invokestatic 74, 3) := by decide +kernel
theorem dX8_rule_14 : decode cX8_rule 14 = .ok (.ifCond .eq 22, 3) := by decide +kernel
theorem dX8_rule_17 : decode cX8_rule 17 = .ok (.aload_n 0, 1) := by decide +kernel
theorem dX8_rule_18 : decode cX8_rule 18 = .ok (.getfield 21, 3) := by decide +kernel
theorem dX8_rule_21 : decode cX8_rule 21 = .ok (.getfield 154, 3) := by decide +kernel
theorem dX8_rule_24 : decode cX8_rule 24 = .ok (.istore_n 3, 1) := by decide +kernel
theorem dX8_rule_25 : decode cX8_rule 25 = .ok (.aload_n 0, 1) := by decide +kernel
theorem dX8_rule_26 : decode cX8_rule 26 = .ok (.getfield 21, 3) := by decide +kernel
theorem dX8_rule_29 : decode cX8_rule 29 = .ok (.iload_n 2, 1) := by decide +kernel
theorem dX8_rule_30 : decode cX8_rule 30 = .ok (.putfield 154, 3) := by decide +kernel
theorem dX8_rule_33 : decode cX8_rule 33 = .ok (.goto 34, 3) := by decide +kernel
theorem dX8_rule_36 : decode cX8_rule 36 = .ok (.iload_n 1, 1) := by decide +kernel
theorem dX8_rule_37 : decode cX8_rule 37 = .ok (.iconst 1, 1) := by decide +kernel
theorem dX8_rule_38 : decode cX8_rule 38 = .ok (.if_icmp .ne 29, 3) := by decide +kernel
theorem dX8_rule_41 : decode cX8_rule 41 = .ok (.iload_n 2, 1) := by decide +kernel
theorem dX8_rule_42 : decode cX8_rule 42 = .ok (.iconst 0, 1) := by decide +kernel
theorem dX8_rule_43 : decode cX8_rule 43 = .ok (.bipush 100, 2) := by decide +kernel
theorem dX8_rule_45 : decode cX8_rule 45 = .ok (.invokestatic 74, 3) := by decide +kernel
theorem dX8_rule_48 : decode cX8_rule 48 = .ok (.ifCond .eq 19, 3) := by decide +kernel
theorem dX8_rule_51 : decode cX8_rule 51 = .ok (.aload_n 0, 1) := by decide +kernel
theorem dX8_rule_52 : decode cX8_rule 52 = .ok (.getfield 21, 3) := by decide +kernel
theorem dX8_rule_55 : decode cX8_rule 55 = .ok (.getfield 157, 3) := by decide +kernel
theorem dX8_rule_58 : decode cX8_rule 58 = .ok (.istore_n 3, 1) := by decide +kernel
theorem dX8_rule_59 : decode cX8_rule 59 = .ok (.aload_n 0, 1) := by decide +kernel
theorem dX8_rule_60 : decode cX8_rule 60 = .ok (.getfield 21, 3) := by decide +kernel
theorem dX8_rule_63 : decode cX8_rule 63 = .ok (.iload_n 2, 1) := by decide +kernel
theorem dX8_rule_64 : decode cX8_rule 64 = .ok (.putfield 157, 3) := by decide +kernel
theorem dX8_rule_67 : decode cX8_rule 67 = .ok (.iload_n 3, 1) := by decide +kernel
theorem dX8_rule_68 : decode cX8_rule 68 = .ok (.ireturn, 1) := by decide +kernel
theorem dX8_deal_0 : decode cX8_deal 0 = .ok (.iload_n 1, 1) := by decide +kernel
theorem dX8_deal_1 : decode cX8_deal 1 = .ok (.iconst 1, 1) := by decide +kernel
theorem dX8_deal_2 : decode cX8_deal 2 = .ok (.bipush 10, 2) := by decide +kernel
theorem dX8_deal_4 : decode cX8_deal 4 = .ok (.invokestatic 74, 3) := by decide +kernel
theorem dX8_deal_7 : decode cX8_deal 7 = .ok (.ifCond .ne 6, 3) := by decide +kernel
theorem dX8_deal_10 : decode cX8_deal 10 = .ok (.ldc 78, 2) := by decide +kernel
theorem dX8_deal_12 : decode cX8_deal 12 = .ok (.ireturn, 1) := by decide +kernel
theorem dX8_deal_13 : decode cX8_deal 13 = .ok (.iload_n 1, 1) := by decide +kernel
theorem dX8_deal_14 : decode cX8_deal 14 = .ok (.bipush 10, 2) := by decide +kernel
theorem dX8_deal_16 : decode cX8_deal 16 = .ok (.aload_n 0, 1) := by decide +kernel
theorem dX8_deal_17 : decode cX8_deal 17 = .ok (.getfield 21, 3) := by decide +kernel
theorem dX8_deal_20 : decode cX8_deal 20 = .ok (.getfield 79, 3) := by decide +kernel
theorem dX8_deal_23 : decode cX8_deal 23 = .ok (.isub, 1) := by decide +kernel
theorem dX8_deal_24 : decode cX8_deal 24 = .ok (.invokestatic 160, 3) := by decide +kernel
theorem dX8_deal_27 : decode cX8_deal 27 = .ok (.istore_n 2, 1) := by decide +kernel
theorem dX8_deal_28 : decode cX8_deal 28 = .ok (.iconst 0, 1) := by decide +kernel
theorem dX8_deal_29 : decode cX8_deal 29 = .ok (.istore_n 3, 1) := by decide +kernel
theorem dX8_deal_30 : decode cX8_deal 30 = .ok (.iload_n 3, 1) := by decide +kernel
theorem dX8_deal_31 : decode cX8_deal 31 = .ok (.iload_n 2, 1) := by decide +kernel
theorem dX8_deal_32 : decode cX8_deal 32 = .ok (.if_icmp .ge 16, 3) := by decide +kernel
theorem dX8_deal_35 : decode cX8_deal 35 = .ok (.aload_n 0, 1) := by decide +kernel
theorem dX8_deal_36 : decode cX8_deal 36 = .ok (.getfield 21, 3) := by decide +kernel
theorem dX8_deal_39 : decode cX8_deal 39 = .ok (.invokevirtual 166, 3) := by decide +kernel
theorem dX8_deal_42 : decode cX8_deal 42 = .ok (.iinc 3 1, 3) := by decide +kernel
theorem dX8_deal_45 : decode cX8_deal 45 = .ok (.goto (-15), 3) := by decide +kernel
theorem dX8_deal_48 : decode cX8_deal 48 = .ok (.iload_n 2, 1) := by decide +kernel
theorem dX8_deal_49 : decode cX8_deal 49 = .ok (.ireturn, 1) := by decide +kernel
theorem dX8_seed_0 : decode cX8_seed 0 = .ok (.aload_n 0, 1) := by decide +kernel
theorem dX8_seed_1 : decode cX8_seed 1 = .ok (.getfield 21, 3) := by decide +kernel
theorem dX8_seed_4 : decode cX8_seed 4 = .ok (.getfield 169, 3) := by decide +kernel
theorem dX8_seed_7 : decode cX8_seed 7 = .ok (.istore_n 2, 1) := by decide +kernel
theorem dX8_seed_8 : decode cX8_seed 8 = .ok (.aload_n 0, 1) := by decide +kernel
theorem dX8_seed_9 : decode cX8_seed 9 = .ok (.getfield 21, 3) := by decide +kernel
theorem dX8_seed_12 : decode cX8_seed 12 = .ok (.iload_n 1, 1) := by decide +kernel
theorem dX8_seed_13 : decode cX8_seed 13 = .ok (.putfield 169, 3) := by decide +kernel
theorem dX8_seed_16 : decode cX8_seed 16 = .ok (.iload_n 2, 1) := by decide +kernel
theorem dX8_seed_17 : decode cX8_seed 17 = .ok (.ireturn, 1) := by decide +kernel
theorem dX8_cross_0 : decode cX8_cross 0 = .ok (.aload_n 0, 1) := by decide +kernel
theorem dX8_cross_1 : decode cX8_cross 1 = .ok (.getfield 21, 3) := by decide +kernel
theorem dX8_cross_4 : decode cX8_cross 4 = .ok (.iload_n 1, 1) := by decide +kernel
theorem dX8_cross_5 : decode cX8_cross 5 = .ok (.invokevirtual 136, 3) := by decide +kernel
theorem dX8_cross_8 : decode cX8_cross 8 = .ok (.ifCond .eq 14, 3) := by decide +kernel
theorem dX8_cross_11 : decode cX8_cross 11 = .ok (.aload_n 0, 1) := by decide +kernel
theorem dX8_cross_12 : decode cX8_cross 12 = .ok (.getfield 21, 3) := by decide +kernel
theorem dX8_cross_15 : decode cX8_cross 15 = .ok (.iload_n 2, 1) := by decide +kernel
theorem dX8_cross_16 : decode cX8_cross 16 = .ok (.invokevirtual 151, 3) := by decide +kernel
theorem dX8_cross_19 : decode cX8_cross 19 = .ok (.ifCond .ne 6, 3) := by decide +kernel
theorem dX8_cross_22 : decode cX8_cross 22 = .ok (.ldc 78, 2) := by decide +kernel
theorem dX8_cross_24 : decode cX8_cross 24 = .ok (.ireturn, 1) := by decide +kernel
theorem dX8_cross_25 : decode cX8_cross 25 = .ok (.aload_n 0, 1) := by decide +kernel
theorem dX8_cross_26 : decode cX8_cross 26 = .ok (.getfield 21, 3) := by decide +kernel
theorem dX8_cross_29 : decode cX8_cross 29 = .ok (.aload_n 0, 1) := by decide +kernel
theorem dX8_cross_30 : decode cX8_cross 30 = .ok (.getfield 21, 3) := by decide +kernel
theorem dX8_cross_33 : decode cX8_cross 33 = .ok (.getfield 139, 3) := by decide +kernel
theorem dX8_cross_36 : decode cX8_cross 36 = .ok (.iload_n 1, 1) := by decide +kernel
theorem dX8_cross_37 : decode cX8_cross 37 = .ok (.aaload, 1) := by decide +kernel
theorem dX8_cross_38 : decode cX8_cross 38 = .ok (.iload_n 2, 1) := by decide +kernel
theorem dX8_cross_39 : decode cX8_cross 39 = .ok (.invokevirtual 172, 3) := by decide +kernel
theorem dX8_cross_42 : decode cX8_cross 42 = .ok (.ireturn, 1) := by decide +kernel
theorem dX8_man_0 : decode cX8_man 0 = .ok (.iload_n 1, 1) := by decide +kernel
theorem dX8_man_1 : decode cX8_man 1 = .ok (.lookupswitch 51 #[(0, 27), (1, 35)], 27) := by decide +kernel
theorem dX8_man_28 : decode cX8_man 28 = .ok (.aload_n 0, 1) := by decide +kernel
theorem dX8_man_29 : decode cX8_man 29 = .ok (.getfield 21, 3) := by decide +kernel
theorem dX8_man_32 : decode cX8_man 32 = .ok (.getfield 123, 3) := by decide +kernel
theorem dX8_man_35 : decode cX8_man 35 = .ok (.ireturn, 1) := by decide +kernel
theorem dX8_man_36 : decode cX8_man 36 = .ok (.aload_n 0, 1) := by decide +kernel
theorem dX8_man_37 : decode cX8_man 37 = .ok (.getfield 21, 3) := by decide +kernel
theorem dX8_man_40 : decode cX8_man 40 = .ok (.invokevirtual 176, 3) := by decide +kernel
theorem dX8_man_43 : decode cX8_man 43 = .ok (.ifCond .eq 7, 3) := by decide +kernel
theorem dX8_man_46 : decode cX8_man 46 = .ok (.iconst 1, 1) := by decide +kernel
theorem dX8_man_47 : decode cX8_man 47 = .ok (.goto 4, 3) := by decide +kernel
theorem dX8_man_50 : decode cX8_man 50 = .ok (.iconst 0, 1) := by decide +kernel
theorem dX8_man_51 : decode cX8_man 51 = .ok (.ireturn, 1) := by decide +kernel
theorem dX8_man_52 : decode cX8_man 52 = .ok (.ldc 78, 2) := by decide +kernel
theorem dX8_man_54 : decode cX8_man 54 = .ok (.ireturn, 1) := by decide +kernel
theorem dX8_forget_0 : decode cX8_forget 0 = .ok (.aload_n 0, 1) := by decide +kernel
theorem dX8_forget_1 : decode cX8_forget 1 = .ok (.getfield 21, 3) := by decide +kernel
theorem dX8_forget_4 : decode cX8_forget 4 = .ok (.getfield 123, 3) := by decide +kernel
theorem dX8_forget_7 : decode cX8_forget 7 = .ok (.invokestatic 180, 3) := by decide +kernel
theorem dX8_forget_10 : decode cX8_forget 10 = .ok (.istore_n 1, 1) := by decide +kernel
theorem dX8_forget_11 : decode cX8_forget 11 = .ok (.aload_n 0, 1) := by decide +kernel
theorem dX8_forget_12 : decode cX8_forget 12 = .ok (.getfield 21, 3) := by decide +kernel
theorem dX8_forget_15 : decode cX8_forget 15 = .ok (.iconst 0, 1) := by decide +kernel
theorem dX8_forget_16 : decode cX8_forget 16 = .ok (.putfield 123, 3) := by decide +kernel
theorem dX8_forget_19 : decode cX8_forget 19 = .ok (.iload_n 1, 1) := by decide +kernel
theorem dX8_forget_20 : decode cX8_forget 20 = .ok (.ireturn, 1) := by decide +kernel
theorem dX8_days_0 : decode cX8_days 0 = .ok (.iload_n 1, 1) := by decide +kernel
theorem dX8_days_1 : decode cX8_days 1 = .ok (.iconst 1, 1) := by decide +kernel
theorem dX8_days_2 : decode cX8_days 2 = .ok (.bipush 60, 2) := by decide +kernel
theorem dX8_days_4 : decode cX8_days 4 = .ok (.invokestatic 74, 3) := by decide +kernel
theorem dX8_days_7 : decode cX8_days 7 = .ok (.ifCond .ne 6, 3) := by decide +kernel
theorem dX8_days_10 : decode cX8_days 10 = .ok (.ldc 78, 2) := by decide +kernel
theorem dX8_days_12 : decode cX8_days 12 = .ok (.ireturn, 1) := by decide +kernel
theorem dX8_days_13 : decode cX8_days 13 = .ok (.aload_n 0, 1) := by decide +kernel
theorem dX8_days_14 : decode cX8_days 14 = .ok (.getfield 21, 3) := by decide +kernel
theorem dX8_days_17 : decode cX8_days 17 = .ok (.invokevirtual 186, 3) := by decide +kernel
theorem dX8_days_20 : decode cX8_days 20 = .ok (.istore_n 2, 1) := by decide +kernel
theorem dX8_days_21 : decode cX8_days 21 = .ok (.iload_n 1, 1) := by decide +kernel
theorem dX8_days_22 : decode cX8_days 22 = .ok (.sipush 9999, 3) := by decide +kernel
theorem dX8_days_25 : decode cX8_days 25 = .ok (.aload_n 0, 1) := by decide +kernel
theorem dX8_days_26 : decode cX8_days 26 = .ok (.getfield 21, 3) := by decide +kernel
theorem dX8_days_29 : decode cX8_days 29 = .ok (.getfield 189, 3) := by decide +kernel
theorem dX8_days_32 : decode cX8_days 32 = .ok (.isub, 1) := by decide +kernel
theorem dX8_days_33 : decode cX8_days 33 = .ok (.invokestatic 160, 3) := by decide +kernel
theorem dX8_days_36 : decode cX8_days 36 = .ok (.istore_n 3, 1) := by decide +kernel
theorem dX8_days_37 : decode cX8_days 37 = .ok (.iconst 0, 1) := by decide +kernel
theorem dX8_days_38 : decode cX8_days 38 = .ok (.istore 4, 2) := by decide +kernel
theorem dX8_days_40 : decode cX8_days 40 = .ok (.iload 4, 2) := by decide +kernel
theorem dX8_days_42 : decode cX8_days 42 = .ok (.iload_n 3, 1) := by decide +kernel
theorem dX8_days_43 : decode cX8_days 43 = .ok (.if_icmp .ge 16, 3) := by decide +kernel
theorem dX8_days_46 : decode cX8_days 46 = .ok (.aload_n 0, 1) := by decide +kernel
theorem dX8_days_47 : decode cX8_days 47 = .ok (.getfield 21, 3) := by decide +kernel
theorem dX8_days_50 : decode cX8_days 50 = .ok (.invokevirtual 192, 3) := by decide +kernel
theorem dX8_days_53 : decode cX8_days 53 = .ok (.iinc 4 1, 3) := by decide +kernel
theorem dX8_days_56 : decode cX8_days 56 = .ok (.goto (-16), 3) := by decide +kernel
theorem dX8_days_59 : decode cX8_days 59 = .ok (.aload_n 0, 1) := by decide +kernel
theorem dX8_days_60 : decode cX8_days 60 = .ok (.getfield 21, 3) := by decide +kernel
theorem dX8_days_63 : decode cX8_days 63 = .ok (.invokevirtual 186, 3) := by decide +kernel
theorem dX8_days_66 : decode cX8_days 66 = .ok (.iload_n 2, 1) := by decide +kernel
theorem dX8_days_67 : decode cX8_days 67 = .ok (.isub, 1) := by decide +kernel
theorem dX8_days_68 : decode cX8_days 68 = .ok (.ireturn, 1) := by decide +kernel
theorem dX8_says_0 : decode cX8_says 0 = .ok (.aload_n 0, 1) := by decide +kernel
theorem dX8_says_1 : decode cX8_says 1 = .ok (.getfield 21, 3) := by decide +kernel
theorem dX8_says_4 : decode cX8_says 4 = .ok (.iload_n 1, 1) := by decide +kernel
theorem dX8_says_5 : decode cX8_says 5 = .ok (.invokevirtual 136, 3) := by decide +kernel
theorem dX8_says_8 : decode cX8_says 8 = .ok (.ifCond .eq 10, 3) := by decide +kernel
theorem dX8_says_11 : decode cX8_says 11 = .ok (.iload_n 2, 1) := by decide +kernel
theorem dX8_says_12 : decode cX8_says 12 = .ok (.invokestatic 195, 3) := by decide +kernel
theorem dX8_says_15 : decode cX8_says 15 = .ok (.ifCond .ne 6, 3) := by decide +kernel
theorem dX8_says_18 : decode cX8_says 18 = .ok (.ldc 78, 2) := by decide +kernel
theorem dX8_says_20 : decode cX8_says 20 = .ok (.ireturn, 1) := by decide +kernel
theorem dX8_says_21 : decode cX8_says 21 = .ok (.aload_n 0, 1) := by decide +kernel
theorem dX8_says_22 : decode cX8_says 22 = .ok (.getfield 21, 3) := by decide +kernel
theorem dX8_says_25 : decode cX8_says 25 = .ok (.aload_n 0, 1) := by decide +kernel
theorem dX8_says_26 : decode cX8_says 26 = .ok (.getfield 21, 3) := by decide +kernel
theorem dX8_says_29 : decode cX8_says 29 = .ok (.getfield 139, 3) := by decide +kernel
theorem dX8_says_32 : decode cX8_says 32 = .ok (.iload_n 1, 1) := by decide +kernel
theorem dX8_says_33 : decode cX8_says 33 = .ok (.aaload, 1) := by decide +kernel
theorem dX8_says_34 : decode cX8_says 34 = .ok (.getfield 143, 3) := by decide +kernel
theorem dX8_says_37 : decode cX8_says 37 = .ok (.iload_n 2, 1) := by decide +kernel
theorem dX8_says_38 : decode cX8_says 38 = .ok (.invokevirtual 198, 3) := by decide +kernel
theorem dX8_says_41 : decode cX8_says 41 = .ok (.ifCond .eq 7, 3) := by decide +kernel
theorem dX8_says_44 : decode cX8_says 44 = .ok (.iconst 1, 1) := by decide +kernel
theorem dX8_says_45 : decode cX8_says 45 = .ok (.goto 4, 3) := by decide +kernel
theorem dX8_says_48 : decode cX8_says 48 = .ok (.iconst 0, 1) := by decide +kernel
theorem dX8_says_49 : decode cX8_says 49 = .ok (.ireturn, 1) := by decide +kernel
theorem dX8_cheapest_0 : decode cX8_cheapest 0 = .ok (.aload_n 0, 1) := by decide +kernel
theorem dX8_cheapest_1 : decode cX8_cheapest 1 = .ok (.getfield 21, 3) := by decide +kernel
theorem dX8_cheapest_4 : decode cX8_cheapest 4 = .ok (.iload_n 1, 1) := by decide +kernel
theorem dX8_cheapest_5 : decode cX8_cheapest 5 = .ok (.invokevirtual 136, 3) := by decide +kernel
theorem dX8_cheapest_8 : decode cX8_cheapest 8 = .ok (.ifCond .eq 19, 3) := by decide +kernel
theorem dX8_cheapest_11 : decode cX8_cheapest 11 = .ok (.iload_n 2, 1) := by decide +kernel
theorem dX8_cheapest_12 : decode cX8_cheapest 12 = .ok (.invokestatic 195, 3) := by decide +kernel
theorem dX8_cheapest_15 : decode cX8_cheapest 15 = .ok (.ifCond .eq 12, 3) := by decide +kernel
theorem dX8_cheapest_18 : decode cX8_cheapest 18 = .ok (.iload_n 3, 1) := by decide +kernel
theorem dX8_cheapest_19 : decode cX8_cheapest 19 = .ok (.iconst 0, 1) := by decide +kernel
theorem dX8_cheapest_20 : decode cX8_cheapest 20 = .ok (.iconst 1, 1) := by decide +kernel
theorem dX8_cheapest_21 : decode cX8_cheapest 21 = .ok (.invokestatic 74, 3) := by decide +kernel
theorem dX8_cheapest_24 : decode cX8_cheapest 24 = .ok (.ifCond .ne 6, 3) := by decide +kernel
theorem dX8_cheapest_27 : decode cX8_cheapest 27 = .ok (.ldc 78, 2) := by decide +kernel
theorem dX8_cheapest_29 : decode cX8_cheapest 29 = .ok (.ireturn, 1) := by decide +kernel
theorem dX8_cheapest_30 : decode cX8_cheapest 30 = .ok (.aload_n 0, 1) := by decide +kernel
theorem dX8_cheapest_31 : decode cX8_cheapest 31 = .ok (.getfield 21, 3) := by decide +kernel
theorem dX8_cheapest_34 : decode cX8_cheapest 34 = .ok (.getfield 139, 3) := by decide +kernel
theorem dX8_cheapest_37 : decode cX8_cheapest 37 = .ok (.iload_n 1, 1) := by decide +kernel
theorem dX8_cheapest_38 : decode cX8_cheapest 38 = .ok (.aaload, 1) := by decide +kernel
theorem dX8_cheapest_39 : decode cX8_cheapest 39 = .ok (.getfield 143, 3) := by decide +kernel
theorem dX8_cheapest_42 : decode cX8_cheapest 42 = .ok (.istore 4, 2) := by decide +kernel
theorem dX8_cheapest_44 : decode cX8_cheapest 44 = .ok (.aload_n 0, 1) := by decide +kernel
theorem dX8_cheapest_45 : decode cX8_cheapest 45 = .ok (.getfield 36, 3) := by decide +kernel
theorem dX8_cheapest_48 : decode cX8_cheapest 48 = .ok (.iload 4, 2) := by decide +kernel
theorem dX8_cheapest_50 : decode cX8_cheapest 50 = .ok (.iload_n 2, 1) := by decide +kernel
theorem dX8_cheapest_51 : decode cX8_cheapest 51 = .ok (.invokevirtual 202, 3) := by decide +kernel
theorem dX8_cheapest_54 : decode cX8_cheapest 54 = .ok (.istore 5, 2) := by decide +kernel
theorem dX8_cheapest_56 : decode cX8_cheapest 56 = .ok (.iload 5, 2) := by decide +kernel
theorem dX8_cheapest_58 : decode cX8_cheapest 58 = .ok (.ldc 205, 2) := by decide +kernel
theorem dX8_cheapest_60 : decode cX8_cheapest 60 = .ok (.if_icmp .ne 6, 3) := by decide +kernel
theorem dX8_cheapest_63 : decode cX8_cheapest 63 = .ok (.ldc 205, 2) := by decide +kernel
theorem dX8_cheapest_65 : decode cX8_cheapest 65 = .ok (.ireturn, 1) := by decide +kernel
theorem dX8_cheapest_66 : decode cX8_cheapest 66 = .ok (.iload_n 3, 1) := by decide +kernel
theorem dX8_cheapest_67 : decode cX8_cheapest 67 = .ok (.ifCond .ne 20, 3) := by decide +kernel
theorem dX8_cheapest_70 : decode cX8_cheapest 70 = .ok (.aload_n 0, 1) := by decide +kernel
theorem dX8_cheapest_71 : decode cX8_cheapest 71 = .ok (.getfield 36, 3) := by decide +kernel
theorem dX8_cheapest_74 : decode cX8_cheapest 74 = .ok (.iload 5, 2) := by decide +kernel
theorem dX8_cheapest_76 : decode cX8_cheapest 76 = .ok (.iload 4, 2) := by decide +kernel
theorem dX8_cheapest_78 : decode cX8_cheapest 78 = .ok (.iconst (-1), 1) := by decide +kernel
theorem dX8_cheapest_79 : decode cX8_cheapest 79 = .ok (.ixor, 1) := by decide +kernel
theorem dX8_cheapest_80 : decode cX8_cheapest 80 = .ok (.iand, 1) := by decide +kernel
theorem dX8_cheapest_81 : decode cX8_cheapest 81 = .ok (.invokevirtual 206, 3) := by decide +kernel
theorem dX8_cheapest_84 : decode cX8_cheapest 84 = .ok (.goto 5, 3) := by decide +kernel
theorem dX8_cheapest_87 : decode cX8_cheapest 87 = .ok (.iload 5, 2) := by decide +kernel
theorem dX8_cheapest_89 : decode cX8_cheapest 89 = .ok (.ireturn, 1) := by decide +kernel
theorem dX8_shortest_0 : decode cX8_shortest 0 = .ok (.aload_n 0, 1) := by decide +kernel
theorem dX8_shortest_1 : decode cX8_shortest 1 = .ok (.getfield 21, 3) := by decide +kernel
theorem dX8_shortest_4 : decode cX8_shortest 4 = .ok (.iload_n 1, 1) := by decide +kernel
theorem dX8_shortest_5 : decode cX8_shortest 5 = .ok (.invokevirtual 136, 3) := by decide +kernel
theorem dX8_shortest_8 : decode cX8_shortest 8 = .ok (.ifCond .eq 10, 3) := by decide +kernel
theorem dX8_shortest_11 : decode cX8_shortest 11 = .ok (.iload_n 2, 1) := by decide +kernel
theorem dX8_shortest_12 : decode cX8_shortest 12 = .ok (.invokestatic 195, 3) := by decide +kernel
theorem dX8_shortest_15 : decode cX8_shortest 15 = .ok (.ifCond .ne 6, 3) := by decide +kernel
theorem dX8_shortest_18 : decode cX8_shortest 18 = .ok (.ldc 78, 2) := by decide +kernel
theorem dX8_shortest_20 : decode cX8_shortest 20 = .ok (.ireturn, 1) := by decide +kernel
theorem dX8_shortest_21 : decode cX8_shortest 21 = .ok (.aload_n 0, 1) := by decide +kernel
theorem dX8_shortest_22 : decode cX8_shortest 22 = .ok (.getfield 36, 3) := by decide +kernel
theorem dX8_shortest_25 : decode cX8_shortest 25 = .ok (.aload_n 0, 1) := by decide +kernel
theorem dX8_shortest_26 : decode cX8_shortest 26 = .ok (.getfield 21, 3) := by decide +kernel
theorem dX8_shortest_29 : decode cX8_shortest 29 = .ok (.getfield 139, 3) := by decide +kernel
theorem dX8_shortest_32 : decode cX8_shortest 32 = .ok (.iload_n 1, 1) := by decide +kernel
theorem dX8_shortest_33 : decode cX8_shortest 33 = .ok (.aaload, 1) := by decide +kernel
theorem dX8_shortest_34 : decode cX8_shortest 34 = .ok (.getfield 143, 3) := by decide +kernel
theorem dX8_shortest_37 : decode cX8_shortest 37 = .ok (.iconst 0, 1) := by decide +kernel
theorem dX8_shortest_38 : decode cX8_shortest 38 = .ok (.iload_n 2, 1) := by decide +kernel
theorem dX8_shortest_39 : decode cX8_shortest 39 = .ok (.invokevirtual 209, 3) := by decide +kernel
theorem dX8_shortest_42 : decode cX8_shortest 42 = .ok (.ireturn, 1) := by decide +kernel
theorem dX8_nearest_0 : decode cX8_nearest 0 = .ok (.aload_n 0, 1) := by decide +kernel
theorem dX8_nearest_1 : decode cX8_nearest 1 = .ok (.getfield 21, 3) := by decide +kernel
theorem dX8_nearest_4 : decode cX8_nearest 4 = .ok (.iload_n 1, 1) := by decide +kernel
theorem dX8_nearest_5 : decode cX8_nearest 5 = .ok (.invokevirtual 136, 3) := by decide +kernel
theorem dX8_nearest_8 : decode cX8_nearest 8 = .ok (.ifCond .eq 20, 3) := by decide +kernel
theorem dX8_nearest_11 : decode cX8_nearest 11 = .ok (.iload_n 2, 1) := by decide +kernel
theorem dX8_nearest_12 : decode cX8_nearest 12 = .ok (.invokestatic 195, 3) := by decide +kernel
theorem dX8_nearest_15 : decode cX8_nearest 15 = .ok (.ifCond .eq 13, 3) := by decide +kernel
theorem dX8_nearest_18 : decode cX8_nearest 18 = .ok (.iload_n 3, 1) := by decide +kernel
theorem dX8_nearest_19 : decode cX8_nearest 19 = .ok (.iconst 0, 1) := by decide +kernel
theorem dX8_nearest_20 : decode cX8_nearest 20 = .ok (.bipush 10, 2) := by decide +kernel
theorem dX8_nearest_22 : decode cX8_nearest 22 = .ok (.invokestatic 74, 3) := by decide +kernel
theorem dX8_nearest_25 : decode cX8_nearest 25 = .ok (.ifCond .ne 6, 3) := by decide +kernel
theorem dX8_nearest_28 : decode cX8_nearest 28 = .ok (.ldc 78, 2) := by decide +kernel
theorem dX8_nearest_30 : decode cX8_nearest 30 = .ok (.ireturn, 1) := by decide +kernel
theorem dX8_nearest_31 : decode cX8_nearest 31 = .ok (.aload_n 0, 1) := by decide +kernel
theorem dX8_nearest_32 : decode cX8_nearest 32 = .ok (.getfield 36, 3) := by decide +kernel
theorem dX8_nearest_35 : decode cX8_nearest 35 = .ok (.aload_n 0, 1) := by decide +kernel
theorem dX8_nearest_36 : decode cX8_nearest 36 = .ok (.getfield 21, 3) := by decide +kernel
theorem dX8_nearest_39 : decode cX8_nearest 39 = .ok (.getfield 139, 3) := by decide +kernel
theorem dX8_nearest_42 : decode cX8_nearest 42 = .ok (.iload_n 1, 1) := by decide +kernel
theorem dX8_nearest_43 : decode cX8_nearest 43 = .ok (.aaload, 1) := by decide +kernel
theorem dX8_nearest_44 : decode cX8_nearest 44 = .ok (.getfield 143, 3) := by decide +kernel
theorem dX8_nearest_47 : decode cX8_nearest 47 = .ok (.iload_n 2, 1) := by decide +kernel
theorem dX8_nearest_48 : decode cX8_nearest 48 = .ok (.iload_n 3, 1) := by decide +kernel
theorem dX8_nearest_49 : decode cX8_nearest 49 = .ok (.invokevirtual 213, 3) := by decide +kernel
theorem dX8_nearest_52 : decode cX8_nearest 52 = .ok (.ireturn, 1) := by decide +kernel
theorem dX8_treaty_0 : decode cX8_treaty 0 = .ok (.iload_n 1, 1) := by decide +kernel
theorem dX8_treaty_1 : decode cX8_treaty 1 = .ok (.invokestatic 195, 3) := by decide +kernel
theorem dX8_treaty_4 : decode cX8_treaty 4 = .ok (.ifCond .ne 6, 3) := by decide +kernel
theorem dX8_treaty_7 : decode cX8_treaty 7 = .ok (.ldc 78, 2) := by decide +kernel
theorem dX8_treaty_9 : decode cX8_treaty 9 = .ok (.ireturn, 1) := by decide +kernel
theorem dX8_treaty_10 : decode cX8_treaty 10 = .ok (.aload_n 0, 1) := by decide +kernel
theorem dX8_treaty_11 : decode cX8_treaty 11 = .ok (.getfield 36, 3) := by decide +kernel
theorem dX8_treaty_14 : decode cX8_treaty 14 = .ok (.aload_n 0, 1) := by decide +kernel
theorem dX8_treaty_15 : decode cX8_treaty 15 = .ok (.getfield 21, 3) := by decide +kernel
theorem dX8_treaty_18 : decode cX8_treaty 18 = .ok (.invokevirtual 216, 3) := by decide +kernel
theorem dX8_treaty_21 : decode cX8_treaty 21 = .ok (.aload_n 0, 1) := by decide +kernel
theorem dX8_treaty_22 : decode cX8_treaty 22 = .ok (.getfield 21, 3) := by decide +kernel
theorem dX8_treaty_25 : decode cX8_treaty 25 = .ok (.invokevirtual 219, 3) := by decide +kernel
theorem dX8_treaty_28 : decode cX8_treaty 28 = .ok (.iload_n 1, 1) := by decide +kernel
theorem dX8_treaty_29 : decode cX8_treaty 29 = .ok (.invokevirtual 209, 3) := by decide +kernel
theorem dX8_treaty_32 : decode cX8_treaty 32 = .ok (.ireturn, 1) := by decide +kernel
theorem dX8_behind_0 : decode cX8_behind 0 = .ok (.aload_n 0, 1) := by decide +kernel
theorem dX8_behind_1 : decode cX8_behind 1 = .ok (.getfield 21, 3) := by decide +kernel
theorem dX8_behind_4 : decode cX8_behind 4 = .ok (.iload_n 1, 1) := by decide +kernel
theorem dX8_behind_5 : decode cX8_behind 5 = .ok (.invokevirtual 136, 3) := by decide +kernel
theorem dX8_behind_8 : decode cX8_behind 8 = .ok (.ifCond .eq 22, 3) := by decide +kernel
theorem dX8_behind_11 : decode cX8_behind 11 = .ok (.iload_n 2, 1) := by decide +kernel
theorem dX8_behind_12 : decode cX8_behind 12 = .ok (.iconst 0, 1) := by decide +kernel
theorem dX8_behind_13 : decode cX8_behind 13 = .ok (.bipush 60, 2) := by decide +kernel
theorem dX8_behind_15 : decode cX8_behind 15 = .ok (.invokestatic 74, 3) := by decide +kernel
theorem dX8_behind_18 : decode cX8_behind 18 = .ok (.ifCond .eq 12, 3) := by decide +kernel
theorem dX8_behind_21 : decode cX8_behind 21 = .ok (.iload_n 3, 1) := by decide +kernel
theorem dX8_behind_22 : decode cX8_behind 22 = .ok (.iconst 0, 1) := by decide +kernel
theorem dX8_behind_23 : decode cX8_behind 23 = .ok (.iconst 2, 1) := by decide +kernel
theorem dX8_behind_24 : decode cX8_behind 24 = .ok (.invokestatic 74, 3) := by decide +kernel
theorem dX8_behind_27 : decode cX8_behind 27 = .ok (.ifCond .ne 6, 3) := by decide +kernel
theorem dX8_behind_30 : decode cX8_behind 30 = .ok (.ldc 78, 2) := by decide +kernel
theorem dX8_behind_32 : decode cX8_behind 32 = .ok (.ireturn, 1) := by decide +kernel
theorem dX8_behind_33 : decode cX8_behind 33 = .ok (.aload_n 0, 1) := by decide +kernel
theorem dX8_behind_34 : decode cX8_behind 34 = .ok (.getfield 28, 3) := by decide +kernel
theorem dX8_behind_37 : decode cX8_behind 37 = .ok (.aload_n 0, 1) := by decide +kernel
theorem dX8_behind_38 : decode cX8_behind 38 = .ok (.getfield 21, 3) := by decide +kernel
theorem dX8_behind_41 : decode cX8_behind 41 = .ok (.invokevirtual 222, 3) := by decide +kernel
theorem dX8_behind_44 : decode cX8_behind 44 = .ok (.iconst 0, 1) := by decide +kernel
theorem dX8_behind_45 : decode cX8_behind 45 = .ok (.istore 4, 2) := by decide +kernel
theorem dX8_behind_47 : decode cX8_behind 47 = .ok (.iload 4, 2) := by decide +kernel
theorem dX8_behind_49 : decode cX8_behind 49 = .ok (.iload_n 2, 1) := by decide +kernel
theorem dX8_behind_50 : decode cX8_behind 50 = .ok (.if_icmp .ge 16, 3) := by decide +kernel
theorem dX8_behind_53 : decode cX8_behind 53 = .ok (.aload_n 0, 1) := by decide +kernel
theorem dX8_behind_54 : decode cX8_behind 54 = .ok (.getfield 28, 3) := by decide +kernel
theorem dX8_behind_57 : decode cX8_behind 57 = .ok (.invokevirtual 192, 3) := by decide +kernel
theorem dX8_behind_60 : decode cX8_behind 60 = .ok (.iinc 4 1, 3) := by decide +kernel
theorem dX8_behind_63 : decode cX8_behind 63 = .ok (.goto (-16), 3) := by decide +kernel
theorem dX8_behind_66 : decode cX8_behind 66 = .ok (.iload_n 3, 1) := by decide +kernel
theorem dX8_behind_67 : decode cX8_behind 67 = .ok (.lookupswitch 46 #[(0, 25), (1, 33)], 25) := by decide +kernel
theorem dX8_behind_92 : decode cX8_behind 92 = .ok (.aload_n 0, 1) := by decide +kernel
theorem dX8_behind_93 : decode cX8_behind 93 = .ok (.getfield 28, 3) := by decide +kernel
theorem dX8_behind_96 : decode cX8_behind 96 = .ok (.invokevirtual 225, 3) := by decide +kernel
theorem dX8_behind_99 : decode cX8_behind 99 = .ok (.ireturn, 1) := by decide +kernel
theorem dX8_behind_100 : decode cX8_behind 100 = .ok (.aload_n 0, 1) := by decide +kernel
theorem dX8_behind_101 : decode cX8_behind 101 = .ok (.getfield 28, 3) := by decide +kernel
theorem dX8_behind_104 : decode cX8_behind 104 = .ok (.getfield 139, 3) := by decide +kernel
theorem dX8_behind_107 : decode cX8_behind 107 = .ok (.iload_n 1, 1) := by decide +kernel
theorem dX8_behind_108 : decode cX8_behind 108 = .ok (.aaload, 1) := by decide +kernel
theorem dX8_behind_109 : decode cX8_behind 109 = .ok (.getfield 143, 3) := by decide +kernel
theorem dX8_behind_112 : decode cX8_behind 112 = .ok (.ireturn, 1) := by decide +kernel
theorem dX8_behind_113 : decode cX8_behind 113 = .ok (.aload_n 0, 1) := by decide +kernel
theorem dX8_behind_114 : decode cX8_behind 114 = .ok (.getfield 28, 3) := by decide +kernel
theorem dX8_behind_117 : decode cX8_behind 117 = .ok (.getfield 123, 3) := by decide +kernel
theorem dX8_behind_120 : decode cX8_behind 120 = .ok (.ireturn, 1) := by decide +kernel
theorem dX8_turnsBy_0 : decode cX8_turnsBy 0 = .ok (.aload_n 0, 1) := by decide +kernel
theorem dX8_turnsBy_1 : decode cX8_turnsBy 1 = .ok (.getfield 28, 3) := by decide +kernel
theorem dX8_turnsBy_4 : decode cX8_turnsBy 4 = .ok (.aload_n 0, 1) := by decide +kernel
theorem dX8_turnsBy_5 : decode cX8_turnsBy 5 = .ok (.getfield 21, 3) := by decide +kernel
theorem dX8_turnsBy_8 : decode cX8_turnsBy 8 = .ok (.invokevirtual 222, 3) := by decide +kernel
theorem dX8_turnsBy_11 : decode cX8_turnsBy 11 = .ok (.iconst 0, 1) := by decide +kernel
theorem dX8_turnsBy_12 : decode cX8_turnsBy 12 = .ok (.istore_n 1, 1) := by decide +kernel
theorem dX8_turnsBy_13 : decode cX8_turnsBy 13 = .ok (.iload_n 1, 1) := by decide +kernel
theorem dX8_turnsBy_14 : decode cX8_turnsBy 14 = .ok (.sipush 200, 3) := by decide +kernel
theorem dX8_turnsBy_17 : decode cX8_turnsBy 17 = .ok (.if_icmp .ge 28, 3) := by decide +kernel
theorem dX8_turnsBy_20 : decode cX8_turnsBy 20 = .ok (.aload_n 0, 1) := by decide +kernel
theorem dX8_turnsBy_21 : decode cX8_turnsBy 21 = .ok (.getfield 28, 3) := by decide +kernel
theorem dX8_turnsBy_24 : decode cX8_turnsBy 24 = .ok (.invokevirtual 176, 3) := by decide +kernel
theorem dX8_turnsBy_27 : decode cX8_turnsBy 27 = .ok (.ifCond .eq 5, 3) := by decide +kernel
theorem dX8_turnsBy_30 : decode cX8_turnsBy 30 = .ok (.iload_n 1, 1) := by decide +kernel
theorem dX8_turnsBy_31 : decode cX8_turnsBy 31 = .ok (.ireturn, 1) := by decide +kernel
theorem dX8_turnsBy_32 : decode cX8_turnsBy 32 = .ok (.aload_n 0, 1) := by decide +kernel
theorem dX8_turnsBy_33 : decode cX8_turnsBy 33 = .ok (.getfield 28, 3) := by decide +kernel
theorem dX8_turnsBy_36 : decode cX8_turnsBy 36 = .ok (.invokevirtual 192, 3) := by decide +kernel
theorem dX8_turnsBy_39 : decode cX8_turnsBy 39 = .ok (.iinc 1 1, 3) := by decide +kernel
theorem dX8_turnsBy_42 : decode cX8_turnsBy 42 = .ok (.goto (-29), 3) := by decide +kernel
theorem dX8_turnsBy_45 : decode cX8_turnsBy 45 = .ok (.aload_n 0, 1) := by decide +kernel
theorem dX8_turnsBy_46 : decode cX8_turnsBy 46 = .ok (.getfield 28, 3) := by decide +kernel
theorem dX8_turnsBy_49 : decode cX8_turnsBy 49 = .ok (.invokevirtual 176, 3) := by decide +kernel
theorem dX8_turnsBy_52 : decode cX8_turnsBy 52 = .ok (.ifCond .eq 9, 3) := by decide +kernel
theorem dX8_turnsBy_55 : decode cX8_turnsBy 55 = .ok (.sipush 200, 3) := by decide +kernel
theorem dX8_turnsBy_58 : decode cX8_turnsBy 58 = .ok (.goto 5, 3) := by decide +kernel
theorem dX8_turnsBy_61 : decode cX8_turnsBy 61 = .ok (.ldc 205, 2) := by decide +kernel
theorem dX8_turnsBy_63 : decode cX8_turnsBy 63 = .ok (.ireturn, 1) := by decide +kernel
theorem dX8_quota_0 : decode cX8_quota 0 = .ok (.iload_n 1, 1) := by decide +kernel
theorem dX8_quota_1 : decode cX8_quota 1 = .ok (.invokestatic 228, 3) := by decide +kernel
theorem dX8_quota_4 : decode cX8_quota 4 = .ok (.ifCond .eq 23, 3) := by decide +kernel
theorem dX8_quota_7 : decode cX8_quota 7 = .ok (.aload_n 0, 1) := by decide +kernel
theorem dX8_quota_8 : decode cX8_quota 8 = .ok (.getfield 21, 3) := by decide +kernel
theorem dX8_quota_11 : decode cX8_quota 11 = .ok (.iload_n 2, 1) := by decide +kernel
theorem dX8_quota_12 : decode cX8_quota 12 = .ok (.invokevirtual 88, 3) := by decide +kernel
theorem dX8_quota_15 : decode cX8_quota 15 = .ok (.ifCond .eq 12, 3) := by decide +kernel
theorem dX8_quota_18 : decode cX8_quota 18 = .ok (.iload_n 3, 1) := by decide +kernel
theorem dX8_quota_19 : decode cX8_quota 19 = .ok (.iconst 0, 1) := by decide +kernel
theorem dX8_quota_20 : decode cX8_quota 20 = .ok (.iconst 1, 1) := by decide +kernel
theorem dX8_quota_21 : decode cX8_quota 21 = .ok (.invokestatic 74, 3) := by decide +kernel
theorem dX8_quota_24 : decode cX8_quota 24 = .ok (.ifCond .ne 6, 3) := by decide +kernel
theorem dX8_quota_27 : decode cX8_quota 27 = .ok (.ldc 78, 2) := by decide +kernel
theorem dX8_quota_29 : decode cX8_quota 29 = .ok (.ireturn, 1) := by decide +kernel
theorem dX8_quota_30 : decode cX8_quota 30 = .ok (.aload_n 0, 1) := by decide +kernel
theorem dX8_quota_31 : decode cX8_quota 31 = .ok (.getfield 55, 3) := by decide +kernel
theorem dX8_quota_34 : decode cX8_quota 34 = .ok (.iload_n 1, 1) := by decide +kernel
theorem dX8_quota_35 : decode cX8_quota 35 = .ok (.aaload, 1) := by decide +kernel
theorem dX8_quota_36 : decode cX8_quota 36 = .ok (.invokevirtual 231, 3) := by decide +kernel
theorem dX8_quota_39 : decode cX8_quota 39 = .ok (.ifCond .eq 6, 3) := by decide +kernel
theorem dX8_quota_42 : decode cX8_quota 42 = .ok (.ldc 234, 2) := by decide +kernel
theorem dX8_quota_44 : decode cX8_quota 44 = .ok (.ireturn, 1) := by decide +kernel
theorem dX8_quota_45 : decode cX8_quota 45 = .ok (.iconst 0, 1) := by decide +kernel
theorem dX8_quota_46 : decode cX8_quota 46 = .ok (.istore 4, 2) := by decide +kernel
theorem dX8_quota_48 : decode cX8_quota 48 = .ok (.aload_n 0, 1) := by decide +kernel
theorem dX8_quota_49 : decode cX8_quota 49 = .ok (.aload_n 0, 1) := by decide +kernel
theorem dX8_quota_50 : decode cX8_quota 50 = .ok (.getfield 55, 3) := by decide +kernel
theorem dX8_quota_53 : decode cX8_quota 53 = .ok (.iload_n 1, 1) := by decide +kernel
theorem dX8_quota_54 : decode cX8_quota 54 = .ok (.aaload, 1) := by decide +kernel
theorem dX8_quota_55 : decode cX8_quota 55 = .ok (.iload_n 2, 1) := by decide +kernel
theorem dX8_quota_56 : decode cX8_quota 56 = .ok (.iconst 0, 1) := by decide +kernel
theorem dX8_quota_57 : decode cX8_quota 57 = .ok (.invokevirtual 235, 3) := by decide +kernel
theorem dX8_quota_60 : decode cX8_quota 60 = .ok (.istore 5, 2) := by decide +kernel
theorem dX8_quota_62 : decode cX8_quota 62 = .ok (.iconst 1, 1) := by decide +kernel
theorem dX8_quota_63 : decode cX8_quota 63 = .ok (.istore 6, 2) := by decide +kernel
theorem dX8_quota_65 : decode cX8_quota 65 = .ok (.iload 6, 2) := by decide +kernel
theorem dX8_quota_67 : decode cX8_quota 67 = .ok (.bipush 20, 2) := by decide +kernel
theorem dX8_quota_69 : decode cX8_quota 69 = .ok (.if_icmp .gt 39, 3) := by decide +kernel
theorem dX8_quota_72 : decode cX8_quota 72 = .ok (.aload_n 0, 1) := by decide +kernel
theorem dX8_quota_73 : decode cX8_quota 73 = .ok (.aload_n 0, 1) := by decide +kernel
theorem dX8_quota_74 : decode cX8_quota 74 = .ok (.getfield 55, 3) := by decide +kernel
theorem dX8_quota_77 : decode cX8_quota 77 = .ok (.iload_n 1, 1) := by decide +kernel
theorem dX8_quota_78 : decode cX8_quota 78 = .ok (.aaload, 1) := by decide +kernel
theorem dX8_quota_79 : decode cX8_quota 79 = .ok (.iload_n 2, 1) := by decide +kernel
theorem dX8_quota_80 : decode cX8_quota 80 = .ok (.iload 6, 2) := by decide +kernel
theorem dX8_quota_82 : decode cX8_quota 82 = .ok (.invokevirtual 235, 3) := by decide +kernel
theorem dX8_quota_85 : decode cX8_quota 85 = .ok (.istore 7, 2) := by decide +kernel
theorem dX8_quota_87 : decode cX8_quota 87 = .ok (.iload 7, 2) := by decide +kernel
theorem dX8_quota_89 : decode cX8_quota 89 = .ok (.iload 5, 2) := by decide +kernel
theorem dX8_quota_91 : decode cX8_quota 91 = .ok (.if_icmp .ge 11, 3) := by decide +kernel
theorem dX8_quota_94 : decode cX8_quota 94 = .ok (.iload 7, 2) := by decide +kernel
theorem dX8_quota_96 : decode cX8_quota 96 = .ok (.istore 5, 2) := by decide +kernel
theorem dX8_quota_98 : decode cX8_quota 98 = .ok (.iload 6, 2) := by decide +kernel
theorem dX8_quota_100 : decode cX8_quota 100 = .ok (.istore 4, 2) := by decide +kernel
theorem dX8_quota_102 : decode cX8_quota 102 = .ok (.iinc 6 1, 3) := by decide +kernel
theorem dX8_quota_105 : decode cX8_quota 105 = .ok (.goto (-40), 3) := by decide +kernel
theorem dX8_quota_108 : decode cX8_quota 108 = .ok (.iload_n 3, 1) := by decide +kernel
theorem dX8_quota_109 : decode cX8_quota 109 = .ok (.ifCond .ne 8, 3) := by decide +kernel
theorem dX8_quota_112 : decode cX8_quota 112 = .ok (.iload 4, 2) := by decide +kernel
theorem dX8_quota_114 : decode cX8_quota 114 = .ok (.goto 5, 3) := by decide +kernel
theorem dX8_quota_117 : decode cX8_quota 117 = .ok (.iload 5, 2) := by decide +kernel
theorem dX8_quota_119 : decode cX8_quota 119 = .ok (.ireturn, 1) := by decide +kernel
theorem dX8_differences_0 : decode cX8_differences 0 = .ok (.aload_n 0, 1) := by decide +kernel
theorem dX8_differences_1 : decode cX8_differences 1 = .ok (.getfield 28, 3) := by decide +kernel
theorem dX8_differences_4 : decode cX8_differences 4 = .ok (.aload_n 0, 1) := by decide +kernel
theorem dX8_differences_5 : decode cX8_differences 5 = .ok (.getfield 21, 3) := by decide +kernel
theorem dX8_differences_8 : decode cX8_differences 8 = .ok (.invokevirtual 222, 3) := by decide +kernel
theorem dX8_differences_11 : decode cX8_differences 11 = .ok (.aload_n 0, 1) := by decide +kernel
theorem dX8_differences_12 : decode cX8_differences 12 = .ok (.getfield 28, 3) := by decide +kernel
theorem dX8_differences_15 : decode cX8_differences 15 = .ok (.getfield 91, 3) := by decide +kernel
theorem dX8_differences_18 : decode cX8_differences 18 = .ok (.iload_n 2, 1) := by decide +kernel
theorem dX8_differences_19 : decode cX8_differences 19 = .ok (.aaload, 1) := by decide +kernel
theorem dX8_differences_20 : decode cX8_differences 20 = .ok (.astore 4, 2) := by decide +kernel
theorem dX8_differences_22 : decode cX8_differences 22 = .ok (.aload 4, 2) := by decide +kernel
theorem dX8_differences_24 : decode cX8_differences 24 = .ok (.iload_n 3, 1) := by decide +kernel
theorem dX8_differences_25 : decode cX8_differences 25 = .ok (.putfield 106, 3) := by decide +kernel
theorem dX8_differences_28 : decode cX8_differences 28 = .ok (.iconst 0, 1) := by decide +kernel
theorem dX8_differences_29 : decode cX8_differences 29 = .ok (.istore 5, 2) := by decide +kernel
theorem dX8_differences_31 : decode cX8_differences 31 = .ok (.iconst 0, 1) := by decide +kernel
theorem dX8_differences_32 : decode cX8_differences 32 = .ok (.istore 6, 2) := by decide +kernel
theorem dX8_differences_34 : decode cX8_differences 34 = .ok (.iload 6, 2) := by decide +kernel
theorem dX8_differences_36 : decode cX8_differences 36 = .ok (.aload_n 1, 1) := by decide +kernel
theorem dX8_differences_37 : decode cX8_differences 37 = .ok (.getfield 239, 3) := by decide +kernel
theorem dX8_differences_40 : decode cX8_differences 40 = .ok (.if_icmp .ge 51, 3) := by decide +kernel
theorem dX8_differences_43 : decode cX8_differences 43 = .ok (.iload 6, 2) := by decide +kernel
theorem dX8_differences_45 : decode cX8_differences 45 = .ok (.ifCond .le 10, 3) := by decide +kernel
theorem dX8_differences_48 : decode cX8_differences 48 = .ok (.aload_n 0, 1) := by decide +kernel
theorem dX8_differences_49 : decode cX8_differences 49 = .ok (.getfield 28, 3) := by decide +kernel
theorem dX8_differences_52 : decode cX8_differences 52 = .ok (.invokevirtual 192, 3) := by decide +kernel
theorem dX8_differences_55 : decode cX8_differences 55 = .ok (.aload_n 1, 1) := by decide +kernel
theorem dX8_differences_56 : decode cX8_differences 56 = .ok (.iload 6, 2) := by decide +kernel
theorem dX8_differences_58 : decode cX8_differences 58 = .ok (.invokevirtual 242, 3) := by decide +kernel
theorem dX8_differences_61 : decode cX8_differences 61 = .ok (.ifCond .eq 24, 3) := by decide +kernel
theorem dX8_differences_64 : decode cX8_differences 64 = .ok (.iload 5, 2) := by decide +kernel
theorem dX8_differences_66 : decode cX8_differences 66 = .ok (.aload 4, 2) := by decide +kernel
theorem dX8_differences_68 : decode cX8_differences 68 = .ok (.getfield 109, 3) := by decide +kernel
theorem dX8_differences_71 : decode cX8_differences 71 = .ok (.aload_n 1, 1) := by decide +kernel
theorem dX8_differences_72 : decode cX8_differences 72 = .ok (.getfield 245, 3) := by decide +kernel
theorem dX8_differences_75 : decode cX8_differences 75 = .ok (.iload 6, 2) := by decide +kernel
theorem dX8_differences_77 : decode cX8_differences 77 = .ok (.iaload, 1) := by decide +kernel
theorem dX8_differences_78 : decode cX8_differences 78 = .ok (.isub, 1) := by decide +kernel
theorem dX8_differences_79 : decode cX8_differences 79 = .ok (.invokestatic 248, 3) := by decide +kernel
theorem dX8_differences_82 : decode cX8_differences 82 = .ok (.iadd, 1) := by decide +kernel
theorem dX8_differences_83 : decode cX8_differences 83 = .ok (.istore 5, 2) := by decide +kernel
theorem dX8_differences_85 : decode cX8_differences 85 = .ok (.iinc 6 1, 3) := by decide +kernel
theorem dX8_differences_88 : decode cX8_differences 88 = .ok (.goto (-54), 3) := by decide +kernel
theorem dX8_differences_91 : decode cX8_differences 91 = .ok (.iload 5, 2) := by decide +kernel
theorem dX8_differences_93 : decode cX8_differences 93 = .ok (.ireturn, 1) := by decide +kernel
theorem dX8_bill_0 : decode cX8_bill 0 = .ok (.aload_n 0, 1) := by decide +kernel
theorem dX8_bill_1 : decode cX8_bill 1 = .ok (.getfield 21, 3) := by decide +kernel
theorem dX8_bill_4 : decode cX8_bill 4 = .ok (.iload_n 1, 1) := by decide +kernel
theorem dX8_bill_5 : decode cX8_bill 5 = .ok (.invokevirtual 136, 3) := by decide +kernel
theorem dX8_bill_8 : decode cX8_bill 8 = .ok (.ifCond .ne 6, 3) := by decide +kernel
theorem dX8_bill_11 : decode cX8_bill 11 = .ok (.ldc 78, 2) := by decide +kernel
theorem dX8_bill_13 : decode cX8_bill 13 = .ok (.ireturn, 1) := by decide +kernel
theorem dX8_bill_14 : decode cX8_bill 14 = .ok (.aload_n 0, 1) := by decide +kernel
theorem dX8_bill_15 : decode cX8_bill 15 = .ok (.getfield 21, 3) := by decide +kernel
theorem dX8_bill_18 : decode cX8_bill 18 = .ok (.getfield 139, 3) := by decide +kernel
theorem dX8_bill_21 : decode cX8_bill 21 = .ok (.iload_n 1, 1) := by decide +kernel
theorem dX8_bill_22 : decode cX8_bill 22 = .ok (.aaload, 1) := by decide +kernel
theorem dX8_bill_23 : decode cX8_bill 23 = .ok (.astore_n 2, 1) := by decide +kernel
theorem dX8_bill_24 : decode cX8_bill 24 = .ok (.aload_n 0, 1) := by decide +kernel
theorem dX8_bill_25 : decode cX8_bill 25 = .ok (.getfield 21, 3) := by decide +kernel
theorem dX8_bill_28 : decode cX8_bill 28 = .ok (.iconst 1, 1) := by decide +kernel
theorem dX8_bill_29 : decode cX8_bill 29 = .ok (.invokevirtual 251, 3) := by decide +kernel
theorem dX8_bill_32 : decode cX8_bill 32 = .ok (.istore_n 3, 1) := by decide +kernel
theorem dX8_bill_33 : decode cX8_bill 33 = .ok (.iload_n 3, 1) := by decide +kernel
theorem dX8_bill_34 : decode cX8_bill 34 = .ok (.ldc 205, 2) := by decide +kernel
theorem dX8_bill_36 : decode cX8_bill 36 = .ok (.if_icmp .ne 10, 3) := by decide +kernel
theorem dX8_bill_39 : decode cX8_bill 39 = .ok (.aload_n 2, 1) := by decide +kernel
theorem dX8_bill_40 : decode cX8_bill 40 = .ok (.getfield 148, 3) := by decide +kernel
theorem dX8_bill_43 : decode cX8_bill 43 = .ok (.goto 23, 3) := by decide +kernel
theorem dX8_bill_46 : decode cX8_bill 46 = .ok (.aload_n 0, 1) := by decide +kernel
theorem dX8_bill_47 : decode cX8_bill 47 = .ok (.getfield 10, 3) := by decide +kernel
theorem dX8_bill_50 : decode cX8_bill 50 = .ok (.iload_n 3, 1) := by decide +kernel
theorem dX8_bill_51 : decode cX8_bill 51 = .ok (.aload_n 2, 1) := by decide +kernel
theorem dX8_bill_52 : decode cX8_bill 52 = .ok (.getfield 148, 3) := by decide +kernel
theorem dX8_bill_55 : decode cX8_bill 55 = .ok (.aload_n 2, 1) := by decide +kernel
theorem dX8_bill_56 : decode cX8_bill 56 = .ok (.getfield 143, 3) := by decide +kernel
theorem dX8_bill_59 : decode cX8_bill 59 = .ok (.invokestatic 180, 3) := by decide +kernel
theorem dX8_bill_62 : decode cX8_bill 62 = .ok (.iconst 0, 1) := by decide +kernel
theorem dX8_bill_63 : decode cX8_bill 63 = .ok (.invokevirtual 254, 3) := by decide +kernel
theorem dX8_bill_66 : decode cX8_bill 66 = .ok (.ireturn, 1) := by decide +kernel
theorem dX8_fine_0 : decode cX8_fine 0 = .ok (.aload_n 0, 1) := by decide +kernel
theorem dX8_fine_1 : decode cX8_fine 1 = .ok (.getfield 21, 3) := by decide +kernel
theorem dX8_fine_4 : decode cX8_fine 4 = .ok (.invokevirtual 186, 3) := by decide +kernel
theorem dX8_fine_7 : decode cX8_fine 7 = .ok (.istore_n 1, 1) := by decide +kernel
theorem dX8_fine_8 : decode cX8_fine 8 = .ok (.aload_n 0, 1) := by decide +kernel
theorem dX8_fine_9 : decode cX8_fine 9 = .ok (.getfield 21, 3) := by decide +kernel
theorem dX8_fine_12 : decode cX8_fine 12 = .ok (.iconst 2, 1) := by decide +kernel
theorem dX8_fine_13 : decode cX8_fine 13 = .ok (.invokevirtual 251, 3) := by decide +kernel
theorem dX8_fine_16 : decode cX8_fine 16 = .ok (.istore_n 2, 1) := by decide +kernel
theorem dX8_fine_17 : decode cX8_fine 17 = .ok (.iload_n 2, 1) := by decide +kernel
theorem dX8_fine_18 : decode cX8_fine 18 = .ok (.ldc 205, 2) := by decide +kernel
theorem dX8_fine_20 : decode cX8_fine 20 = .ok (.if_icmp .ne 7, 3) := by decide +kernel
theorem dX8_fine_23 : decode cX8_fine 23 = .ok (.iload_n 1, 1) := by decide +kernel
theorem dX8_fine_24 : decode cX8_fine 24 = .ok (.goto 23, 3) := by decide +kernel
theorem dX8_fine_27 : decode cX8_fine 27 = .ok (.aload_n 0, 1) := by decide +kernel
theorem dX8_fine_28 : decode cX8_fine 28 = .ok (.getfield 10, 3) := by decide +kernel
theorem dX8_fine_31 : decode cX8_fine 31 = .ok (.iload_n 2, 1) := by decide +kernel
theorem dX8_fine_32 : decode cX8_fine 32 = .ok (.iload_n 1, 1) := by decide +kernel
theorem dX8_fine_33 : decode cX8_fine 33 = .ok (.aload_n 0, 1) := by decide +kernel
theorem dX8_fine_34 : decode cX8_fine 34 = .ok (.getfield 21, 3) := by decide +kernel
theorem dX8_fine_37 : decode cX8_fine 37 = .ok (.getfield 123, 3) := by decide +kernel
theorem dX8_fine_40 : decode cX8_fine 40 = .ok (.invokestatic 180, 3) := by decide +kernel
theorem dX8_fine_43 : decode cX8_fine 43 = .ok (.iconst 0, 1) := by decide +kernel
theorem dX8_fine_44 : decode cX8_fine 44 = .ok (.invokevirtual 254, 3) := by decide +kernel
theorem dX8_fine_47 : decode cX8_fine 47 = .ok (.ireturn, 1) := by decide +kernel
theorem dX8_feed_0 : decode cX8_feed 0 = .ok (.aload_n 0, 1) := by decide +kernel
theorem dX8_feed_1 : decode cX8_feed 1 = .ok (.getfield 257, 3) := by decide +kernel
theorem dX8_feed_4 : decode cX8_feed 4 = .ok (.bipush 12, 2) := by decide +kernel
theorem dX8_feed_6 : decode cX8_feed 6 = .ok (.iadd, 1) := by decide +kernel
theorem dX8_feed_7 : decode cX8_feed 7 = .ok (.bipush 96, 2) := by decide +kernel
theorem dX8_feed_9 : decode cX8_feed 9 = .ok (.if_icmp .le 6, 3) := by decide +kernel
theorem dX8_feed_12 : decode cX8_feed 12 = .ok (.ldc 83, 2) := by decide +kernel
theorem dX8_feed_14 : decode cX8_feed 14 = .ok (.ireturn, 1) := by decide +kernel
theorem dX8_feed_15 : decode cX8_feed 15 = .ok (.aload_n 0, 1) := by decide +kernel
theorem dX8_feed_16 : decode cX8_feed 16 = .ok (.iload_n 1, 1) := by decide +kernel
theorem dX8_feed_17 : decode cX8_feed 17 = .ok (.invokevirtual 260, 3) := by decide +kernel
theorem dX8_feed_20 : decode cX8_feed 20 = .ok (.aload_n 0, 1) := by decide +kernel
theorem dX8_feed_21 : decode cX8_feed 21 = .ok (.iload_n 2, 1) := by decide +kernel
theorem dX8_feed_22 : decode cX8_feed 22 = .ok (.invokevirtual 260, 3) := by decide +kernel
theorem dX8_feed_25 : decode cX8_feed 25 = .ok (.aload_n 0, 1) := by decide +kernel
theorem dX8_feed_26 : decode cX8_feed 26 = .ok (.iload_n 3, 1) := by decide +kernel
theorem dX8_feed_27 : decode cX8_feed 27 = .ok (.invokevirtual 260, 3) := by decide +kernel
theorem dX8_feed_30 : decode cX8_feed 30 = .ok (.aload_n 0, 1) := by decide +kernel
theorem dX8_feed_31 : decode cX8_feed 31 = .ok (.getfield 257, 3) := by decide +kernel
theorem dX8_feed_34 : decode cX8_feed 34 = .ok (.ireturn, 1) := by decide +kernel
theorem dX8_addBytes_0 : decode cX8_addBytes 0 = .ok (.bipush 24, 2) := by decide +kernel
theorem dX8_addBytes_2 : decode cX8_addBytes 2 = .ok (.istore_n 2, 1) := by decide +kernel
theorem dX8_addBytes_3 : decode cX8_addBytes 3 = .ok (.iload_n 2, 1) := by decide +kernel
theorem dX8_addBytes_4 : decode cX8_addBytes 4 = .ok (.ifCond .lt 35, 3) := by decide +kernel
theorem dX8_addBytes_7 : decode cX8_addBytes 7 = .ok (.aload_n 0, 1) := by decide +kernel
theorem dX8_addBytes_8 : decode cX8_addBytes 8 = .ok (.getfield 40, 3) := by decide +kernel
theorem dX8_addBytes_11 : decode cX8_addBytes 11 = .ok (.aload_n 0, 1) := by decide +kernel
theorem dX8_addBytes_12 : decode cX8_addBytes 12 = .ok (.getfield 257, 3) := by decide +kernel
theorem dX8_addBytes_15 : decode cX8_addBytes 15 = .ok (.iload_n 1, 1) := by decide +kernel
theorem dX8_addBytes_16 : decode cX8_addBytes 16 = .ok (.iload_n 2, 1) := by decide +kernel
theorem dX8_addBytes_17 : decode cX8_addBytes 17 = .ok (.ishr, 1) := by decide +kernel
theorem dX8_addBytes_18 : decode cX8_addBytes 18 = .ok (.sipush 255, 3) := by decide +kernel
theorem dX8_addBytes_21 : decode cX8_addBytes 21 = .ok (.iand, 1) := by decide +kernel
theorem dX8_addBytes_22 : decode cX8_addBytes 22 = .ok (.iastore, 1) := by decide +kernel
theorem dX8_addBytes_23 : decode cX8_addBytes 23 = .ok (.aload_n 0, 1) := by decide +kernel
theorem dX8_addBytes_24 : decode cX8_addBytes 24 = .ok (.dup, 1) := by decide +kernel
theorem dX8_addBytes_25 : decode cX8_addBytes 25 = .ok (.getfield 257, 3) := by decide +kernel
theorem dX8_addBytes_28 : decode cX8_addBytes 28 = .ok (.iconst 1, 1) := by decide +kernel
theorem dX8_addBytes_29 : decode cX8_addBytes 29 = .ok (.iadd, 1) := by decide +kernel
theorem dX8_addBytes_30 : decode cX8_addBytes 30 = .ok (.putfield 257, 3) := by decide +kernel
theorem dX8_addBytes_33 : decode cX8_addBytes 33 = .ok (.iinc 2 (-8), 3) := by decide +kernel
theorem dX8_addBytes_36 : decode cX8_addBytes 36 = .ok (.goto (-33), 3) := by decide +kernel
theorem dX8_addBytes_39 : decode cX8_addBytes 39 = .ok (.return_, 1) := by decide +kernel
theorem dX8_trim_0 : decode cX8_trim 0 = .ok (.iload_n 1, 1) := by decide +kernel
theorem dX8_trim_1 : decode cX8_trim 1 = .ok (.iconst 0, 1) := by decide +kernel
theorem dX8_trim_2 : decode cX8_trim 2 = .ok (.aload_n 0, 1) := by decide +kernel
theorem dX8_trim_3 : decode cX8_trim 3 = .ok (.getfield 257, 3) := by decide +kernel
theorem dX8_trim_6 : decode cX8_trim 6 = .ok (.invokestatic 74, 3) := by decide +kernel
theorem dX8_trim_9 : decode cX8_trim 9 = .ok (.ifCond .ne 6, 3) := by decide +kernel
theorem dX8_trim_12 : decode cX8_trim 12 = .ok (.ldc 78, 2) := by decide +kernel
theorem dX8_trim_14 : decode cX8_trim 14 = .ok (.ireturn, 1) := by decide +kernel
theorem dX8_trim_15 : decode cX8_trim 15 = .ok (.aload_n 0, 1) := by decide +kernel
theorem dX8_trim_16 : decode cX8_trim 16 = .ok (.iload_n 1, 1) := by decide +kernel
theorem dX8_trim_17 : decode cX8_trim 17 = .ok (.putfield 257, 3) := by decide +kernel
theorem dX8_trim_20 : decode cX8_trim 20 = .ok (.iload_n 1, 1) := by decide +kernel
theorem dX8_trim_21 : decode cX8_trim 21 = .ok (.ireturn, 1) := by decide +kernel
theorem dX8_text_0 : decode cX8_text 0 = .ok (.aload_n 0, 1) := by decide +kernel
theorem dX8_text_1 : decode cX8_text 1 = .ok (.getfield 49, 3) := by decide +kernel
theorem dX8_text_4 : decode cX8_text 4 = .ok (.aload_n 0, 1) := by decide +kernel
theorem dX8_text_5 : decode cX8_text 5 = .ok (.getfield 257, 3) := by decide +kernel
theorem dX8_text_8 : decode cX8_text 8 = .ok (.invokevirtual 264, 3) := by decide +kernel
theorem dX8_text_11 : decode cX8_text 11 = .ok (.aload_n 0, 1) := by decide +kernel
theorem dX8_text_12 : decode cX8_text 12 = .ok (.iconst 0, 1) := by decide +kernel
theorem dX8_text_13 : decode cX8_text 13 = .ok (.putfield 257, 3) := by decide +kernel
theorem dX8_text_16 : decode cX8_text 16 = .ok (.aload_n 0, 1) := by decide +kernel
theorem dX8_text_17 : decode cX8_text 17 = .ok (.getfield 49, 3) := by decide +kernel
theorem dX8_text_20 : decode cX8_text 20 = .ok (.getfield 267, 3) := by decide +kernel
theorem dX8_text_23 : decode cX8_text 23 = .ok (.ifCond .lt 14, 3) := by decide +kernel
theorem dX8_text_26 : decode cX8_text 26 = .ok (.bipush (-100), 2) := by decide +kernel
theorem dX8_text_28 : decode cX8_text 28 = .ok (.aload_n 0, 1) := by decide +kernel
theorem dX8_text_29 : decode cX8_text 29 = .ok (.getfield 49, 3) := by decide +kernel
theorem dX8_text_32 : decode cX8_text 32 = .ok (.getfield 267, 3) := by decide +kernel
theorem dX8_text_35 : decode cX8_text 35 = .ok (.isub, 1) := by decide +kernel
theorem dX8_text_36 : decode cX8_text 36 = .ok (.ireturn, 1) := by decide +kernel
theorem dX8_text_37 : decode cX8_text 37 = .ok (.aload_n 0, 1) := by decide +kernel
theorem dX8_text_38 : decode cX8_text 38 = .ok (.getfield 21, 3) := by decide +kernel
theorem dX8_text_41 : decode cX8_text 41 = .ok (.getfield 270, 3) := by decide +kernel
theorem dX8_text_44 : decode cX8_text 44 = .ok (.bipush 14, 2) := by decide +kernel
theorem dX8_text_46 : decode cX8_text 46 = .ok (.if_icmp .lt 6, 3) := by decide +kernel
theorem dX8_text_49 : decode cX8_text 49 = .ok (.ldc 83, 2) := by decide +kernel
theorem dX8_text_51 : decode cX8_text 51 = .ok (.ireturn, 1) := by decide +kernel
theorem dX8_text_52 : decode cX8_text 52 = .ok (.aload_n 0, 1) := by decide +kernel
theorem dX8_text_53 : decode cX8_text 53 = .ok (.getfield 21, 3) := by decide +kernel
theorem dX8_text_56 : decode cX8_text 56 = .ok (.getfield 270, 3) := by decide +kernel
theorem dX8_text_59 : decode cX8_text 59 = .ok (.istore_n 1, 1) := by decide +kernel
theorem dX8_text_60 : decode cX8_text 60 = .ok (.aload_n 0, 1) := by decide +kernel
theorem dX8_text_61 : decode cX8_text 61 = .ok (.getfield 10, 3) := by decide +kernel
theorem dX8_text_64 : decode cX8_text 64 = .ok (.iload_n 1, 1) := by decide +kernel
theorem dX8_text_65 : decode cX8_text 65 = .ok (.aload_n 0, 1) := by decide +kernel
theorem dX8_text_66 : decode cX8_text 66 = .ok (.getfield 49, 3) := by decide +kernel
theorem dX8_text_69 : decode cX8_text 69 = .ok (.invokevirtual 273, 3) := by decide +kernel
theorem dX8_text_72 : decode cX8_text 72 = .ok (.aload_n 0, 1) := by decide +kernel
theorem dX8_text_73 : decode cX8_text 73 = .ok (.getfield 21, 3) := by decide +kernel
theorem dX8_text_76 : decode cX8_text 76 = .ok (.dup, 1) := by decide +kernel
theorem dX8_text_77 : decode cX8_text 77 = .ok (.getfield 270, 3) := by decide +kernel
theorem dX8_text_80 : decode cX8_text 80 = .ok (.iconst 1, 1) := by decide +kernel
theorem dX8_text_81 : decode cX8_text 81 = .ok (.iadd, 1) := by decide +kernel
theorem dX8_text_82 : decode cX8_text 82 = .ok (.putfield 270, 3) := by decide +kernel
theorem dX8_text_85 : decode cX8_text 85 = .ok (.iload_n 1, 1) := by decide +kernel
theorem dX8_text_86 : decode cX8_text 86 = .ok (.ireturn, 1) := by decide +kernel
theorem dX8_textTold_0 : decode cX8_textTold 0 = .ok (.iload_n 1, 1) := by decide +kernel
theorem dX8_textTold_1 : decode cX8_textTold 1 = .ok (.iconst 0, 1) := by decide +kernel
theorem dX8_textTold_2 : decode cX8_textTold 2 = .ok (.aload_n 0, 1) := by decide +kernel
theorem dX8_textTold_3 : decode cX8_textTold 3 = .ok (.getfield 21, 3) := by decide +kernel
theorem dX8_textTold_6 : decode cX8_textTold 6 = .ok (.getfield 270, 3) := by decide +kernel
theorem dX8_textTold_9 : decode cX8_textTold 9 = .ok (.iconst 1, 1) := by decide +kernel
theorem dX8_textTold_10 : decode cX8_textTold 10 = .ok (.isub, 1) := by decide +kernel
theorem dX8_textTold_11 : decode cX8_textTold 11 = .ok (.invokestatic 74, 3) := by decide +kernel
theorem dX8_textTold_14 : decode cX8_textTold 14 = .ok (.ifCond .eq 12, 3) := by decide +kernel
theorem dX8_textTold_17 : decode cX8_textTold 17 = .ok (.iload_n 2, 1) := by decide +kernel
theorem dX8_textTold_18 : decode cX8_textTold 18 = .ok (.iconst 0, 1) := by decide +kernel
theorem dX8_textTold_19 : decode cX8_textTold 19 = .ok (.iconst 1, 1) := by decide +kernel
theorem dX8_textTold_20 : decode cX8_textTold 20 = .ok (.invokestatic 74, 3) := by decide +kernel
theorem dX8_textTold_23 : decode cX8_textTold 23 = .ok (.ifCond .ne 6, 3) := by decide +kernel
theorem dX8_textTold_26 : decode cX8_textTold 26 = .ok (.ldc 78, 2) := by decide +kernel
theorem dX8_textTold_28 : decode cX8_textTold 28 = .ok (.ireturn, 1) := by decide +kernel
theorem dX8_textTold_29 : decode cX8_textTold 29 = .ok (.iload_n 2, 1) := by decide +kernel
theorem dX8_textTold_30 : decode cX8_textTold 30 = .ok (.ifCond .ne 15, 3) := by decide +kernel
theorem dX8_textTold_33 : decode cX8_textTold 33 = .ok (.aload_n 0, 1) := by decide +kernel
theorem dX8_textTold_34 : decode cX8_textTold 34 = .ok (.getfield 10, 3) := by decide +kernel
theorem dX8_textTold_37 : decode cX8_textTold 37 = .ok (.getfield 276, 3) := by decide +kernel
theorem dX8_textTold_40 : decode cX8_textTold 40 = .ok (.iload_n 1, 1) := by decide +kernel
theorem dX8_textTold_41 : decode cX8_textTold 41 = .ok (.iaload, 1) := by decide +kernel
theorem dX8_textTold_42 : decode cX8_textTold 42 = .ok (.goto 12, 3) := by decide +kernel
theorem dX8_textTold_45 : decode cX8_textTold 45 = .ok (.aload_n 0, 1) := by decide +kernel
theorem dX8_textTold_46 : decode cX8_textTold 46 = .ok (.getfield 10, 3) := by decide +kernel
theorem dX8_textTold_49 : decode cX8_textTold 49 = .ok (.getfield 279, 3) := by decide +kernel
theorem dX8_textTold_52 : decode cX8_textTold 52 = .ok (.iload_n 1, 1) := by decide +kernel
theorem dX8_textTold_53 : decode cX8_textTold 53 = .ok (.iaload, 1) := by decide +kernel
theorem dX8_textTold_54 : decode cX8_textTold 54 = .ok (.ireturn, 1) := by decide +kernel
theorem dX8_why_0 : decode cX8_why 0 = .ok (.iload_n 1, 1) := by decide +kernel
theorem dX8_why_1 : decode cX8_why 1 = .ok (.iconst 0, 1) := by decide +kernel
theorem dX8_why_2 : decode cX8_why 2 = .ok (.iconst 2, 1) := by decide +kernel
theorem dX8_why_3 : decode cX8_why 3 = .ok (.invokestatic 74, 3) := by decide +kernel
theorem dX8_why_6 : decode cX8_why 6 = .ok (.ifCond .ne 6, 3) := by decide +kernel
theorem dX8_why_9 : decode cX8_why 9 = .ok (.ldc 78, 2) := by decide +kernel
theorem dX8_why_11 : decode cX8_why 11 = .ok (.ireturn, 1) := by decide +kernel
theorem dX8_why_12 : decode cX8_why 12 = .ok (.aload_n 0, 1) := by decide +kernel
theorem dX8_why_13 : decode cX8_why 13 = .ok (.getfield 21, 3) := by decide +kernel
theorem dX8_why_16 : decode cX8_why 16 = .ok (.iload_n 1, 1) := by decide +kernel
theorem dX8_why_17 : decode cX8_why 17 = .ok (.invokevirtual 251, 3) := by decide +kernel
theorem dX8_why_20 : decode cX8_why 20 = .ok (.ireturn, 1) := by decide +kernel
theorem dX8_sheet_0 : decode cX8_sheet 0 = .ok (.iload_n 1, 1) := by decide +kernel
theorem dX8_sheet_1 : decode cX8_sheet 1 = .ok (.invokestatic 228, 3) := by decide +kernel
theorem dX8_sheet_4 : decode cX8_sheet 4 = .ok (.ifCond .eq 12, 3) := by decide +kernel
theorem dX8_sheet_7 : decode cX8_sheet 7 = .ok (.iload_n 2, 1) := by decide +kernel
theorem dX8_sheet_8 : decode cX8_sheet 8 = .ok (.iconst (-1), 1) := by decide +kernel
theorem dX8_sheet_9 : decode cX8_sheet 9 = .ok (.iconst 1, 1) := by decide +kernel
theorem dX8_sheet_10 : decode cX8_sheet 10 = .ok (.invokestatic 74, 3) := by decide +kernel
theorem dX8_sheet_13 : decode cX8_sheet 13 = .ok (.ifCond .ne 6, 3) := by decide +kernel
theorem dX8_sheet_16 : decode cX8_sheet 16 = .ok (.ldc 78, 2) := by decide +kernel
theorem dX8_sheet_18 : decode cX8_sheet 18 = .ok (.ireturn, 1) := by decide +kernel
theorem dX8_sheet_19 : decode cX8_sheet 19 = .ok (.iload_n 2, 1) := by decide +kernel
theorem dX8_sheet_20 : decode cX8_sheet 20 = .ok (.iconst (-1), 1) := by decide +kernel
theorem dX8_sheet_21 : decode cX8_sheet 21 = .ok (.if_icmp .ne 16, 3) := by decide +kernel
theorem dX8_sheet_24 : decode cX8_sheet 24 = .ok (.aload_n 0, 1) := by decide +kernel
theorem dX8_sheet_25 : decode cX8_sheet 25 = .ok (.getfield 55, 3) := by decide +kernel
theorem dX8_sheet_28 : decode cX8_sheet 28 = .ok (.iload_n 1, 1) := by decide +kernel
theorem dX8_sheet_29 : decode cX8_sheet 29 = .ok (.aaload, 1) := by decide +kernel
theorem dX8_sheet_30 : decode cX8_sheet 30 = .ok (.iconst (-1), 1) := by decide +kernel
theorem dX8_sheet_31 : decode cX8_sheet 31 = .ok (.iconst 0, 1) := by decide +kernel
theorem dX8_sheet_32 : decode cX8_sheet 32 = .ok (.invokevirtual 282, 3) := by decide +kernel
theorem dX8_sheet_35 : decode cX8_sheet 35 = .ok (.iconst 0, 1) := by decide +kernel
theorem dX8_sheet_36 : decode cX8_sheet 36 = .ok (.ireturn, 1) := by decide +kernel
theorem dX8_sheet_37 : decode cX8_sheet 37 = .ok (.iload_n 3, 1) := by decide +kernel
theorem dX8_sheet_38 : decode cX8_sheet 38 = .ok (.bipush 24, 2) := by decide +kernel
theorem dX8_sheet_40 : decode cX8_sheet 40 = .ok (.if_icmp .le 6, 3) := by decide +kernel
theorem dX8_sheet_43 : decode cX8_sheet 43 = .ok (.ldc 78, 2) := by decide +kernel
theorem dX8_sheet_45 : decode cX8_sheet 45 = .ok (.ireturn, 1) := by decide +kernel
theorem dX8_sheet_46 : decode cX8_sheet 46 = .ok (.iload_n 3, 1) := by decide +kernel
theorem dX8_sheet_47 : decode cX8_sheet 47 = .ok (.ifCond .ge 7, 3) := by decide +kernel
theorem dX8_sheet_50 : decode cX8_sheet 50 = .ok (.ldc_w 286, 3) := by decide +kernel
theorem dX8_sheet_53 : decode cX8_sheet 53 = .ok (.ireturn, 1) := by decide +kernel
theorem dX8_sheet_54 : decode cX8_sheet 54 = .ok (.aload_n 0, 1) := by decide +kernel
theorem dX8_sheet_55 : decode cX8_sheet 55 = .ok (.getfield 55, 3) := by decide +kernel
theorem dX8_sheet_58 : decode cX8_sheet 58 = .ok (.iload_n 1, 1) := by decide +kernel
theorem dX8_sheet_59 : decode cX8_sheet 59 = .ok (.aaload, 1) := by decide +kernel
theorem dX8_sheet_60 : decode cX8_sheet 60 = .ok (.iload_n 2, 1) := by decide +kernel
theorem dX8_sheet_61 : decode cX8_sheet 61 = .ok (.iload_n 3, 1) := by decide +kernel
theorem dX8_sheet_62 : decode cX8_sheet 62 = .ok (.invokevirtual 282, 3) := by decide +kernel
theorem dX8_sheet_65 : decode cX8_sheet 65 = .ok (.iload_n 3, 1) := by decide +kernel
theorem dX8_sheet_66 : decode cX8_sheet 66 = .ok (.ireturn, 1) := by decide +kernel
theorem dX8_mark_0 : decode cX8_mark 0 = .ok (.iload_n 1, 1) := by decide +kernel
theorem dX8_mark_1 : decode cX8_mark 1 = .ok (.invokestatic 228, 3) := by decide +kernel
theorem dX8_mark_4 : decode cX8_mark 4 = .ok (.ifCond .ne 6, 3) := by decide +kernel
theorem dX8_mark_7 : decode cX8_mark 7 = .ok (.ldc 78, 2) := by decide +kernel
theorem dX8_mark_9 : decode cX8_mark 9 = .ok (.ireturn, 1) := by decide +kernel
theorem dX8_mark_10 : decode cX8_mark 10 = .ok (.aload_n 0, 1) := by decide +kernel
theorem dX8_mark_11 : decode cX8_mark 11 = .ok (.getfield 55, 3) := by decide +kernel
theorem dX8_mark_14 : decode cX8_mark 14 = .ok (.iload_n 1, 1) := by decide +kernel
theorem dX8_mark_15 : decode cX8_mark 15 = .ok (.aaload, 1) := by decide +kernel
theorem dX8_mark_16 : decode cX8_mark 16 = .ok (.astore 4, 2) := by decide +kernel
theorem dX8_mark_18 : decode cX8_mark 18 = .ok (.aload 4, 2) := by decide +kernel
theorem dX8_mark_20 : decode cX8_mark 20 = .ok (.invokevirtual 231, 3) := by decide +kernel
theorem dX8_mark_23 : decode cX8_mark 23 = .ok (.ifCond .eq 6, 3) := by decide +kernel
theorem dX8_mark_26 : decode cX8_mark 26 = .ok (.ldc 234, 2) := by decide +kernel
theorem dX8_mark_28 : decode cX8_mark 28 = .ok (.ireturn, 1) := by decide +kernel
theorem dX8_mark_29 : decode cX8_mark 29 = .ok (.aload 4, 2) := by decide +kernel
theorem dX8_mark_31 : decode cX8_mark 31 = .ok (.iload_n 2, 1) := by decide +kernel
theorem dX8_mark_32 : decode cX8_mark 32 = .ok (.invokevirtual 287, 3) := by decide +kernel
theorem dX8_mark_35 : decode cX8_mark 35 = .ok (.ifCond .ne 7, 3) := by decide +kernel
theorem dX8_mark_38 : decode cX8_mark 38 = .ok (.ldc_w 290, 3) := by decide +kernel
theorem dX8_mark_41 : decode cX8_mark 41 = .ok (.ireturn, 1) := by decide +kernel
theorem dX8_mark_42 : decode cX8_mark 42 = .ok (.aload 4, 2) := by decide +kernel
theorem dX8_mark_44 : decode cX8_mark 44 = .ok (.getfield 291, 3) := by decide +kernel
theorem dX8_mark_47 : decode cX8_mark 47 = .ok (.ifCond .ne 12, 3) := by decide +kernel
theorem dX8_mark_50 : decode cX8_mark 50 = .ok (.iload_n 3, 1) := by decide +kernel
theorem dX8_mark_51 : decode cX8_mark 51 = .ok (.ldc 205, 2) := by decide +kernel
theorem dX8_mark_53 : decode cX8_mark 53 = .ok (.if_icmp .ne 6, 3) := by decide +kernel
theorem dX8_mark_56 : decode cX8_mark 56 = .ok (.ldc 129, 2) := by decide +kernel
theorem dX8_mark_58 : decode cX8_mark 58 = .ok (.ireturn, 1) := by decide +kernel
theorem dX8_mark_59 : decode cX8_mark 59 = .ok (.aload 4, 2) := by decide +kernel
theorem dX8_mark_61 : decode cX8_mark 61 = .ok (.getfield 291, 3) := by decide +kernel
theorem dX8_mark_64 : decode cX8_mark 64 = .ok (.iconst 1, 1) := by decide +kernel
theorem dX8_mark_65 : decode cX8_mark 65 = .ok (.if_icmp .ne 25, 3) := by decide +kernel
theorem dX8_mark_68 : decode cX8_mark 68 = .ok (.iload_n 3, 1) := by decide +kernel
theorem dX8_mark_69 : decode cX8_mark 69 = .ok (.ldc 205, 2) := by decide +kernel
theorem dX8_mark_71 : decode cX8_mark 71 = .ok (.if_icmp .eq 19, 3) := by decide +kernel
theorem dX8_mark_74 : decode cX8_mark 74 = .ok (.iload_n 3, 1) := by decide +kernel
theorem dX8_mark_75 : decode cX8_mark 75 = .ok (.ldc_w 294, 3) := by decide +kernel
theorem dX8_mark_78 : decode cX8_mark 78 = .ok (.ldc_w 295, 3) := by decide +kernel
