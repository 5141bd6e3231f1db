theorem dX8_mark_81 : decode cX8_mark 81 = .ok (.invokestatic 74, 3) := by decide +kernel
theorem dX8_mark_84 : decode cX8_mark 84 = .ok (.ifCond .ne 6, 3) := by decide +kernel
theorem dX8_mark_87 : decode cX8_mark 87 = .ok (.ldc 78, 2) := by decide +kernel
theorem dX8_mark_89 : decode cX8_mark 89 = .ok (.ireturn, 1) := by decide +kernel
theorem dX8_mark_90 : decode cX8_mark 90 = .ok (.aload 4, 2) := by decide +kernel
theorem dX8_mark_92 : decode cX8_mark 92 = .ok (.getfield 245, 3) := by decide +kernel
theorem dX8_mark_95 : decode cX8_mark 95 = .ok (.iload_n 2, 1) := by decide +kernel
theorem dX8_mark_96 : decode cX8_mark 96 = .ok (.aload 4, 2) := by decide +kernel
theorem dX8_mark_98 : decode cX8_mark 98 = .ok (.getfield 291, 3) := by decide +kernel
theorem dX8_mark_101 : decode cX8_mark 101 = .ok (.ifCond .ne 8, 3) := by decide +kernel
theorem dX8_mark_104 : decode cX8_mark 104 = .ok (.iload_n 3, 1) := by decide +kernel
theorem dX8_mark_105 : decode cX8_mark 105 = .ok (.i2s, 1) := by decide +kernel
theorem dX8_mark_106 : decode cX8_mark 106 = .ok (.goto 4, 3) := by decide +kernel
theorem dX8_mark_109 : decode cX8_mark 109 = .ok (.iload_n 3, 1) := by decide +kernel
theorem dX8_mark_110 : decode cX8_mark 110 = .ok (.iastore, 1) := by decide +kernel
theorem dX8_mark_111 : decode cX8_mark 111 = .ok (.iconst 1, 1) := by decide +kernel
theorem dX8_mark_112 : decode cX8_mark 112 = .ok (.ireturn, 1) := by decide +kernel
theorem dX8_pour_0 : decode cX8_pour 0 = .ok (.iload_n 1, 1) := by decide +kernel
theorem dX8_pour_1 : decode cX8_pour 1 = .ok (.invokestatic 228, 3) := by decide +kernel
theorem dX8_pour_4 : decode cX8_pour 4 = .ok (.ifCond .ne 6, 3) := by decide +kernel
theorem dX8_pour_7 : decode cX8_pour 7 = .ok (.ldc 78, 2) := by decide +kernel
theorem dX8_pour_9 : decode cX8_pour 9 = .ok (.ireturn, 1) := by decide +kernel
theorem dX8_pour_10 : decode cX8_pour 10 = .ok (.aload_n 0, 1) := by decide +kernel
theorem dX8_pour_11 : decode cX8_pour 11 = .ok (.getfield 55, 3) := by decide +kernel
theorem dX8_pour_14 : decode cX8_pour 14 = .ok (.iload_n 1, 1) := by decide +kernel
theorem dX8_pour_15 : decode cX8_pour 15 = .ok (.aaload, 1) := by decide +kernel
theorem dX8_pour_16 : decode cX8_pour 16 = .ok (.astore_n 2, 1) := by decide +kernel
theorem dX8_pour_17 : decode cX8_pour 17 = .ok (.aload_n 2, 1) := by decide +kernel
theorem dX8_pour_18 : decode cX8_pour 18 = .ok (.invokevirtual 231, 3) := by decide +kernel
theorem dX8_pour_21 : decode cX8_pour 21 = .ok (.ifCond .eq 6, 3) := by decide +kernel
theorem dX8_pour_24 : decode cX8_pour 24 = .ok (.ldc 234, 2) := by decide +kernel
theorem dX8_pour_26 : decode cX8_pour 26 = .ok (.ireturn, 1) := by decide +kernel
theorem dX8_pour_27 : decode cX8_pour 27 = .ok (.iconst 0, 1) := by decide +kernel
theorem dX8_pour_28 : decode cX8_pour 28 = .ok (.istore_n 3, 1) := by decide +kernel
theorem dX8_pour_29 : decode cX8_pour 29 = .ok (.iconst 0, 1) := by decide +kernel
theorem dX8_pour_30 : decode cX8_pour 30 = .ok (.istore 4, 2) := by decide +kernel
theorem dX8_pour_32 : decode cX8_pour 32 = .ok (.iload 4, 2) := by decide +kernel
theorem dX8_pour_34 : decode cX8_pour 34 = .ok (.aload_n 0, 1) := by decide +kernel
theorem dX8_pour_35 : decode cX8_pour 35 = .ok (.getfield 21, 3) := by decide +kernel
theorem dX8_pour_38 : decode cX8_pour 38 = .ok (.getfield 79, 3) := by decide +kernel
theorem dX8_pour_41 : decode cX8_pour 41 = .ok (.if_icmp .ge 88, 3) := by decide +kernel
theorem dX8_pour_44 : decode cX8_pour 44 = .ok (.iload 4, 2) := by decide +kernel
theorem dX8_pour_46 : decode cX8_pour 46 = .ok (.aload_n 2, 1) := by decide +kernel
theorem dX8_pour_47 : decode cX8_pour 47 = .ok (.getfield 239, 3) := by decide +kernel
theorem dX8_pour_50 : decode cX8_pour 50 = .ok (.if_icmp .ge 79, 3) := by decide +kernel
theorem dX8_pour_53 : decode cX8_pour 53 = .ok (.aload_n 0, 1) := by decide +kernel
theorem dX8_pour_54 : decode cX8_pour 54 = .ok (.getfield 21, 3) := by decide +kernel
theorem dX8_pour_57 : decode cX8_pour 57 = .ok (.getfield 91, 3) := by decide +kernel
theorem dX8_pour_60 : decode cX8_pour 60 = .ok (.iload 4, 2) := by decide +kernel
theorem dX8_pour_62 : decode cX8_pour 62 = .ok (.aaload, 1) := by decide +kernel
theorem dX8_pour_63 : decode cX8_pour 63 = .ok (.getfield 103, 3) := by decide +kernel
theorem dX8_pour_66 : decode cX8_pour 66 = .ok (.istore 5, 2) := by decide +kernel
theorem dX8_pour_68 : decode cX8_pour 68 = .ok (.aload_n 2, 1) := by decide +kernel
theorem dX8_pour_69 : decode cX8_pour 69 = .ok (.iload 4, 2) := by decide +kernel
theorem dX8_pour_71 : decode cX8_pour 71 = .ok (.invokevirtual 242, 3) := by decide +kernel
theorem dX8_pour_74 : decode cX8_pour 74 = .ok (.ifCond .eq 28, 3) := by decide +kernel
theorem dX8_pour_77 : decode cX8_pour 77 = .ok (.aload_n 0, 1) := by decide +kernel
theorem dX8_pour_78 : decode cX8_pour 78 = .ok (.getfield 21, 3) := by decide +kernel
theorem dX8_pour_81 : decode cX8_pour 81 = .ok (.getfield 91, 3) := by decide +kernel
theorem dX8_pour_84 : decode cX8_pour 84 = .ok (.iload 4, 2) := by decide +kernel
theorem dX8_pour_86 : decode cX8_pour 86 = .ok (.aaload, 1) := by decide +kernel
theorem dX8_pour_87 : decode cX8_pour 87 = .ok (.aload_n 2, 1) := by decide +kernel
theorem dX8_pour_88 : decode cX8_pour 88 = .ok (.getfield 245, 3) := by decide +kernel
theorem dX8_pour_91 : decode cX8_pour 91 = .ok (.iload 4, 2) := by decide +kernel
theorem dX8_pour_93 : decode cX8_pour 93 = .ok (.iaload, 1) := by decide +kernel
theorem dX8_pour_94 : decode cX8_pour 94 = .ok (.bipush 99, 2) := by decide +kernel
theorem dX8_pour_96 : decode cX8_pour 96 = .ok (.invokestatic 296, 3) := by decide +kernel
theorem dX8_pour_99 : decode cX8_pour 99 = .ok (.putfield 103, 3) := by decide +kernel
theorem dX8_pour_102 : decode cX8_pour 102 = .ok (.aload_n 0, 1) := by decide +kernel
theorem dX8_pour_103 : decode cX8_pour 103 = .ok (.getfield 21, 3) := by decide +kernel
theorem dX8_pour_106 : decode cX8_pour 106 = .ok (.getfield 91, 3) := by decide +kernel
theorem dX8_pour_109 : decode cX8_pour 109 = .ok (.iload 4, 2) := by decide +kernel
theorem dX8_pour_111 : decode cX8_pour 111 = .ok (.aaload, 1) := by decide +kernel
theorem dX8_pour_112 : decode cX8_pour 112 = .ok (.getfield 103, 3) := by decide +kernel
theorem dX8_pour_115 : decode cX8_pour 115 = .ok (.iload 5, 2) := by decide +kernel
theorem dX8_pour_117 : decode cX8_pour 117 = .ok (.if_icmp .eq 6, 3) := by decide +kernel
theorem dX8_pour_120 : decode cX8_pour 120 = .ok (.iinc 3 1, 3) := by decide +kernel
theorem dX8_pour_123 : decode cX8_pour 123 = .ok (.iinc 4 1, 3) := by decide +kernel
theorem dX8_pour_126 : decode cX8_pour 126 = .ok (.goto (-94), 3) := by decide +kernel
theorem dX8_pour_129 : decode cX8_pour 129 = .ok (.iload_n 3, 1) := by decide +kernel
theorem dX8_pour_130 : decode cX8_pour 130 = .ok (.ireturn, 1) := by decide +kernel
theorem dX8_reads_0 : decode cX8_reads 0 = .ok (.iload_n 1, 1) := by decide +kernel
theorem dX8_reads_1 : decode cX8_reads 1 = .ok (.invokestatic 228, 3) := by decide +kernel
theorem dX8_reads_4 : decode cX8_reads 4 = .ok (.ifCond .ne 6, 3) := by decide +kernel
theorem dX8_reads_7 : decode cX8_reads 7 = .ok (.ldc 78, 2) := by decide +kernel
theorem dX8_reads_9 : decode cX8_reads 9 = .ok (.ireturn, 1) := by decide +kernel
theorem dX8_reads_10 : decode cX8_reads 10 = .ok (.aload_n 0, 1) := by decide +kernel
theorem dX8_reads_11 : decode cX8_reads 11 = .ok (.getfield 55, 3) := by decide +kernel
theorem dX8_reads_14 : decode cX8_reads 14 = .ok (.iload_n 1, 1) := by decide +kernel
theorem dX8_reads_15 : decode cX8_reads 15 = .ok (.aaload, 1) := by decide +kernel
theorem dX8_reads_16 : decode cX8_reads 16 = .ok (.astore_n 2, 1) := by decide +kernel
theorem dX8_reads_17 : decode cX8_reads 17 = .ok (.aload_n 2, 1) := by decide +kernel
theorem dX8_reads_18 : decode cX8_reads 18 = .ok (.invokevirtual 231, 3) := by decide +kernel
theorem dX8_reads_21 : decode cX8_reads 21 = .ok (.ifCond .eq 6, 3) := by decide +kernel
theorem dX8_reads_24 : decode cX8_reads 24 = .ok (.ldc 234, 2) := by decide +kernel
theorem dX8_reads_26 : decode cX8_reads 26 = .ok (.ireturn, 1) := by decide +kernel
theorem dX8_reads_27 : decode cX8_reads 27 = .ok (.iconst 0, 1) := by decide +kernel
theorem dX8_reads_28 : decode cX8_reads 28 = .ok (.istore_n 3, 1) := by decide +kernel
theorem dX8_reads_29 : decode cX8_reads 29 = .ok (.iload_n 3, 1) := by decide +kernel
theorem dX8_reads_30 : decode cX8_reads 30 = .ok (.aload_n 2, 1) := by decide +kernel
theorem dX8_reads_31 : decode cX8_reads 31 = .ok (.getfield 239, 3) := by decide +kernel
theorem dX8_reads_34 : decode cX8_reads 34 = .ok (.if_icmp .ge 63, 3) := by decide +kernel
theorem dX8_reads_37 : decode cX8_reads 37 = .ok (.aload_n 0, 1) := by decide +kernel
theorem dX8_reads_38 : decode cX8_reads 38 = .ok (.getfield 21, 3) := by decide +kernel
theorem dX8_reads_41 : decode cX8_reads 41 = .ok (.iload_n 3, 1) := by decide +kernel
theorem dX8_reads_42 : decode cX8_reads 42 = .ok (.invokevirtual 88, 3) := by decide +kernel
theorem dX8_reads_45 : decode cX8_reads 45 = .ok (.ifCond .eq 28, 3) := by decide +kernel
theorem dX8_reads_48 : decode cX8_reads 48 = .ok (.aload_n 0, 1) := by decide +kernel
theorem dX8_reads_49 : decode cX8_reads 49 = .ok (.getfield 21, 3) := by decide +kernel
theorem dX8_reads_52 : decode cX8_reads 52 = .ok (.getfield 91, 3) := by decide +kernel
theorem dX8_reads_55 : decode cX8_reads 55 = .ok (.iload_n 3, 1) := by decide +kernel
theorem dX8_reads_56 : decode cX8_reads 56 = .ok (.aaload, 1) := by decide +kernel
theorem dX8_reads_57 : decode cX8_reads 57 = .ok (.getfield 109, 3) := by decide +kernel
theorem dX8_reads_60 : decode cX8_reads 60 = .ok (.aload_n 2, 1) := by decide +kernel
theorem dX8_reads_61 : decode cX8_reads 61 = .ok (.getfield 245, 3) := by decide +kernel
theorem dX8_reads_64 : decode cX8_reads 64 = .ok (.iload_n 3, 1) := by decide +kernel
theorem dX8_reads_65 : decode cX8_reads 65 = .ok (.iaload, 1) := by decide +kernel
theorem dX8_reads_66 : decode cX8_reads 66 = .ok (.if_icmp .ne 7, 3) := by decide +kernel
theorem dX8_reads_69 : decode cX8_reads 69 = .ok (.iconst 1, 1) := by decide +kernel
theorem dX8_reads_70 : decode cX8_reads 70 = .ok (.goto 4, 3) := by decide +kernel
theorem dX8_reads_73 : decode cX8_reads 73 = .ok (.iconst 0, 1) := by decide +kernel
theorem dX8_reads_74 : decode cX8_reads 74 = .ok (.istore 4, 2) := by decide +kernel
theorem dX8_reads_76 : decode cX8_reads 76 = .ok (.aload_n 2, 1) := by decide +kernel
theorem dX8_reads_77 : decode cX8_reads 77 = .ok (.iload_n 3, 1) := by decide +kernel
theorem dX8_reads_78 : decode cX8_reads 78 = .ok (.invokevirtual 242, 3) := by decide +kernel
theorem dX8_reads_81 : decode cX8_reads 81 = .ok (.ifCond .eq 10, 3) := by decide +kernel
theorem dX8_reads_84 : decode cX8_reads 84 = .ok (.iload 4, 2) := by decide +kernel
theorem dX8_reads_86 : decode cX8_reads 86 = .ok (.ifCond .ne 5, 3) := by decide +kernel
theorem dX8_reads_89 : decode cX8_reads 89 = .ok (.iload_n 3, 1) := by decide +kernel
theorem dX8_reads_90 : decode cX8_reads 90 = .ok (.ireturn, 1) := by decide +kernel
theorem dX8_reads_91 : decode cX8_reads 91 = .ok (.iinc 3 1, 3) := by decide +kernel
theorem dX8_reads_94 : decode cX8_reads 94 = .ok (.goto (-65), 3) := by decide +kernel
theorem dX8_reads_97 : decode cX8_reads 97 = .ok (.ldc 205, 2) := by decide +kernel
theorem dX8_reads_99 : decode cX8_reads 99 = .ok (.ireturn, 1) := by decide +kernel
theorem dX8_copy_0 : decode cX8_copy 0 = .ok (.iload_n 1, 1) := by decide +kernel
theorem dX8_copy_1 : decode cX8_copy 1 = .ok (.invokestatic 228, 3) := by decide +kernel
theorem dX8_copy_4 : decode cX8_copy 4 = .ok (.ifCond .eq 10, 3) := by decide +kernel
theorem dX8_copy_7 : decode cX8_copy 7 = .ok (.iload_n 3, 1) := by decide +kernel
theorem dX8_copy_8 : decode cX8_copy 8 = .ok (.invokestatic 228, 3) := by decide +kernel
theorem dX8_copy_11 : decode cX8_copy 11 = .ok (.ifCond .ne 6, 3) := by decide +kernel
theorem dX8_copy_14 : decode cX8_copy 14 = .ok (.ldc 78, 2) := by decide +kernel
theorem dX8_copy_16 : decode cX8_copy 16 = .ok (.ireturn, 1) := by decide +kernel
theorem dX8_copy_17 : decode cX8_copy 17 = .ok (.aload_n 0, 1) := by decide +kernel
theorem dX8_copy_18 : decode cX8_copy 18 = .ok (.getfield 55, 3) := by decide +kernel
theorem dX8_copy_21 : decode cX8_copy 21 = .ok (.iload_n 1, 1) := by decide +kernel
theorem dX8_copy_22 : decode cX8_copy 22 = .ok (.aaload, 1) := by decide +kernel
theorem dX8_copy_23 : decode cX8_copy 23 = .ok (.astore 6, 2) := by decide +kernel
theorem dX8_copy_25 : decode cX8_copy 25 = .ok (.aload_n 0, 1) := by decide +kernel
theorem dX8_copy_26 : decode cX8_copy 26 = .ok (.getfield 55, 3) := by decide +kernel
theorem dX8_copy_29 : decode cX8_copy 29 = .ok (.iload_n 3, 1) := by decide +kernel
theorem dX8_copy_30 : decode cX8_copy 30 = .ok (.aaload, 1) := by decide +kernel
theorem dX8_copy_31 : decode cX8_copy 31 = .ok (.astore 7, 2) := by decide +kernel
theorem dX8_copy_33 : decode cX8_copy 33 = .ok (.aload 6, 2) := by decide +kernel
theorem dX8_copy_35 : decode cX8_copy 35 = .ok (.invokevirtual 231, 3) := by decide +kernel
theorem dX8_copy_38 : decode cX8_copy 38 = .ok (.ifCond .ne 11, 3) := by decide +kernel
theorem dX8_copy_41 : decode cX8_copy 41 = .ok (.aload 7, 2) := by decide +kernel
theorem dX8_copy_43 : decode cX8_copy 43 = .ok (.invokevirtual 231, 3) := by decide +kernel
theorem dX8_copy_46 : decode cX8_copy 46 = .ok (.ifCond .eq 6, 3) := by decide +kernel
theorem dX8_copy_49 : decode cX8_copy 49 = .ok (.ldc 234, 2) := by decide +kernel
theorem dX8_copy_51 : decode cX8_copy 51 = .ok (.ireturn, 1) := by decide +kernel
theorem dX8_copy_52 : decode cX8_copy 52 = .ok (.aload 6, 2) := by decide +kernel
theorem dX8_copy_54 : decode cX8_copy 54 = .ok (.getfield 291, 3) := by decide +kernel
theorem dX8_copy_57 : decode cX8_copy 57 = .ok (.aload 7, 2) := by decide +kernel
theorem dX8_copy_59 : decode cX8_copy 59 = .ok (.getfield 291, 3) := by decide +kernel
theorem dX8_copy_62 : decode cX8_copy 62 = .ok (.if_icmp .eq 6, 3) := by decide +kernel
theorem dX8_copy_65 : decode cX8_copy 65 = .ok (.ldc 129, 2) := by decide +kernel
theorem dX8_copy_67 : decode cX8_copy 67 = .ok (.ireturn, 1) := by decide +kernel
theorem dX8_copy_68 : decode cX8_copy 68 = .ok (.aload 6, 2) := by decide +kernel
theorem dX8_copy_70 : decode cX8_copy 70 = .ok (.iload_n 2, 1) := by decide +kernel
theorem dX8_copy_71 : decode cX8_copy 71 = .ok (.iload 5, 2) := by decide +kernel
theorem dX8_copy_73 : decode cX8_copy 73 = .ok (.invokevirtual 299, 3) := by decide +kernel
theorem dX8_copy_76 : decode cX8_copy 76 = .ok (.ifCond .eq 15, 3) := by decide +kernel
theorem dX8_copy_79 : decode cX8_copy 79 = .ok (.aload 7, 2) := by decide +kernel
theorem dX8_copy_81 : decode cX8_copy 81 = .ok (.iload 4, 2) := by decide +kernel
theorem dX8_copy_83 : decode cX8_copy 83 = .ok (.iload 5, 2) := by decide +kernel
theorem dX8_copy_85 : decode cX8_copy 85 = .ok (.invokevirtual 299, 3) := by decide +kernel
theorem dX8_copy_88 : decode cX8_copy 88 = .ok (.ifCond .ne 7, 3) := by decide +kernel
theorem dX8_copy_91 : decode cX8_copy 91 = .ok (.ldc_w 290, 3) := by decide +kernel
theorem dX8_copy_94 : decode cX8_copy 94 = .ok (.ireturn, 1) := by decide +kernel
theorem dX8_copy_95 : decode cX8_copy 95 = .ok (.aload 6, 2) := by decide +kernel
theorem dX8_copy_97 : decode cX8_copy 97 = .ok (.getfield 245, 3) := by decide +kernel
theorem dX8_copy_100 : decode cX8_copy 100 = .ok (.iload_n 2, 1) := by decide +kernel
theorem dX8_copy_101 : decode cX8_copy 101 = .ok (.aload 7, 2) := by decide +kernel
theorem dX8_copy_103 : decode cX8_copy 103 = .ok (.getfield 245, 3) := by decide +kernel
theorem dX8_copy_106 : decode cX8_copy 106 = .ok (.iload 4, 2) := by decide +kernel
theorem dX8_copy_108 : decode cX8_copy 108 = .ok (.iload 5, 2) := by decide +kernel
theorem dX8_copy_110 : decode cX8_copy 110 = .ok (.invokestatic 302, 3) := by decide +kernel
theorem dX8_copy_113 : decode cX8_copy 113 = .ok (.iload 5, 2) := by decide +kernel
theorem dX8_copy_115 : decode cX8_copy 115 = .ok (.ireturn, 1) := by decide +kernel
theorem dX8_lay_0 : decode cX8_lay 0 = .ok (.iload_n 1, 1) := by decide +kernel
theorem dX8_lay_1 : decode cX8_lay 1 = .ok (.invokestatic 308, 3) := by decide +kernel
theorem dX8_lay_4 : decode cX8_lay 4 = .ok (.ifCond .eq 12, 3) := by decide +kernel
theorem dX8_lay_7 : decode cX8_lay 7 = .ok (.iload_n 2, 1) := by decide +kernel
theorem dX8_lay_8 : decode cX8_lay 8 = .ok (.iconst 0, 1) := by decide +kernel
theorem dX8_lay_9 : decode cX8_lay 9 = .ok (.iconst 3, 1) := by decide +kernel
theorem dX8_lay_10 : decode cX8_lay 10 = .ok (.invokestatic 74, 3) := by decide +kernel
theorem dX8_lay_13 : decode cX8_lay 13 = .ok (.ifCond .ne 6, 3) := by decide +kernel
theorem dX8_lay_16 : decode cX8_lay 16 = .ok (.ldc 78, 2) := by decide +kernel
theorem dX8_lay_18 : decode cX8_lay 18 = .ok (.ireturn, 1) := by decide +kernel
theorem dX8_lay_19 : decode cX8_lay 19 = .ok (.iload_n 2, 1) := by decide +kernel
theorem dX8_lay_20 : decode cX8_lay 20 = .ok (.iconst 1, 1) := by decide +kernel
theorem dX8_lay_21 : decode cX8_lay 21 = .ok (.if_icmp .ne 14, 3) := by decide +kernel
theorem dX8_lay_24 : decode cX8_lay 24 = .ok (.aload_n 0, 1) := by decide +kernel
theorem dX8_lay_25 : decode cX8_lay 25 = .ok (.getfield 21, 3) := by decide +kernel
theorem dX8_lay_28 : decode cX8_lay 28 = .ok (.iload_n 3, 1) := by decide +kernel
theorem dX8_lay_29 : decode cX8_lay 29 = .ok (.invokevirtual 88, 3) := by decide +kernel
theorem dX8_lay_32 : decode cX8_lay 32 = .ok (.ifCond .eq 15, 3) := by decide +kernel
theorem dX8_lay_35 : decode cX8_lay 35 = .ok (.iload_n 2, 1) := by decide +kernel
theorem dX8_lay_36 : decode cX8_lay 36 = .ok (.iconst 2, 1) := by decide +kernel
theorem dX8_lay_37 : decode cX8_lay 37 = .ok (.if_icmp .ne 13, 3) := by decide +kernel
theorem dX8_lay_40 : decode cX8_lay 40 = .ok (.iload_n 3, 1) := by decide +kernel
theorem dX8_lay_41 : decode cX8_lay 41 = .ok (.invokestatic 228, 3) := by decide +kernel
theorem dX8_lay_44 : decode cX8_lay 44 = .ok (.ifCond .ne 6, 3) := by decide +kernel
theorem dX8_lay_47 : decode cX8_lay 47 = .ok (.ldc 78, 2) := by decide +kernel
theorem dX8_lay_49 : decode cX8_lay 49 = .ok (.ireturn, 1) := by decide +kernel
theorem dX8_lay_50 : decode cX8_lay 50 = .ok (.iload_n 2, 1) := by decide +kernel
theorem dX8_lay_51 : decode cX8_lay 51 = .ok (.iconst 2, 1) := by decide +kernel
theorem dX8_lay_52 : decode cX8_lay 52 = .ok (.if_icmp .ne 18, 3) := by decide +kernel
theorem dX8_lay_55 : decode cX8_lay 55 = .ok (.aload_n 0, 1) := by decide +kernel
theorem dX8_lay_56 : decode cX8_lay 56 = .ok (.getfield 55, 3) := by decide +kernel
theorem dX8_lay_59 : decode cX8_lay 59 = .ok (.iload_n 3, 1) := by decide +kernel
theorem dX8_lay_60 : decode cX8_lay 60 = .ok (.aaload, 1) := by decide +kernel
theorem dX8_lay_61 : decode cX8_lay 61 = .ok (.invokevirtual 231, 3) := by decide +kernel
theorem dX8_lay_64 : decode cX8_lay 64 = .ok (.ifCond .eq 6, 3) := by decide +kernel
theorem dX8_lay_67 : decode cX8_lay 67 = .ok (.ldc 234, 2) := by decide +kernel
theorem dX8_lay_69 : decode cX8_lay 69 = .ok (.ireturn, 1) := by decide +kernel
theorem dX8_lay_70 : decode cX8_lay 70 = .ok (.aload_n 0, 1) := by decide +kernel
theorem dX8_lay_71 : decode cX8_lay 71 = .ok (.getfield 61, 3) := by decide +kernel
theorem dX8_lay_74 : decode cX8_lay 74 = .ok (.iload_n 1, 1) := by decide +kernel
theorem dX8_lay_75 : decode cX8_lay 75 = .ok (.aaload, 1) := by decide +kernel
theorem dX8_lay_76 : decode cX8_lay 76 = .ok (.astore 4, 2) := by decide +kernel
theorem dX8_lay_78 : decode cX8_lay 78 = .ok (.aload 4, 2) := by decide +kernel
theorem dX8_lay_80 : decode cX8_lay 80 = .ok (.getfield 311, 3) := by decide +kernel
theorem dX8_lay_83 : decode cX8_lay 83 = .ok (.istore 5, 2) := by decide +kernel
theorem dX8_lay_85 : decode cX8_lay 85 = .ok (.aload 4, 2) := by decide +kernel
theorem dX8_lay_87 : decode cX8_lay 87 = .ok (.iload_n 2, 1) := by decide +kernel
theorem dX8_lay_88 : decode cX8_lay 88 = .ok (.putfield 311, 3) := by decide +kernel
theorem dX8_lay_91 : decode cX8_lay 91 = .ok (.iload_n 2, 1) := by decide +kernel
theorem dX8_lay_92 : decode cX8_lay 92 = .ok (.iconst 1, 1) := by decide +kernel
theorem dX8_lay_93 : decode cX8_lay 93 = .ok (.if_icmp .ne 23, 3) := by decide +kernel
theorem dX8_lay_96 : decode cX8_lay 96 = .ok (.aload 4, 2) := by decide +kernel
theorem dX8_lay_98 : decode cX8_lay 98 = .ok (.getfield 312, 3) := by decide +kernel
theorem dX8_lay_101 : decode cX8_lay 101 = .ok (.aload_n 0, 1) := by decide +kernel
theorem dX8_lay_102 : decode cX8_lay 102 = .ok (.getfield 21, 3) := by decide +kernel
theorem dX8_lay_105 : decode cX8_lay 105 = .ok (.getfield 91, 3) := by decide +kernel
theorem dX8_lay_108 : decode cX8_lay 108 = .ok (.iload_n 3, 1) := by decide +kernel
theorem dX8_lay_109 : decode cX8_lay 109 = .ok (.aaload, 1) := by decide +kernel
theorem dX8_lay_110 : decode cX8_lay 110 = .ok (.invokevirtual 316, 3) := by decide +kernel
theorem dX8_lay_113 : decode cX8_lay 113 = .ok (.goto 31, 3) := by decide +kernel
theorem dX8_lay_116 : decode cX8_lay 116 = .ok (.iload_n 2, 1) := by decide +kernel
theorem dX8_lay_117 : decode cX8_lay 117 = .ok (.iconst 2, 1) := by decide +kernel
theorem dX8_lay_118 : decode cX8_lay 118 = .ok (.if_icmp .ne 20, 3) := by decide +kernel
theorem dX8_lay_121 : decode cX8_lay 121 = .ok (.aload 4, 2) := by decide +kernel
theorem dX8_lay_123 : decode cX8_lay 123 = .ok (.getfield 319, 3) := by decide +kernel
theorem dX8_lay_126 : decode cX8_lay 126 = .ok (.aload_n 0, 1) := by decide +kernel
theorem dX8_lay_127 : decode cX8_lay 127 = .ok (.getfield 55, 3) := by decide +kernel
theorem dX8_lay_130 : decode cX8_lay 130 = .ok (.iload_n 3, 1) := by decide +kernel
theorem dX8_lay_131 : decode cX8_lay 131 = .ok (.aaload, 1) := by decide +kernel
theorem dX8_lay_132 : decode cX8_lay 132 = .ok (.invokevirtual 323, 3) := by decide +kernel
theorem dX8_lay_135 : decode cX8_lay 135 = .ok (.goto 9, 3) := by decide +kernel
theorem dX8_lay_138 : decode cX8_lay 138 = .ok (.aload 4, 2) := by decide +kernel
theorem dX8_lay_140 : decode cX8_lay 140 = .ok (.iload_n 3, 1) := by decide +kernel
theorem dX8_lay_141 : decode cX8_lay 141 = .ok (.putfield 326, 3) := by decide +kernel
theorem dX8_lay_144 : decode cX8_lay 144 = .ok (.iload 5, 2) := by decide +kernel
theorem dX8_lay_146 : decode cX8_lay 146 = .ok (.ireturn, 1) := by decide +kernel
theorem dX8_ask_0 : decode cX8_ask 0 = .ok (.iload_n 1, 1) := by decide +kernel
theorem dX8_ask_1 : decode cX8_ask 1 = .ok (.invokestatic 308, 3) := by decide +kernel
theorem dX8_ask_4 : decode cX8_ask 4 = .ok (.ifCond .eq 10, 3) := by decide +kernel
theorem dX8_ask_7 : decode cX8_ask 7 = .ok (.iload_n 2, 1) := by decide +kernel
theorem dX8_ask_8 : decode cX8_ask 8 = .ok (.invokestatic 70, 3) := by decide +kernel
theorem dX8_ask_11 : decode cX8_ask 11 = .ok (.ifCond .ne 6, 3) := by decide +kernel
theorem dX8_ask_14 : decode cX8_ask 14 = .ok (.ldc 78, 2) := by decide +kernel
theorem dX8_ask_16 : decode cX8_ask 16 = .ok (.ireturn, 1) := by decide +kernel
theorem dX8_ask_17 : decode cX8_ask 17 = .ok (.aload_n 0, 1) := by decide +kernel
theorem dX8_ask_18 : decode cX8_ask 18 = .ok (.getfield 61, 3) := by decide +kernel
theorem dX8_ask_21 : decode cX8_ask 21 = .ok (.iload_n 1, 1) := by decide +kernel
theorem dX8_ask_22 : decode cX8_ask 22 = .ok (.aaload, 1) := by decide +kernel
theorem dX8_ask_23 : decode cX8_ask 23 = .ok (.astore_n 3, 1) := by decide +kernel
theorem dX8_ask_24 : decode cX8_ask 24 = .ok (.aload_n 3, 1) := by decide +kernel
theorem dX8_ask_25 : decode cX8_ask 25 = .ok (.getfield 311, 3) := by decide +kernel
theorem dX8_ask_28 : decode cX8_ask 28 = .ok (.ifCond .ne 6, 3) := by decide +kernel
theorem dX8_ask_31 : decode cX8_ask 31 = .ok (.ldc 234, 2) := by decide +kernel
theorem dX8_ask_33 : decode cX8_ask 33 = .ok (.ireturn, 1) := by decide +kernel
theorem dX8_ask_34 : decode cX8_ask 34 = .ok (.aload_n 3, 1) := by decide +kernel
theorem dX8_ask_35 : decode cX8_ask 35 = .ok (.getfield 311, 3) := by decide +kernel
theorem dX8_ask_38 : decode cX8_ask 38 = .ok (.iconst 1, 1) := by decide +kernel
theorem dX8_ask_39 : decode cX8_ask 39 = .ok (.if_icmp .ne 14, 3) := by decide +kernel
theorem dX8_ask_42 : decode cX8_ask 42 = .ok (.aload_n 3, 1) := by decide +kernel
theorem dX8_ask_43 : decode cX8_ask 43 = .ok (.getfield 312, 3) := by decide +kernel
theorem dX8_ask_46 : decode cX8_ask 46 = .ok (.iload_n 2, 1) := by decide +kernel
theorem dX8_ask_47 : decode cX8_ask 47 = .ok (.invokevirtual 126, 3) := by decide +kernel
theorem dX8_ask_50 : decode cX8_ask 50 = .ok (.ifCond .ne 6, 3) := by decide +kernel
theorem dX8_ask_53 : decode cX8_ask 53 = .ok (.ldc 129, 2) := by decide +kernel
theorem dX8_ask_55 : decode cX8_ask 55 = .ok (.ireturn, 1) := by decide +kernel
theorem dX8_ask_56 : decode cX8_ask 56 = .ok (.aload_n 3, 1) := by decide +kernel
theorem dX8_ask_57 : decode cX8_ask 57 = .ok (.getfield 312, 3) := by decide +kernel
theorem dX8_ask_60 : decode cX8_ask 60 = .ok (.invokevirtual 119, 3) := by decide +kernel
theorem dX8_ask_63 : decode cX8_ask 63 = .ok (.ireturn, 1) := by decide +kernel
theorem dX8_item_0 : decode cX8_item 0 = .ok (.iload_n 1, 1) := by decide +kernel
theorem dX8_item_1 : decode cX8_item 1 = .ok (.invokestatic 308, 3) := by decide +kernel
theorem dX8_item_4 : decode cX8_item 4 = .ok (.ifCond .ne 6, 3) := by decide +kernel
theorem dX8_item_7 : decode cX8_item 7 = .ok (.ldc 78, 2) := by decide +kernel
theorem dX8_item_9 : decode cX8_item 9 = .ok (.ireturn, 1) := by decide +kernel
theorem dX8_item_10 : decode cX8_item 10 = .ok (.aload_n 0, 1) := by decide +kernel
theorem dX8_item_11 : decode cX8_item 11 = .ok (.getfield 61, 3) := by decide +kernel
theorem dX8_item_14 : decode cX8_item 14 = .ok (.iload_n 1, 1) := by decide +kernel
theorem dX8_item_15 : decode cX8_item 15 = .ok (.aaload, 1) := by decide +kernel
theorem dX8_item_16 : decode cX8_item 16 = .ok (.astore_n 3, 1) := by decide +kernel
theorem dX8_item_17 : decode cX8_item 17 = .ok (.aload_n 3, 1) := by decide +kernel
theorem dX8_item_18 : decode cX8_item 18 = .ok (.getfield 311, 3) := by decide +kernel
theorem dX8_item_21 : decode cX8_item 21 = .ok (.ifCond .ne 6, 3) := by decide +kernel
theorem dX8_item_24 : decode cX8_item 24 = .ok (.ldc 234, 2) := by decide +kernel
theorem dX8_item_26 : decode cX8_item 26 = .ok (.ireturn, 1) := by decide +kernel
theorem dX8_item_27 : decode cX8_item 27 = .ok (.aload_n 3, 1) := by decide +kernel
theorem dX8_item_28 : decode cX8_item 28 = .ok (.getfield 311, 3) := by decide +kernel
theorem dX8_item_31 : decode cX8_item 31 = .ok (.iconst 2, 1) := by decide +kernel
theorem dX8_item_32 : decode cX8_item 32 = .ok (.if_icmp .eq 6, 3) := by decide +kernel
theorem dX8_item_35 : decode cX8_item 35 = .ok (.ldc 129, 2) := by decide +kernel
theorem dX8_item_37 : decode cX8_item 37 = .ok (.ireturn, 1) := by decide +kernel
theorem dX8_item_38 : decode cX8_item 38 = .ok (.aload_n 3, 1) := by decide +kernel
theorem dX8_item_39 : decode cX8_item 39 = .ok (.getfield 319, 3) := by decide +kernel
theorem dX8_item_42 : decode cX8_item 42 = .ok (.iload_n 2, 1) := by decide +kernel
theorem dX8_item_43 : decode cX8_item 43 = .ok (.invokevirtual 287, 3) := by decide +kernel
theorem dX8_item_46 : decode cX8_item 46 = .ok (.ifCond .ne 7, 3) := by decide +kernel
theorem dX8_item_49 : decode cX8_item 49 = .ok (.ldc_w 290, 3) := by decide +kernel
theorem dX8_item_52 : decode cX8_item 52 = .ok (.ireturn, 1) := by decide +kernel
theorem dX8_item_53 : decode cX8_item 53 = .ok (.aload_n 3, 1) := by decide +kernel
theorem dX8_item_54 : decode cX8_item 54 = .ok (.getfield 319, 3) := by decide +kernel
theorem dX8_item_57 : decode cX8_item 57 = .ok (.iload_n 2, 1) := by decide +kernel
theorem dX8_item_58 : decode cX8_item 58 = .ok (.invokevirtual 242, 3) := by decide +kernel
theorem dX8_item_61 : decode cX8_item 61 = .ok (.ifCond .eq 15, 3) := by decide +kernel
theorem dX8_item_64 : decode cX8_item 64 = .ok (.aload_n 3, 1) := by decide +kernel
theorem dX8_item_65 : decode cX8_item 65 = .ok (.getfield 319, 3) := by decide +kernel
theorem dX8_item_68 : decode cX8_item 68 = .ok (.getfield 245, 3) := by decide +kernel
theorem dX8_item_71 : decode cX8_item 71 = .ok (.iload_n 2, 1) := by decide +kernel
theorem dX8_item_72 : decode cX8_item 72 = .ok (.iaload, 1) := by decide +kernel
theorem dX8_item_73 : decode cX8_item 73 = .ok (.goto 5, 3) := by decide +kernel
theorem dX8_item_76 : decode cX8_item 76 = .ok (.ldc 129, 2) := by decide +kernel
theorem dX8_item_78 : decode cX8_item 78 = .ok (.ireturn, 1) := by decide +kernel
theorem dX8_rest_0 : decode cX8_rest 0 = .ok (.iload_n 1, 1) := by decide +kernel
theorem dX8_rest_1 : decode cX8_rest 1 = .ok (.invokestatic 308, 3) := by decide +kernel
theorem dX8_rest_4 : decode cX8_rest 4 = .ok (.ifCond .ne 6, 3) := by decide +kernel
theorem dX8_rest_7 : decode cX8_rest 7 = .ok (.ldc 78, 2) := by decide +kernel
theorem dX8_rest_9 : decode cX8_rest 9 = .ok (.ireturn, 1) := by decide +kernel
theorem dX8_rest_10 : decode cX8_rest 10 = .ok (.aload_n 0, 1) := by decide +kernel
theorem dX8_rest_11 : decode cX8_rest 11 = .ok (.getfield 61, 3) := by decide +kernel
theorem dX8_rest_14 : decode cX8_rest 14 = .ok (.iload_n 1, 1) := by decide +kernel
theorem dX8_rest_15 : decode cX8_rest 15 = .ok (.aaload, 1) := by decide +kernel
theorem dX8_rest_16 : decode cX8_rest 16 = .ok (.astore_n 3, 1) := by decide +kernel
theorem dX8_rest_17 : decode cX8_rest 17 = .ok (.aload_n 3, 1) := by decide +kernel
theorem dX8_rest_18 : decode cX8_rest 18 = .ok (.getfield 311, 3) := by decide +kernel
theorem dX8_rest_21 : decode cX8_rest 21 = .ok (.ifCond .ne 6, 3) := by decide +kernel
theorem dX8_rest_24 : decode cX8_rest 24 = .ok (.ldc 234, 2) := by decide +kernel
theorem dX8_rest_26 : decode cX8_rest 26 = .ok (.ireturn, 1) := by decide +kernel
theorem dX8_rest_27 : decode cX8_rest 27 = .ok (.aload_n 3, 1) := by decide +kernel
theorem dX8_rest_28 : decode cX8_rest 28 = .ok (.getfield 311, 3) := by decide +kernel
theorem dX8_rest_31 : decode cX8_rest 31 = .ok (.iconst 3, 1) := by decide +kernel
theorem dX8_rest_32 : decode cX8_rest 32 = .ok (.if_icmp .eq 6, 3) := by decide +kernel
theorem dX8_rest_35 : decode cX8_rest 35 = .ok (.ldc 129, 2) := by decide +kernel
theorem dX8_rest_37 : decode cX8_rest 37 = .ok (.ireturn, 1) := by decide +kernel
theorem dX8_rest_38 : decode cX8_rest 38 = .ok (.iload_n 2, 1) := by decide +kernel
theorem dX8_rest_39 : decode cX8_rest 39 = .ok (.ifCond .ne 9, 3) := by decide +kernel
theorem dX8_rest_42 : decode cX8_rest 42 = .ok (.ldc_w 329, 3) := by decide +kernel
theorem dX8_rest_45 : decode cX8_rest 45 = .ok (.goto 9, 3) := by decide +kernel
theorem dX8_rest_48 : decode cX8_rest 48 = .ok (.aload_n 3, 1) := by decide +kernel
theorem dX8_rest_49 : decode cX8_rest 49 = .ok (.getfield 326, 3) := by decide +kernel
theorem dX8_rest_52 : decode cX8_rest 52 = .ok (.iload_n 2, 1) := by decide +kernel
theorem dX8_rest_53 : decode cX8_rest 53 = .ok (.irem, 1) := by decide +kernel
theorem dX8_rest_54 : decode cX8_rest 54 = .ok (.ireturn, 1) := by decide +kernel
theorem dX8_tell_0 : decode cX8_tell 0 = .ok (.aload_n 0, 1) := by decide +kernel
theorem dX8_tell_1 : decode cX8_tell 1 = .ok (.getfield 330, 3) := by decide +kernel
theorem dX8_tell_4 : decode cX8_tell 4 = .ok (.bipush 60, 2) := by decide +kernel
theorem dX8_tell_6 : decode cX8_tell 6 = .ok (.if_icmp .lt 6, 3) := by decide +kernel
theorem dX8_tell_9 : decode cX8_tell 9 = .ok (.ldc 83, 2) := by decide +kernel
theorem dX8_tell_11 : decode cX8_tell 11 = .ok (.ireturn, 1) := by decide +kernel
theorem dX8_tell_12 : decode cX8_tell 12 = .ok (.aload_n 0, 1) := by decide +kernel
theorem dX8_tell_13 : decode cX8_tell 13 = .ok (.getfield 65, 3) := by decide +kernel
theorem dX8_tell_16 : decode cX8_tell 16 = .ok (.aload_n 0, 1) := by decide +kernel
theorem dX8_tell_17 : decode cX8_tell 17 = .ok (.getfield 330, 3) := by decide +kernel
theorem dX8_tell_20 : decode cX8_tell 20 = .ok (.iload_n 1, 1) := by decide +kernel
theorem dX8_tell_21 : decode cX8_tell 21 = .ok (.iastore, 1) := by decide +kernel
theorem dX8_tell_22 : decode cX8_tell 22 = .ok (.aload_n 0, 1) := by decide +kernel
theorem dX8_tell_23 : decode cX8_tell 23 = .ok (.dup, 1) := by decide +kernel
theorem dX8_tell_24 : decode cX8_tell 24 = .ok (.getfield 330, 3) := by decide +kernel
theorem dX8_tell_27 : decode cX8_tell 27 = .ok (.iconst 1, 1) := by decide +kernel
theorem dX8_tell_28 : decode cX8_tell 28 = .ok (.iadd, 1) := by decide +kernel
theorem dX8_tell_29 : decode cX8_tell 29 = .ok (.putfield 330, 3) := by decide +kernel
theorem dX8_tell_32 : decode cX8_tell 32 = .ok (.aload_n 0, 1) := by decide +kernel
theorem dX8_tell_33 : decode cX8_tell 33 = .ok (.getfield 330, 3) := by decide +kernel
theorem dX8_tell_36 : decode cX8_tell 36 = .ok (.ireturn, 1) := by decide +kernel
theorem dX8_check_0 : decode cX8_check 0 = .ok (.aload_n 0, 1) := by decide +kernel
theorem dX8_check_1 : decode cX8_check 1 = .ok (.getfield 330, 3) := by decide +kernel
theorem dX8_check_4 : decode cX8_check 4 = .ok (.istore_n 2, 1) := by decide +kernel
theorem dX8_check_5 : decode cX8_check 5 = .ok (.aload_n 0, 1) := by decide +kernel
theorem dX8_check_6 : decode cX8_check 6 = .ok (.iconst 0, 1) := by decide +kernel
theorem dX8_check_7 : decode cX8_check 7 = .ok (.putfield 330, 3) := by decide +kernel
theorem dX8_check_10 : decode cX8_check 10 = .ok (.iload_n 1, 1) := by decide +kernel
theorem dX8_check_11 : decode cX8_check 11 = .ok (.iconst 1, 1) := by decide +kernel
theorem dX8_check_12 : decode cX8_check 12 = .ok (.bipush 30, 2) := by decide +kernel
theorem dX8_check_14 : decode cX8_check 14 = .ok (.invokestatic 74, 3) := by decide +kernel
theorem dX8_check_17 : decode cX8_check 17 = .ok (.ifCond .ne 6, 3) := by decide +kernel
theorem dX8_check_20 : decode cX8_check 20 = .ok (.ldc 78, 2) := by decide +kernel
theorem dX8_check_22 : decode cX8_check 22 = .ok (.ireturn, 1) := by decide +kernel
theorem dX8_check_23 : decode cX8_check 23 = .ok (.aload_n 0, 1) := by decide +kernel
theorem dX8_check_24 : decode cX8_check 24 = .ok (.getfield 333, 3) := by decide +kernel
theorem dX8_check_27 : decode cX8_check 27 = .ok (.ifCond .ne 7, 3) := by decide +kernel
theorem dX8_check_30 : decode cX8_check 30 = .ok (.ldc_w 329, 3) := by decide +kernel
theorem dX8_check_33 : decode cX8_check 33 = .ok (.ireturn, 1) := by decide +kernel
theorem dX8_check_34 : decode cX8_check 34 = .ok (.iload_n 1, 1) := by decide +kernel
theorem dX8_check_35 : decode cX8_check 35 = .ok (.sipush 9999, 3) := by decide +kernel
theorem dX8_check_38 : decode cX8_check 38 = .ok (.aload_n 0, 1) := by decide +kernel
theorem dX8_check_39 : decode cX8_check 39 = .ok (.getfield 25, 3) := by decide +kernel
theorem dX8_check_42 : decode cX8_check 42 = .ok (.getfield 189, 3) := by decide +kernel
theorem dX8_check_45 : decode cX8_check 45 = .ok (.isub, 1) := by decide +kernel
theorem dX8_check_46 : decode cX8_check 46 = .ok (.invokestatic 160, 3) := by decide +kernel
theorem dX8_check_49 : decode cX8_check 49 = .ok (.istore_n 3, 1) := by decide +kernel
theorem dX8_check_50 : decode cX8_check 50 = .ok (.aload_n 0, 1) := by decide +kernel
theorem dX8_check_51 : decode cX8_check 51 = .ok (.getfield 28, 3) := by decide +kernel
theorem dX8_check_54 : decode cX8_check 54 = .ok (.aload_n 0, 1) := by decide +kernel
theorem dX8_check_55 : decode cX8_check 55 = .ok (.getfield 25, 3) := by decide +kernel
theorem dX8_check_58 : decode cX8_check 58 = .ok (.invokevirtual 222, 3) := by decide +kernel
theorem dX8_check_61 : decode cX8_check 61 = .ok (.iconst 0, 1) := by decide +kernel
theorem dX8_check_62 : decode cX8_check 62 = .ok (.istore 4, 2) := by decide +kernel
theorem dX8_check_64 : decode cX8_check 64 = .ok (.iconst 0, 1) := by decide +kernel
theorem dX8_check_65 : decode cX8_check 65 = .ok (.istore 5, 2) := by decide +kernel
theorem dX8_check_67 : decode cX8_check 67 = .ok (.iload 5, 2) := by decide +kernel
theorem dX8_check_69 : decode cX8_check 69 = .ok (.iload_n 3, 1) := by decide +kernel
theorem dX8_check_70 : decode cX8_check 70 = .ok (.if_icmp .ge 78, 3) := by decide +kernel
theorem dX8_check_73 : decode cX8_check 73 = .ok (.aload_n 0, 1) := by decide +kernel
theorem dX8_check_74 : decode cX8_check 74 = .ok (.getfield 28, 3) := by decide +kernel
theorem dX8_check_77 : decode cX8_check 77 = .ok (.invokevirtual 192, 3) := by decide +kernel
theorem dX8_check_80 : decode cX8_check 80 = .ok (.iload 4, 2) := by decide +kernel
theorem dX8_check_82 : decode cX8_check 82 = .ok (.iload_n 2, 1) := by decide +kernel
theorem dX8_check_83 : decode cX8_check 83 = .ok (.if_icmp .ge 20, 3) := by decide +kernel
theorem dX8_check_86 : decode cX8_check 86 = .ok (.aload_n 0, 1) := by decide +kernel
theorem dX8_check_87 : decode cX8_check 87 = .ok (.getfield 65, 3) := by decide +kernel
theorem dX8_check_90 : decode cX8_check 90 = .ok (.iload 4, 2) := by decide +kernel
theorem dX8_check_92 : decode cX8_check 92 = .ok (.iaload, 1) := by decide +kernel
theorem dX8_check_93 : decode cX8_check 93 = .ok (.aload_n 0, 1) := by decide +kernel
theorem dX8_check_94 : decode cX8_check 94 = .ok (.getfield 28, 3) := by decide +kernel
theorem dX8_check_97 : decode cX8_check 97 = .ok (.invokevirtual 225, 3) := by decide +kernel
theorem dX8_check_100 : decode cX8_check 100 = .ok (.if_icmp .eq 8, 3) := by decide +kernel
theorem dX8_check_103 : decode cX8_check 103 = .ok (.iconst 1, 1) := by decide +kernel
theorem dX8_check_104 : decode cX8_check 104 = .ok (.iload 4, 2) := by decide +kernel
theorem dX8_check_106 : decode cX8_check 106 = .ok (.iadd, 1) := by decide +kernel
theorem dX8_check_107 : decode cX8_check 107 = .ok (.ireturn, 1) := by decide +kernel
theorem dX8_check_108 : decode cX8_check 108 = .ok (.iinc 4 1, 3) := by decide +kernel
theorem dX8_check_111 : decode cX8_check 111 = .ok (.iload 4, 2) := by decide +kernel
theorem dX8_check_113 : decode cX8_check 113 = .ok (.iload_n 2, 1) := by decide +kernel
theorem dX8_check_114 : decode cX8_check 114 = .ok (.if_icmp .ge 20, 3) := by decide +kernel
theorem dX8_check_117 : decode cX8_check 117 = .ok (.aload_n 0, 1) := by decide +kernel
theorem dX8_check_118 : decode cX8_check 118 = .ok (.getfield 65, 3) := by decide +kernel
theorem dX8_check_121 : decode cX8_check 121 = .ok (.iload 4, 2) := by decide +kernel
theorem dX8_check_123 : decode cX8_check 123 = .ok (.iaload, 1) := by decide +kernel
theorem dX8_check_124 : decode cX8_check 124 = .ok (.aload_n 0, 1) := by decide +kernel
theorem dX8_check_125 : decode cX8_check 125 = .ok (.getfield 28, 3) := by decide +kernel
theorem dX8_check_128 : decode cX8_check 128 = .ok (.invokevirtual 186, 3) := by decide +kernel
theorem dX8_check_131 : decode cX8_check 131 = .ok (.if_icmp .eq 8, 3) := by decide +kernel
theorem dX8_check_134 : decode cX8_check 134 = .ok (.iconst 1, 1) := by decide +kernel
theorem dX8_check_135 : decode cX8_check 135 = .ok (.iload 4, 2) := by decide +kernel
theorem dX8_check_137 : decode cX8_check 137 = .ok (.iadd, 1) := by decide +kernel
theorem dX8_check_138 : decode cX8_check 138 = .ok (.ireturn, 1) := by decide +kernel
theorem dX8_check_139 : decode cX8_check 139 = .ok (.iinc 4 1, 3) := by decide +kernel
theorem dX8_check_142 : decode cX8_check 142 = .ok (.iinc 5 1, 3) := by decide +kernel
theorem dX8_check_145 : decode cX8_check 145 = .ok (.goto (-78), 3) := by decide +kernel
theorem dX8_check_148 : decode cX8_check 148 = .ok (.iload 4, 2) := by decide +kernel
theorem dX8_check_150 : decode cX8_check 150 = .ok (.iload_n 2, 1) := by decide +kernel
theorem dX8_check_151 : decode cX8_check 151 = .ok (.if_icmp .ne 7, 3) := by decide +kernel
theorem dX8_check_154 : decode cX8_check 154 = .ok (.iconst 0, 1) := by decide +kernel
theorem dX8_check_155 : decode cX8_check 155 = .ok (.goto 7, 3) := by decide +kernel
theorem dX8_check_158 : decode cX8_check 158 = .ok (.iconst 1, 1) := by decide +kernel
theorem dX8_check_159 : decode cX8_check 159 = .ok (.iload 4, 2) := by decide +kernel
theorem dX8_check_161 : decode cX8_check 161 = .ok (.iadd, 1) := by decide +kernel
theorem dX8_check_162 : decode cX8_check 162 = .ok (.ireturn, 1) := by decide +kernel
theorem dX8_keep_0 : decode cX8_keep 0 = .ok (.aload_n 0, 1) := by decide +kernel
theorem dX8_keep_1 : decode cX8_keep 1 = .ok (.getfield 25, 3) := by decide +kernel
theorem dX8_keep_4 : decode cX8_keep 4 = .ok (.aload_n 0, 1) := by decide +kernel
theorem dX8_keep_5 : decode cX8_keep 5 = .ok (.getfield 21, 3) := by decide +kernel
theorem dX8_keep_8 : decode cX8_keep 8 = .ok (.invokevirtual 222, 3) := by decide +kernel
theorem dX8_keep_11 : decode cX8_keep 11 = .ok (.aload_n 0, 1) := by decide +kernel
theorem dX8_keep_12 : decode cX8_keep 12 = .ok (.iconst 1, 1) := by decide +kernel
theorem dX8_keep_13 : decode cX8_keep 13 = .ok (.putfield 333, 3) := by decide +kernel
theorem dX8_keep_16 : decode cX8_keep 16 = .ok (.aload_n 0, 1) := by decide +kernel
theorem dX8_keep_17 : decode cX8_keep 17 = .ok (.getfield 25, 3) := by decide +kernel
theorem dX8_keep_20 : decode cX8_keep 20 = .ok (.getfield 79, 3) := by decide +kernel
theorem dX8_keep_23 : decode cX8_keep 23 = .ok (.ireturn, 1) := by decide +kernel
theorem dX8_back_0 : decode cX8_back 0 = .ok (.aload_n 0, 1) := by decide +kernel
theorem dX8_back_1 : decode cX8_back 1 = .ok (.getfield 333, 3) := by decide +kernel
theorem dX8_back_4 : decode cX8_back 4 = .ok (.ifCond .ne 7, 3) := by decide +kernel
theorem dX8_back_7 : decode cX8_back 7 = .ok (.ldc_w 329, 3) := by decide +kernel
theorem dX8_back_10 : decode cX8_back 10 = .ok (.ireturn, 1) := by decide +kernel
theorem dX8_back_11 : decode cX8_back 11 = .ok (.aload_n 0, 1) := by decide +kernel
theorem dX8_back_12 : decode cX8_back 12 = .ok (.getfield 21, 3) := by decide +kernel
theorem dX8_back_15 : decode cX8_back 15 = .ok (.aload_n 0, 1) := by decide +kernel
theorem dX8_back_16 : decode cX8_back 16 = .ok (.getfield 25, 3) := by decide +kernel
theorem dX8_back_19 : decode cX8_back 19 = .ok (.invokevirtual 222, 3) := by decide +kernel
theorem dX8_back_22 : decode cX8_back 22 = .ok (.aload_n 0, 1) := by decide +kernel
theorem dX8_back_23 : decode cX8_back 23 = .ok (.getfield 21, 3) := by decide +kernel
theorem dX8_back_26 : decode cX8_back 26 = .ok (.getfield 79, 3) := by decide +kernel
theorem dX8_back_29 : decode cX8_back 29 = .ok (.ireturn, 1) := by decide +kernel
theorem dX8_count_0 : decode cX8_count 0 = .ok (.iload_n 1, 1) := by decide +kernel
theorem dX8_count_1 : decode cX8_count 1 = .ok (.tableswitch 141 0 10 #[59, 67, 75, 83, 91, 99, 107, 115, 123, 128, 133], 59) := by decide +kernel
theorem dX8_count_60 : decode cX8_count 60 = .ok (.aload_n 0, 1) := by decide +kernel
theorem dX8_count_61 : decode cX8_count 61 = .ok (.getfield 21, 3) := by decide +kernel
theorem dX8_count_64 : decode cX8_count 64 = .ok (.getfield 79, 3) := by decide +kernel
theorem dX8_count_67 : decode cX8_count 67 = .ok (.ireturn, 1) := by decide +kernel
theorem dX8_count_68 : decode cX8_count 68 = .ok (.aload_n 0, 1) := by decide +kernel
theorem dX8_count_69 : decode cX8_count 69 = .ok (.getfield 21, 3) := by decide +kernel
theorem dX8_count_72 : decode cX8_count 72 = .ok (.getfield 130, 3) := by decide +kernel
theorem dX8_count_75 : decode cX8_count 75 = .ok (.ireturn, 1) := by decide +kernel
theorem dX8_count_76 : decode cX8_count 76 = .ok (.aload_n 0, 1) := by decide +kernel
theorem dX8_count_77 : decode cX8_count 77 = .ok (.getfield 21, 3) := by decide +kernel
theorem dX8_count_80 : decode cX8_count 80 = .ok (.getfield 189, 3) := by decide +kernel
theorem dX8_count_83 : decode cX8_count 83 = .ok (.ireturn, 1) := by decide +kernel
theorem dX8_count_84 : decode cX8_count 84 = .ok (.aload_n 0, 1) := by decide +kernel
theorem dX8_count_85 : decode cX8_count 85 = .ok (.getfield 21, 3) := by decide +kernel
theorem dX8_count_88 : decode cX8_count 88 = .ok (.getfield 154, 3) := by decide +kernel
theorem dX8_count_91 : decode cX8_count 91 = .ok (.ireturn, 1) := by decide +kernel
theorem dX8_count_92 : decode cX8_count 92 = .ok (.aload_n 0, 1) := by decide +kernel
theorem dX8_count_93 : decode cX8_count 93 = .ok (.getfield 21, 3) := by decide +kernel
theorem dX8_count_96 : decode cX8_count 96 = .ok (.getfield 157, 3) := by decide +kernel
theorem dX8_count_99 : decode cX8_count 99 = .ok (.ireturn, 1) := by decide +kernel
theorem dX8_count_100 : decode cX8_count 100 = .ok (.aload_n 0, 1) := by decide +kernel
theorem dX8_count_101 : decode cX8_count 101 = .ok (.getfield 21, 3) := by decide +kernel
theorem dX8_count_104 : decode cX8_count 104 = .ok (.invokevirtual 225, 3) := by decide +kernel
theorem dX8_count_107 : decode cX8_count 107 = .ok (.ireturn, 1) := by decide +kernel
theorem dX8_count_108 : decode cX8_count 108 = .ok (.aload_n 0, 1) := by decide +kernel
theorem dX8_count_109 : decode cX8_count 109 = .ok (.getfield 21, 3) := by decide +kernel
theorem dX8_count_112 : decode cX8_count 112 = .ok (.invokevirtual 186, 3) := by decide +kernel
theorem dX8_count_115 : decode cX8_count 115 = .ok (.ireturn, 1) := by decide +kernel
theorem dX8_count_116 : decode cX8_count 116 = .ok (.aload_n 0, 1) := by decide +kernel
theorem dX8_count_117 : decode cX8_count 117 = .ok (.getfield 21, 3) := by decide +kernel
theorem dX8_count_120 : decode cX8_count 120 = .ok (.getfield 270, 3) := by decide +kernel
theorem dX8_count_123 : decode cX8_count 123 = .ok (.ireturn, 1) := by decide +kernel
theorem dX8_count_124 : decode cX8_count 124 = .ok (.aload_n 0, 1) := by decide +kernel
theorem dX8_count_125 : decode cX8_count 125 = .ok (.getfield 330, 3) := by decide +kernel
theorem dX8_count_128 : decode cX8_count 128 = .ok (.ireturn, 1) := by decide +kernel
theorem dX8_count_129 : decode cX8_count 129 = .ok (.aload_n 0, 1) := by decide +kernel
theorem dX8_count_130 : decode cX8_count 130 = .ok (.getfield 257, 3) := by decide +kernel
theorem dX8_count_133 : decode cX8_count 133 = .ok (.ireturn, 1) := by decide +kernel
theorem dX8_count_134 : decode cX8_count 134 = .ok (.aload_n 0, 1) := by decide +kernel
theorem dX8_count_135 : decode cX8_count 135 = .ok (.getfield 21, 3) := by decide +kernel
theorem dX8_count_138 : decode cX8_count 138 = .ok (.getfield 169, 3) := by decide +kernel
theorem dX8_count_141 : decode cX8_count 141 = .ok (.ireturn, 1) := by decide +kernel
theorem dX8_count_142 : decode cX8_count 142 = .ok (.ldc 78, 2) := by decide +kernel
theorem dX8_count_144 : decode cX8_count 144 = .ok (.ireturn, 1) := by decide +kernel
theorem dX8_within_0 : decode cX8_within 0 = .ok (.iload_n 0, 1) := by decide +kernel
theorem dX8_within_1 : decode cX8_within 1 = .ok (.iload_n 1, 1) := by decide +kernel
theorem dX8_within_2 : decode cX8_within 2 = .ok (.if_icmp .lt 12, 3) := by decide +kernel
theorem dX8_within_5 : decode cX8_within 5 = .ok (.iload_n 0, 1) := by decide +kernel
theorem dX8_within_6 : decode cX8_within 6 = .ok (.iload_n 2, 1) := by decide +kernel
theorem dX8_within_7 : decode cX8_within 7 = .ok (.if_icmp .gt 7, 3) := by decide +kernel
theorem dX8_within_10 : decode cX8_within 10 = .ok (.iconst 1, 1) := by decide +kernel
theorem dX8_within_11 : decode cX8_within 11 = .ok (.goto 4, 3) := by decide +kernel
theorem dX8_within_14 : decode cX8_within 14 = .ok (.iconst 0, 1) := by decide +kernel
theorem dX8_within_15 : decode cX8_within 15 = .ok (.ireturn, 1) := by decide +kernel
theorem dX8_held_0 : decode cX8_held 0 = .ok (.iconst 0, 1) := by decide +kernel
theorem dX8_held_1 : decode cX8_held 1 = .ok (.iload_n 0, 1) := by decide +kernel
theorem dX8_held_2 : decode cX8_held 2 = .ok (.iload_n 1, 1) := by decide +kernel
theorem dX8_held_3 : decode cX8_held 3 = .ok (.invokestatic 160, 3) := by decide +kernel
theorem dX8_held_6 : decode cX8_held 6 = .ok (.invokestatic 337, 3) := by decide +kernel
theorem dX8_held_9 : decode cX8_held 9 = .ok (.ireturn, 1) := by decide +kernel
theorem dX8_isKind_0 : decode cX8_isKind 0 = .ok (.iload_n 0, 1) := by decide +kernel
theorem dX8_isKind_1 : decode cX8_isKind 1 = .ok (.iconst 0, 1) := by decide +kernel
theorem dX8_isKind_2 : decode cX8_isKind 2 = .ok (.iconst 5, 1) := by decide +kernel
theorem dX8_isKind_3 : decode cX8_isKind 3 = .ok (.invokestatic 74, 3) := by decide +kernel
theorem dX8_isKind_6 : decode cX8_isKind 6 = .ok (.ireturn, 1) := by decide +kernel
theorem dX8_isSenses_0 : decode cX8_isSenses 0 = .ok (.iload_n 0, 1) := by decide +kernel
theorem dX8_isSenses_1 : decode cX8_isSenses 1 = .ok (.iconst 0, 1) := by decide +kernel
theorem dX8_isSenses_2 : decode cX8_isSenses 2 = .ok (.sipush 255, 3) := by decide +kernel
theorem dX8_isSenses_5 : decode cX8_isSenses 5 = .ok (.invokestatic 74, 3) := by decide +kernel
theorem dX8_isSenses_8 : decode cX8_isSenses 8 = .ok (.ireturn, 1) := by decide +kernel
theorem dX8_isSheet_0 : decode cX8_isSheet 0 = .ok (.iload_n 0, 1) := by decide +kernel
theorem dX8_isSheet_1 : decode cX8_isSheet 1 = .ok (.iconst 0, 1) := by decide +kernel
theorem dX8_isSheet_2 : decode cX8_isSheet 2 = .ok (.iconst 3, 1) := by decide +kernel
theorem dX8_isSheet_3 : decode cX8_isSheet 3 = .ok (.invokestatic 74, 3) := by decide +kernel
theorem dX8_isSheet_6 : decode cX8_isSheet 6 = .ok (.ireturn, 1) := by decide +kernel
theorem dX8_isSlot_0 : decode cX8_isSlot 0 = .ok (.iload_n 0, 1) := by decide +kernel
theorem dX8_isSlot_1 : decode cX8_isSlot 1 = .ok (.iconst 0, 1) := by decide +kernel
theorem dX8_isSlot_2 : decode cX8_isSlot 2 = .ok (.iconst 4, 1) := by decide +kernel
theorem dX8_isSlot_3 : decode cX8_isSlot 3 = .ok (.invokestatic 74, 3) := by decide +kernel
theorem dX8_isSlot_6 : decode cX8_isSlot 6 = .ok (.ireturn, 1) := by decide +kernel
theorem dX9_init_0 : decode cX9_init 0 = .ok (.aload_n 0, 1) := by decide +kernel
theorem dX9_init_1 : decode cX9_init 1 = .ok (.invokespecial 1, 3) := by decide +kernel
theorem dX9_init_4 : decode cX9_init 4 = .ok (.aload_n 0, 1) := by decide +kernel
theorem dX9_init_5 : decode cX9_init 5 = .ok (.sipush 1480, 3) := by decide +kernel
theorem dX9_init_8 : decode cX9_init 8 = .ok (.newarray .int, 2) := by decide +kernel
theorem dX9_init_10 : decode cX9_init 10 = .ok (.putfield 9, 3) := by decide +kernel
theorem dX9_init_13 : decode cX9_init 13 = .ok (.aload_n 0, 1) := by decide +kernel
theorem dX9_init_14 : decode cX9_init 14 = .ok (.sipush 1480, 3) := by decide +kernel
theorem dX9_init_17 : decode cX9_init 17 = .ok (.newarray .int, 2) := by decide +kernel
theorem dX9_init_19 : decode cX9_init 19 = .ok (.putfield 13, 3) := by decide +kernel
theorem dX9_init_22 : decode cX9_init 22 = .ok (.aload_n 0, 1) := by decide +kernel
theorem dX9_init_23 : decode cX9_init 23 = .ok (.bipush 80, 2) := by decide +kernel
theorem dX9_init_25 : decode cX9_init 25 = .ok (.newarray .int, 2) := by decide +kernel
theorem dX9_init_27 : decode cX9_init 27 = .ok (.putfield 16, 3) := by decide +kernel
theorem dX9_init_30 : decode cX9_init 30 = .ok (.aload_n 0, 1) := by decide +kernel
theorem dX9_init_31 : decode cX9_init 31 = .ok (.bipush 10, 2) := by decide +kernel
theorem dX9_init_33 : decode cX9_init 33 = .ok (.newarray .int, 2) := by decide +kernel
theorem dX9_init_35 : decode cX9_init 35 = .ok (.putfield 19, 3) := by decide +kernel
theorem dX9_init_38 : decode cX9_init 38 = .ok (.aload_n 0, 1) := by decide +kernel
theorem dX9_init_39 : decode cX9_init 39 = .ok (.bipush 96, 2) := by decide +kernel
theorem dX9_init_41 : decode cX9_init 41 = .ok (.newarray .int, 2) := by decide +kernel
theorem dX9_init_43 : decode cX9_init 43 = .ok (.putfield 22, 3) := by decide +kernel
theorem dX9_init_46 : decode cX9_init 46 = .ok (.aload_n 0, 1) := by decide +kernel
theorem dX9_init_47 : decode cX9_init 47 = .ok (.iconst 3, 1) := by decide +kernel
theorem dX9_init_48 : decode cX9_init 48 = .ok (.anewarray 25, 3) := by decide +kernel
theorem dX9_init_51 : decode cX9_init 51 = .ok (.dup, 1) := by decide +kernel
theorem dX9_init_52 : decode cX9_init 52 = .ok (.iconst 0, 1) := by decide +kernel
theorem dX9_init_53 : decode cX9_init 53 = .ok (.ldc 27, 2) := by decide +kernel
theorem dX9_init_55 : decode cX9_init 55 = .ok (.aastore, 1) := by decide +kernel
theorem dX9_init_56 : decode cX9_init 56 = .ok (.dup, 1) := by decide +kernel
theorem dX9_init_57 : decode cX9_init 57 = .ok (.iconst 1, 1) := by decide +kernel
theorem dX9_init_58 : decode cX9_init 58 = .ok (.ldc 29, 2) := by decide +kernel
theorem dX9_init_60 : decode cX9_init 60 = .ok (.aastore, 1) := by decide +kernel
theorem dX9_init_61 : decode cX9_init 61 = .ok (.dup, 1) := by decide +kernel
theorem dX9_init_62 : decode cX9_init 62 = .ok (.iconst 2, 1) := by decide +kernel
theorem dX9_init_63 : decode cX9_init 63 = .ok (.ldc 31, 2) := by decide +kernel
theorem dX9_init_65 : decode cX9_init 65 = .ok (.aastore, 1) := by decide +kernel
theorem dX9_init_66 : decode cX9_init 66 = .ok (.putfield 33, 3) := by decide +kernel
theorem dX9_init_69 : decode cX9_init 69 = .ok (.aload_n 0, 1) := by decide +kernel
theorem dX9_init_70 : decode cX9_init 70 = .ok (.iconst 3, 1) := by decide +kernel
theorem dX9_init_71 : decode cX9_init 71 = .ok (.anewarray 25, 3) := by decide +kernel
theorem dX9_init_74 : decode cX9_init 74 = .ok (.dup, 1) := by decide +kernel
theorem dX9_init_75 : decode cX9_init 75 = .ok (.iconst 0, 1) := by decide +kernel
theorem dX9_init_76 : decode cX9_init 76 = .ok (.ldc 37, 2) := by decide +kernel
theorem dX9_init_78 : decode cX9_init 78 = .ok (.aastore, 1) := by decide +kernel
theorem dX9_init_79 : decode cX9_init 79 = .ok (.dup, 1) := by decide +kernel
theorem dX9_init_80 : decode cX9_init 80 = .ok (.iconst 1, 1) := by decide +kernel
theorem dX9_init_81 : decode cX9_init 81 = .ok (.ldc 39, 2) := by decide +kernel
theorem dX9_init_83 : decode cX9_init 83 = .ok (.aastore, 1) := by decide +kernel
theorem dX9_init_84 : decode cX9_init 84 = .ok (.dup, 1) := by decide +kernel
theorem dX9_init_85 : decode cX9_init 85 = .ok (.iconst 2, 1) := by decide +kernel
theorem dX9_init_86 : decode cX9_init 86 = .ok (.ldc 41, 2) := by decide +kernel
theorem dX9_init_88 : decode cX9_init 88 = .ok (.aastore, 1) := by decide +kernel
theorem dX9_init_89 : decode cX9_init 89 = .ok (.putfield 43, 3) := by decide +kernel
theorem dX9_init_92 : decode cX9_init 92 = .ok (.aload_n 0, 1) := by decide +kernel
theorem dX9_init_93 : decode cX9_init 93 = .ok (.bipush 100, 2) := by decide +kernel
theorem dX9_init_95 : decode cX9_init 95 = .ok (.newarray .int, 2) := by decide +kernel
theorem dX9_init_97 : decode cX9_init 97 = .ok (.putfield 46, 3) := by decide +kernel
theorem dX9_init_100 : decode cX9_init 100 = .ok (.aload_n 0, 1) := by decide +kernel
theorem dX9_init_101 : decode cX9_init 101 = .ok (.iconst 3, 1) := by decide +kernel
theorem dX9_init_102 : decode cX9_init 102 = .ok (.newarray .int, 2) := by decide +kernel
theorem dX9_init_104 : decode cX9_init 104 = .ok (.putfield 49, 3) := by decide +kernel
theorem dX9_init_107 : decode cX9_init 107 = .ok (.aload_n 0, 1) := by decide +kernel
theorem dX9_init_108 : decode cX9_init 108 = .ok (.bipush 100, 2) := by decide +kernel
theorem dX9_init_110 : decode cX9_init 110 = .ok (.newarray .int, 2) := by decide +kernel
theorem dX9_init_112 : decode cX9_init 112 = .ok (.putfield 52, 3) := by decide +kernel
theorem dX9_init_115 : decode cX9_init 115 = .ok (.aload_n 0, 1) := by decide +kernel
theorem dX9_init_116 : decode cX9_init 116 = .ok (.iconst 4, 1) := by decide +kernel
theorem dX9_init_117 : decode cX9_init 117 = .ok (.newarray .int, 2) := by decide +kernel
theorem dX9_init_119 : decode cX9_init 119 = .ok (.dup, 1) := by decide +kernel
theorem dX9_init_120 : decode cX9_init 120 = .ok (.iconst 0, 1) := by decide +kernel
theorem dX9_init_121 : decode cX9_init 121 = .ok (.iconst (-1), 1) := by decide +kernel
theorem dX9_init_122 : decode cX9_init 122 = .ok (.iastore, 1) := by decide +kernel
theorem dX9_init_123 : decode cX9_init 123 = .ok (.dup, 1) := by decide +kernel
theorem dX9_init_124 : decode cX9_init 124 = .ok (.iconst 1, 1) := by decide +kernel
theorem dX9_init_125 : decode cX9_init 125 = .ok (.iconst (-1), 1) := by decide +kernel
theorem dX9_init_126 : decode cX9_init 126 = .ok (.iastore, 1) := by decide +kernel
theorem dX9_init_127 : decode cX9_init 127 = .ok (.dup, 1) := by decide +kernel
theorem dX9_init_128 : decode cX9_init 128 = .ok (.iconst 2, 1) := by decide +kernel
theorem dX9_init_129 : decode cX9_init 129 = .ok (.iconst (-1), 1) := by decide +kernel
theorem dX9_init_130 : decode cX9_init 130 = .ok (.iastore, 1) := by decide +kernel
theorem dX9_init_131 : decode cX9_init 131 = .ok (.dup, 1) := by decide +kernel
theorem dX9_init_132 : decode cX9_init 132 = .ok (.iconst 3, 1) := by decide +kernel
theorem dX9_init_133 : decode cX9_init 133 = .ok (.iconst (-1), 1) := by decide +kernel
theorem dX9_init_134 : decode cX9_init 134 = .ok (.iastore, 1) := by decide +kernel
theorem dX9_init_135 : decode cX9_init 135 = .ok (.putfield 55, 3) := by decide +kernel
theorem dX9_init_138 : decode cX9_init 138 = .ok (.aload_n 0, 1) := by decide +kernel
theorem dX9_init_139 : decode cX9_init 139 = .ok (.iconst 4, 1) := by decide +kernel
theorem dX9_init_140 : decode cX9_init 140 = .ok (.newarray .int, 2) := by decide +kernel
theorem dX9_init_142 : decode cX9_init 142 = .ok (.putfield 58, 3) := by decide +kernel
theorem dX9_init_145 : decode cX9_init 145 = .ok (.aload_n 0, 1) := by decide +kernel
theorem dX9_init_146 : decode cX9_init 146 = .ok (.bipush 96, 2) := by decide +kernel
theorem dX9_init_148 : decode cX9_init 148 = .ok (.newarray .int, 2) := by decide +kernel
theorem dX9_init_150 : decode cX9_init 150 = .ok (.putfield 61, 3) := by decide +kernel
theorem dX9_init_153 : decode cX9_init 153 = .ok (.aload_n 0, 1) := by decide +kernel
theorem dX9_init_154 : decode cX9_init 154 = .ok (.bipush 24, 2) := by decide +kernel
theorem dX9_init_156 : decode cX9_init 156 = .ok (.newarray .int, 2) := by decide +kernel
theorem dX9_init_158 : decode cX9_init 158 = .ok (.putfield 64, 3) := by decide +kernel
theorem dX9_init_161 : decode cX9_init 161 = .ok (.aload_n 0, 1) := by decide +kernel
theorem dX9_init_162 : decode cX9_init 162 = .ok (.iconst 5, 1) := by decide +kernel
theorem dX9_init_163 : decode cX9_init 163 = .ok (.newarray .int, 2) := by decide +kernel
theorem dX9_init_165 : decode cX9_init 165 = .ok (.putfield 67, 3) := by decide +kernel
theorem dX9_init_168 : decode cX9_init 168 = .ok (.aload_n 0, 1) := by decide +kernel
theorem dX9_init_169 : decode cX9_init 169 = .ok (.bipush 125, 2) := by decide +kernel
theorem dX9_init_171 : decode cX9_init 171 = .ok (.newarray .int, 2) := by decide +kernel
theorem dX9_init_173 : decode cX9_init 173 = .ok (.putfield 70, 3) := by decide +kernel
theorem dX9_init_176 : decode cX9_init 176 = .ok (.aload_n 0, 1) := by decide +kernel
theorem dX9_init_177 : decode cX9_init 177 = .ok (.bipush 60, 2) := by decide +kernel
theorem dX9_init_179 : decode cX9_init 179 = .ok (.newarray .int, 2) := by decide +kernel
theorem dX9_init_181 : decode cX9_init 181 = .ok (.putfield 73, 3) := by decide +kernel
theorem dX9_init_184 : decode cX9_init 184 = .ok (.aload_n 0, 1) := by decide +kernel
theorem dX9_init_185 : decode cX9_init 185 = .ok (.getfield 9, 3) := by decide +kernel
theorem dX9_init_188 : decode cX9_init 188 = .ok (.iconst 0, 1) := by decide +kernel
theorem dX9_init_189 : decode cX9_init 189 = .ok (.iconst 1, 1) := by decide +kernel
theorem dX9_init_190 : decode cX9_init 190 = .ok (.iastore, 1) := by decide +kernel
theorem dX9_init_191 : decode cX9_init 191 = .ok (.aload_n 0, 1) := by decide +kernel
theorem dX9_init_192 : decode cX9_init 192 = .ok (.getfield 9, 3) := by decide +kernel
theorem dX9_init_195 : decode cX9_init 195 = .ok (.iconst 2, 1) := by decide +kernel
theorem dX9_init_196 : decode cX9_init 196 = .ok (.bipush 6, 2) := by decide +kernel
theorem dX9_init_198 : decode cX9_init 198 = .ok (.iastore, 1) := by decide +kernel
theorem dX9_init_199 : decode cX9_init 199 = .ok (.aload_n 0, 1) := by decide +kernel
theorem dX9_init_200 : decode cX9_init 200 = .ok (.getfield 9, 3) := by decide +kernel
theorem dX9_init_203 : decode cX9_init 203 = .ok (.iconst 3, 1) := by decide +kernel
theorem dX9_init_204 : decode cX9_init 204 = .ok (.bipush 50, 2) := by decide +kernel
theorem dX9_init_206 : decode cX9_init 206 = .ok (.iastore, 1) := by decide +kernel
theorem dX9_init_207 : decode cX9_init 207 = .ok (.return_, 1) := by decide +kernel
theorem dX9_within_0 : decode cX9_within 0 = .ok (.iload_n 0, 1) := by decide +kernel
theorem dX9_within_1 : decode cX9_within 1 = .ok (.iload_n 1, 1) := by decide +kernel
theorem dX9_within_2 : decode cX9_within 2 = .ok (.if_icmp .lt 12, 3) := by decide +kernel
theorem dX9_within_5 : decode cX9_within 5 = .ok (.iload_n 0, 1) := by decide +kernel
theorem dX9_within_6 : decode cX9_within 6 = .ok (.iload_n 2, 1) := by decide +kernel
theorem dX9_within_7 : decode cX9_within 7 = .ok (.if_icmp .gt 7, 3) := by decide +kernel
theorem dX9_within_10 : decode cX9_within 10 = .ok (.iconst 1, 1) := by decide +kernel
theorem dX9_within_11 : decode cX9_within 11 = .ok (.goto 4, 3) := by decide +kernel
theorem dX9_within_14 : decode cX9_within 14 = .ok (.iconst 0, 1) := by decide +kernel
theorem dX9_within_15 : decode cX9_within 15 = .ok (.ireturn, 1) := by decide +kernel
theorem dX9_has_0 : decode cX9_has 0 = .ok (.iload_n 0, 1) := by decide +kernel
theorem dX9_has_1 : decode cX9_has 1 = .ok (.iload_n 1, 1) := by decide +kernel
theorem dX9_has_2 : decode cX9_has 2 = .ok (.ishr, 1) := by decide +kernel
theorem dX9_has_3 : decode cX9_has 3 = .ok (.iconst 1, 1) := by decide +kernel
theorem dX9_has_4 : decode cX9_has 4 = .ok (.iand, 1) := by decide +kernel
theorem dX9_has_5 : decode cX9_has 5 = .ok (.iconst 1, 1) := by decide +kernel
theorem dX9_has_6 : decode cX9_has 6 = .ok (.if_icmp .ne 7, 3) := by decide +kernel
theorem dX9_has_9 : decode cX9_has 9 = .ok (.iconst 1, 1) := by decide +kernel
theorem dX9_has_10 : decode cX9_has 10 = .ok (.goto 4, 3) := by decide +kernel
theorem dX9_has_13 : decode cX9_has 13 = .ok (.iconst 0, 1) := by decide +kernel
theorem dX9_has_14 : decode cX9_has 14 = .ok (.ireturn, 1) := by decide +kernel
theorem dX9_bits_0 : decode cX9_bits 0 = .ok (.iconst 0, 1) := by decide +kernel
theorem dX9_bits_1 : decode cX9_bits 1 = .ok (.istore_n 1, 1) := by decide +kernel
theorem dX9_bits_2 : decode cX9_bits 2 = .ok (.iload_n 0, 1) := by decide +kernel
theorem dX9_bits_3 : decode cX9_bits 3 = .ok (.istore_n 2, 1) := by decide +kernel
theorem dX9_bits_4 : decode cX9_bits 4 = .ok (.iload_n 2, 1) := by decide +kernel
theorem dX9_bits_5 : decode cX9_bits 5 = .ok (.ifCond .eq 15, 3) := by decide +kernel
theorem dX9_bits_8 : decode cX9_bits 8 = .ok (.iinc 1 1, 3) := by decide +kernel
theorem dX9_bits_11 : decode cX9_bits 11 = .ok (.iload_n 2, 1) := by decide +kernel
theorem dX9_bits_12 : decode cX9_bits 12 = .ok (.iload_n 2, 1) := by decide +kernel
theorem dX9_bits_13 : decode cX9_bits 13 = .ok (.iconst 1, 1) := by decide +kernel
theorem dX9_bits_14 : decode cX9_bits 14 = .ok (.isub, 1) := by decide +kernel
theorem dX9_bits_15 : decode cX9_bits 15 = .ok (.iand, 1) := by decide +kernel
theorem dX9_bits_16 : decode cX9_bits 16 = .ok (.istore_n 2, 1) := by decide +kernel
theorem dX9_bits_17 : decode cX9_bits 17 = .ok (.goto (-13), 3) := by decide +kernel
theorem dX9_bits_20 : decode cX9_bits 20 = .ok (.iload_n 1, 1) := by decide +kernel
theorem dX9_bits_21 : decode cX9_bits 21 = .ok (.ireturn, 1) := by decide +kernel
theorem dX9_become_0 : decode cX9_become 0 = .ok (.aload_n 0, 1) := by decide +kernel
theorem dX9_become_1 : decode cX9_become 1 = .ok (.getfield 9, 3) := by decide +kernel
theorem dX9_become_4 : decode cX9_become 4 = .ok (.iload_n 1, 1) := by decide +kernel
theorem dX9_become_5 : decode cX9_become 5 = .ok (.iaload, 1) := by decide +kernel
theorem dX9_become_6 : decode cX9_become 6 = .ok (.istore_n 3, 1) := by decide +kernel
theorem dX9_become_7 : decode cX9_become 7 = .ok (.aload_n 0, 1) := by decide +kernel
theorem dX9_become_8 : decode cX9_become 8 = .ok (.getfield 9, 3) := by decide +kernel
theorem dX9_become_11 : decode cX9_become 11 = .ok (.iload_n 1, 1) := by decide +kernel
theorem dX9_become_12 : decode cX9_become 12 = .ok (.iload_n 2, 1) := by decide +kernel
theorem dX9_become_13 : decode cX9_become 13 = .ok (.iastore, 1) := by decide +kernel
theorem dX9_become_14 : decode cX9_become 14 = .ok (.iload_n 3, 1) := by decide +kernel
theorem dX9_become_15 : decode cX9_become 15 = .ok (.ireturn, 1) := by decide +kernel
theorem dX9_copyRow_0 : decode cX9_copyRow 0 = .ok (.iconst 0, 1) := by decide +kernel
theorem dX9_copyRow_1 : decode cX9_copyRow 1 = .ok (.istore_n 3, 1) := by decide +kernel
theorem dX9_copyRow_2 : decode cX9_copyRow 2 = .ok (.iload_n 3, 1) := by decide +kernel
theorem dX9_copyRow_3 : decode cX9_copyRow 3 = .ok (.iload_n 2, 1) := by decide +kernel
theorem dX9_copyRow_4 : decode cX9_copyRow 4 = .ok (.if_icmp .ge 15, 3) := by decide +kernel
theorem dX9_copyRow_7 : decode cX9_copyRow 7 = .ok (.aload_n 1, 1) := by decide +kernel
theorem dX9_copyRow_8 : decode cX9_copyRow 8 = .ok (.iload_n 3, 1) := by decide +kernel
theorem dX9_copyRow_9 : decode cX9_copyRow 9 = .ok (.aload_n 0, 1) := by decide +kernel
theorem dX9_copyRow_10 : decode cX9_copyRow 10 = .ok (.iload_n 3, 1) := by decide +kernel
theorem dX9_copyRow_11 : decode cX9_copyRow 11 = .ok (.iaload, 1) := by decide +kernel
theorem dX9_copyRow_12 : decode cX9_copyRow 12 = .ok (.iastore, 1) := by decide +kernel
theorem dX9_copyRow_13 : decode cX9_copyRow 13 = .ok (.iinc 3 1, 3) := by decide +kernel
theorem dX9_copyRow_16 : decode cX9_copyRow 16 = .ok (.goto (-14), 3) := by decide +kernel
theorem dX9_copyRow_19 : decode cX9_copyRow 19 = .ok (.return_, 1) := by decide +kernel
theorem dX9_putBack_0 : decode cX9_putBack 0 = .ok (.aload_n 0, 1) := by decide +kernel
theorem dX9_putBack_1 : decode cX9_putBack 1 = .ok (.getfield 16, 3) := by decide +kernel
theorem dX9_putBack_4 : decode cX9_putBack 4 = .ok (.aload_n 0, 1) := by decide +kernel
theorem dX9_putBack_5 : decode cX9_putBack 5 = .ok (.getfield 9, 3) := by decide +kernel
theorem dX9_putBack_8 : decode cX9_putBack 8 = .ok (.bipush 80, 2) := by decide +kernel
theorem dX9_putBack_10 : decode cX9_putBack 10 = .ok (.invokestatic 76, 3) := by decide +kernel
theorem dX9_putBack_13 : decode cX9_putBack 13 = .ok (.iload_n 1, 1) := by decide +kernel
theorem dX9_putBack_14 : decode cX9_putBack 14 = .ok (.ireturn, 1) := by decide +kernel
theorem dX9_isWord_0 : decode cX9_isWord 0 = .ok (.iload_n 1, 1) := by decide +kernel
theorem dX9_isWord_1 : decode cX9_isWord 1 = .ok (.iconst 0, 1) := by decide +kernel
theorem dX9_isWord_2 : decode cX9_isWord 2 = .ok (.aload_n 0, 1) := by decide +kernel
theorem dX9_isWord_3 : decode cX9_isWord 3 = .ok (.getfield 9, 3) := by decide +kernel
theorem dX9_isWord_6 : decode cX9_isWord 6 = .ok (.iconst 5, 1) := by decide +kernel
theorem dX9_isWord_7 : decode cX9_isWord 7 = .ok (.iaload, 1) := by decide +kernel
theorem dX9_isWord_8 : decode cX9_isWord 8 = .ok (.iconst 1, 1) := by decide +kernel
theorem dX9_isWord_9 : decode cX9_isWord 9 = .ok (.isub, 1) := by decide +kernel
theorem dX9_isWord_10 : decode cX9_isWord 10 = .ok (.invokestatic 80, 3) := by decide +kernel
theorem dX9_isWord_13 : decode cX9_isWord 13 = .ok (.ireturn, 1) := by decide +kernel
theorem dX9_areWords_0 : decode cX9_areWords 0 = .ok (.iload_n 1, 1) := by decide +kernel
theorem dX9_areWords_1 : decode cX9_areWords 1 = .ok (.iconst 0, 1) := by decide +kernel
theorem dX9_areWords_2 : decode cX9_areWords 2 = .ok (.iconst 1, 1) := by decide +kernel
theorem dX9_areWords_3 : decode cX9_areWords 3 = .ok (.aload_n 0, 1) := by decide +kernel
theorem dX9_areWords_4 : decode cX9_areWords 4 = .ok (.getfield 9, 3) := by decide +kernel
theorem dX9_areWords_7 : decode cX9_areWords 7 = .ok (.iconst 5, 1) := by decide +kernel
theorem dX9_areWords_8 : decode cX9_areWords 8 = .ok (.iaload, 1) := by decide +kernel
theorem dX9_areWords_9 : decode cX9_areWords 9 = .ok (.ishl, 1) := by decide +kernel
theorem dX9_areWords_10 : decode cX9_areWords 10 = .ok (.iconst 1, 1) := by decide +kernel
theorem dX9_areWords_11 : decode cX9_areWords 11 = .ok (.isub, 1) := by decide +kernel
theorem dX9_areWords_12 : decode cX9_areWords 12 = .ok (.invokestatic 80, 3) := by decide +kernel
theorem dX9_areWords_15 : decode cX9_areWords 15 = .ok (.ireturn, 1) := by decide +kernel
theorem dX9_isTraveller_0 : decode cX9_isTraveller 0 = .ok (.iload_n 1, 1) := by decide +kernel
theorem dX9_isTraveller_1 : decode cX9_isTraveller 1 = .ok (.iconst 0, 1) := by decide +kernel
theorem dX9_isTraveller_2 : decode cX9_isTraveller 2 = .ok (.aload_n 0, 1) := by decide +kernel
theorem dX9_isTraveller_3 : decode cX9_isTraveller 3 = .ok (.getfield 9, 3) := by decide +kernel
theorem dX9_isTraveller_6 : decode cX9_isTraveller 6 = .ok (.bipush 6, 2) := by decide +kernel
theorem dX9_isTraveller_8 : decode cX9_isTraveller 8 = .ok (.iaload, 1) := by decide +kernel
theorem dX9_isTraveller_9 : decode cX9_isTraveller 9 = .ok (.iconst 1, 1) := by decide +kernel
theorem dX9_isTraveller_10 : decode cX9_isTraveller 10 = .ok (.isub, 1) := by decide +kernel
theorem dX9_isTraveller_11 : decode cX9_isTraveller 11 = .ok (.invokestatic 80, 3) := by decide +kernel
theorem dX9_isTraveller_14 : decode cX9_isTraveller 14 = .ok (.ireturn, 1) := by decide +kernel
theorem dX9_wordIs_0 : decode cX9_wordIs 0 = .ok (.aload_n 0, 1) := by decide +kernel
theorem dX9_wordIs_1 : decode cX9_wordIs 1 = .ok (.getfield 9, 3) := by decide +kernel
theorem dX9_wordIs_4 : decode cX9_wordIs 4 = .ok (.bipush 8, 2) := by decide +kernel
theorem dX9_wordIs_6 : decode cX9_wordIs 6 = .ok (.bipush 6, 2) := by decide +kernel
theorem dX9_wordIs_8 : decode cX9_wordIs 8 = .ok (.iload_n 1, 1) := by decide +kernel
theorem dX9_wordIs_9 : decode cX9_wordIs 9 = .ok (.imul, 1) := by decide +kernel
theorem dX9_wordIs_10 : decode cX9_wordIs 10 = .ok (.iadd, 1) := by decide +kernel
theorem dX9_wordIs_11 : decode cX9_wordIs 11 = .ok (.iload_n 2, 1) := by decide +kernel
theorem dX9_wordIs_12 : decode cX9_wordIs 12 = .ok (.iadd, 1) := by decide +kernel
theorem dX9_wordIs_13 : decode cX9_wordIs 13 = .ok (.iaload, 1) := by decide +kernel
theorem dX9_wordIs_14 : decode cX9_wordIs 14 = .ok (.ireturn, 1) := by decide +kernel
theorem dX9_travellerIs_0 : decode cX9_travellerIs 0 = .ok (.aload_n 0, 1) := by decide +kernel
theorem dX9_travellerIs_1 : decode cX9_travellerIs 1 = .ok (.getfield 9, 3) := by decide +kernel
theorem dX9_travellerIs_4 : decode cX9_travellerIs 4 = .ok (.bipush 68, 2) := by decide +kernel
theorem dX9_travellerIs_6 : decode cX9_travellerIs 6 = .ok (.iconst 2, 1) := by decide +kernel
theorem dX9_travellerIs_7 : decode cX9_travellerIs 7 = .ok (.iload_n 1, 1) := by decide +kernel
theorem dX9_travellerIs_8 : decode cX9_travellerIs 8 = .ok (.imul, 1) := by decide +kernel
theorem dX9_travellerIs_9 : decode cX9_travellerIs 9 = .ok (.iadd, 1) := by decide +kernel
theorem dX9_travellerIs_10 : decode cX9_travellerIs 10 = .ok (.iload_n 2, 1) := by decide +kernel
theorem dX9_travellerIs_11 : decode cX9_travellerIs 11 = .ok (.iadd, 1) := by decide +kernel
theorem dX9_travellerIs_12 : decode cX9_travellerIs 12 = .ok (.iaload, 1) := by decide +kernel
theorem dX9_travellerIs_13 : decode cX9_travellerIs 13 = .ok (.ireturn, 1) := by decide +kernel
theorem dX9_comes_0 : decode cX9_comes 0 = .ok (.aload_n 0, 1) := by decide +kernel
theorem dX9_comes_1 : decode cX9_comes 1 = .ok (.getfield 9, 3) := by decide +kernel
theorem dX9_comes_4 : decode cX9_comes 4 = .ok (.iconst 5, 1) := by decide +kernel
theorem dX9_comes_5 : decode cX9_comes 5 = .ok (.iaload, 1) := by decide +kernel
theorem dX9_comes_6 : decode cX9_comes 6 = .ok (.istore 5, 2) := by decide +kernel
theorem dX9_comes_8 : decode cX9_comes 8 = .ok (.bipush 8, 2) := by decide +kernel
theorem dX9_comes_10 : decode cX9_comes 10 = .ok (.bipush 6, 2) := by decide +kernel
theorem dX9_comes_12 : decode cX9_comes 12 = .ok (.iload 5, 2) := by decide +kernel
theorem dX9_comes_14 : decode cX9_comes 14 = .ok (.imul, 1) := by decide +kernel
theorem dX9_comes_15 : decode cX9_comes 15 = .ok (.iadd, 1) := by decide +kernel
theorem dX9_comes_16 : decode cX9_comes 16 = .ok (.istore 6, 2) := by decide +kernel
theorem dX9_comes_18 : decode cX9_comes 18 = .ok (.aload_n 0, 1) := by decide +kernel
theorem dX9_comes_19 : decode cX9_comes 19 = .ok (.getfield 9, 3) := by decide +kernel
theorem dX9_comes_22 : decode cX9_comes 22 = .ok (.iload 6, 2) := by decide +kernel
theorem dX9_comes_24 : decode cX9_comes 24 = .ok (.iconst 0, 1) := by decide +kernel
theorem dX9_comes_25 : decode cX9_comes 25 = .ok (.iadd, 1) := by decide +kernel
theorem dX9_comes_26 : decode cX9_comes 26 = .ok (.iload_n 1, 1) := by decide +kernel
theorem dX9_comes_27 : decode cX9_comes 27 = .ok (.iastore, 1) := by decide +kernel
theorem dX9_comes_28 : decode cX9_comes 28 = .ok (.aload_n 0, 1) := by decide +kernel
theorem dX9_comes_29 : decode cX9_comes 29 = .ok (.getfield 9, 3) := by decide +kernel
theorem dX9_comes_32 : decode cX9_comes 32 = .ok (.iload 6, 2) := by decide +kernel
theorem dX9_comes_34 : decode cX9_comes 34 = .ok (.iconst 1, 1) := by decide +kernel
theorem dX9_comes_35 : decode cX9_comes 35 = .ok (.iadd, 1) := by decide +kernel
theorem dX9_comes_36 : decode cX9_comes 36 = .ok (.iload_n 2, 1) := by decide +kernel
theorem dX9_comes_37 : decode cX9_comes 37 = .ok (.iastore, 1) := by decide +kernel
theorem dX9_comes_38 : decode cX9_comes 38 = .ok (.aload_n 0, 1) := by decide +kernel
theorem dX9_comes_39 : decode cX9_comes 39 = .ok (.getfield 9, 3) := by decide +kernel
theorem dX9_comes_42 : decode cX9_comes 42 = .ok (.iload 6, 2) := by decide +kernel
theorem dX9_comes_44 : decode cX9_comes 44 = .ok (.iconst 2, 1) := by decide +kernel
theorem dX9_comes_45 : decode cX9_comes 45 = .ok (.iadd, 1) := by decide +kernel
theorem dX9_comes_46 : decode cX9_comes 46 = .ok (.iload_n 3, 1) := by decide +kernel
theorem dX9_comes_47 : decode cX9_comes 47 = .ok (.iastore, 1) := by decide +kernel
theorem dX9_comes_48 : decode cX9_comes 48 = .ok (.aload_n 0, 1) := by decide +kernel
theorem dX9_comes_49 : decode cX9_comes 49 = .ok (.getfield 9, 3) := by decide +kernel
theorem dX9_comes_52 : decode cX9_comes 52 = .ok (.iload 6, 2) := by decide +kernel
theorem dX9_comes_54 : decode cX9_comes 54 = .ok (.iconst 3, 1) := by decide +kernel
theorem dX9_comes_55 : decode cX9_comes 55 = .ok (.iadd, 1) := by decide +kernel
theorem dX9_comes_56 : decode cX9_comes 56 = .ok (.iload 4, 2) := by decide +kernel
theorem dX9_comes_58 : decode cX9_comes 58 = .ok (.iastore, 1) := by decide +kernel
theorem dX9_comes_59 : decode cX9_comes 59 = .ok (.aload_n 0, 1) := by decide +kernel
theorem dX9_comes_60 : decode cX9_comes 60 = .ok (.getfield 9, 3) := by decide +kernel
theorem dX9_comes_63 : decode cX9_comes 63 = .ok (.iload 6, 2) := by decide +kernel
theorem dX9_comes_65 : decode cX9_comes 65 = .ok (.iconst 4, 1) := by decide +kernel
theorem dX9_comes_66 : decode cX9_comes 66 = .ok (.iadd, 1) := by decide +kernel
theorem dX9_comes_67 : decode cX9_comes 67 = .ok (.iconst 0, 1) := by decide +kernel
theorem dX9_comes_68 : decode cX9_comes 68 = .ok (.iastore, 1) := by decide +kernel
theorem dX9_comes_69 : decode cX9_comes 69 = .ok (.aload_n 0, 1) := by decide +kernel
theorem dX9_comes_70 : decode cX9_comes 70 = .ok (.getfield 9, 3) := by decide +kernel
theorem dX9_comes_73 : decode cX9_comes 73 = .ok (.iload 6, 2) := by decide +kernel
theorem dX9_comes_75 : decode cX9_comes 75 = .ok (.iconst 5, 1) := by decide +kernel
theorem dX9_comes_76 : decode cX9_comes 76 = .ok (.iadd, 1) := by decide +kernel
theorem dX9_comes_77 : decode cX9_comes 77 = .ok (.iconst 0, 1) := by decide +kernel
theorem dX9_comes_78 : decode cX9_comes 78 = .ok (.iastore, 1) := by decide +kernel
theorem dX9_comes_79 : decode cX9_comes 79 = .ok (.aload_n 0, 1) := by decide +kernel
theorem dX9_comes_80 : decode cX9_comes 80 = .ok (.getfield 9, 3) := by decide +kernel
theorem dX9_comes_83 : decode cX9_comes 83 = .ok (.iconst 5, 1) := by decide +kernel
theorem dX9_comes_84 : decode cX9_comes 84 = .ok (.dup2, 1) := by decide +kernel
theorem dX9_comes_85 : decode cX9_comes 85 = .ok (.iaload, 1) := by decide +kernel
theorem dX9_comes_86 : decode cX9_comes 86 = .ok (.iconst 1, 1) := by decide +kernel
theorem dX9_comes_87 : decode cX9_comes 87 = .ok (.iadd, 1) := by decide +kernel
theorem dX9_comes_88 : decode cX9_comes 88 = .ok (.iastore, 1) := by decide +kernel
theorem dX9_comes_89 : decode cX9_comes 89 = .ok (.iload 5, 2) := by decide +kernel
theorem dX9_comes_91 : decode cX9_comes 91 = .ok (.ireturn, 1) := by decide +kernel
theorem dX9_isKind_0 : decode cX9_isKind 0 = .ok (.iload_n 0, 1) := by decide +kernel
theorem dX9_isKind_1 : decode cX9_isKind 1 = .ok (.iconst 0, 1) := by decide +kernel
theorem dX9_isKind_2 : decode cX9_isKind 2 = .ok (.iconst 5, 1) := by decide +kernel
theorem dX9_isKind_3 : decode cX9_isKind 3 = .ok (.invokestatic 80, 3) := by decide +kernel
theorem dX9_isKind_6 : decode cX9_isKind 6 = .ok (.ireturn, 1) := by decide +kernel
theorem dX9_isHundred_0 : decode cX9_isHundred 0 = .ok (.iload_n 0, 1) := by decide +kernel
theorem dX9_isHundred_1 : decode cX9_isHundred 1 = .ok (.iconst 0, 1) := by decide +kernel
theorem dX9_isHundred_2 : decode cX9_isHundred 2 = .ok (.bipush 99, 2) := by decide +kernel
theorem dX9_isHundred_4 : decode cX9_isHundred 4 = .ok (.invokestatic 80, 3) := by decide +kernel
theorem dX9_isHundred_7 : decode cX9_isHundred 7 = .ok (.ireturn, 1) := by decide +kernel
theorem dX9_word_0 : decode cX9_word 0 = .ok (.iload_n 1, 1) := by decide +kernel
theorem dX9_word_1 : decode cX9_word 1 = .ok (.invokestatic 84, 3) := by decide +kernel
theorem dX9_word_4 : decode cX9_word 4 = .ok (.ifCond .eq 29, 3) := by decide +kernel
theorem dX9_word_7 : decode cX9_word 7 = .ok (.iload_n 2, 1) := by decide +kernel
theorem dX9_word_8 : decode cX9_word 8 = .ok (.iconst 1, 1) := by decide +kernel
theorem dX9_word_9 : decode cX9_word 9 = .ok (.sipush 255, 3) := by decide +kernel
theorem dX9_word_12 : decode cX9_word 12 = .ok (.invokestatic 80, 3) := by decide +kernel
theorem dX9_word_15 : decode cX9_word 15 = .ok (.ifCond .eq 18, 3) := by decide +kernel
theorem dX9_word_18 : decode cX9_word 18 = .ok (.iload_n 3, 1) := by decide +kernel
theorem dX9_word_19 : decode cX9_word 19 = .ok (.invokestatic 88, 3) := by decide +kernel
theorem dX9_word_22 : decode cX9_word 22 = .ok (.ifCond .eq 11, 3) := by decide +kernel
theorem dX9_word_25 : decode cX9_word 25 = .ok (.iload 4, 2) := by decide +kernel
theorem dX9_word_27 : decode cX9_word 27 = .ok (.invokestatic 88, 3) := by decide +kernel
theorem dX9_word_30 : decode cX9_word 30 = .ok (.ifCond .ne 6, 3) := by decide +kernel
theorem dX9_word_33 : decode cX9_word 33 = .ok (.ldc 91, 2) := by decide +kernel
theorem dX9_word_35 : decode cX9_word 35 = .ok (.ireturn, 1) := by decide +kernel
theorem dX9_word_36 : decode cX9_word 36 = .ok (.aload_n 0, 1) := by decide +kernel
theorem dX9_word_37 : decode cX9_word 37 = .ok (.getfield 9, 3) := by decide +kernel
theorem dX9_word_40 : decode cX9_word 40 = .ok (.iconst 5, 1) := by decide +kernel
theorem dX9_word_41 : decode cX9_word 41 = .ok (.iaload, 1) := by decide +kernel
theorem dX9_word_42 : decode cX9_word 42 = .ok (.bipush 10, 2) := by decide +kernel
theorem dX9_word_44 : decode cX9_word 44 = .ok (.if_icmp .ne 8, 3) := by decide +kernel
theorem dX9_word_47 : decode cX9_word 47 = .ok (.ldc 92, 2) := by decide +kernel
theorem dX9_word_49 : decode cX9_word 49 = .ok (.goto 12, 3) := by decide +kernel
theorem dX9_word_52 : decode cX9_word 52 = .ok (.aload_n 0, 1) := by decide +kernel
theorem dX9_word_53 : decode cX9_word 53 = .ok (.iload_n 1, 1) := by decide +kernel
theorem dX9_word_54 : decode cX9_word 54 = .ok (.iload_n 2, 1) := by decide +kernel
theorem dX9_word_55 : decode cX9_word 55 = .ok (.iload_n 3, 1) := by decide +kernel
theorem dX9_word_56 : decode cX9_word 56 = .ok (.iload 4, 2) := by decide +kernel
theorem dX9_word_58 : decode cX9_word 58 = .ok (.invokevirtual 93, 3) := by decide +kernel
theorem dX9_word_61 : decode cX9_word 61 = .ok (.ireturn, 1) := by decide +kernel
theorem dX9_above_0 : decode cX9_above 0 = .ok (.iload_n 0, 1) := by decide +kernel
theorem dX9_above_1 : decode cX9_above 1 = .ok (.ifCond .ne 7, 3) := by decide +kernel
theorem dX9_above_4 : decode cX9_above 4 = .ok (.iconst (-1), 1) := by decide +kernel
theorem dX9_above_5 : decode cX9_above 5 = .ok (.goto 22, 3) := by decide +kernel
theorem dX9_above_8 : decode cX9_above 8 = .ok (.iload_n 0, 1) := by decide +kernel
theorem dX9_above_9 : decode cX9_above 9 = .ok (.iconst 3, 1) := by decide +kernel
theorem dX9_above_10 : decode cX9_above 10 = .ok (.if_icmp .ne 7, 3) := by decide +kernel
theorem dX9_above_13 : decode cX9_above 13 = .ok (.iconst 1, 1) := by decide +kernel
theorem dX9_above_14 : decode cX9_above 14 = .ok (.goto 13, 3) := by decide +kernel
theorem dX9_above_17 : decode cX9_above 17 = .ok (.iload_n 0, 1) := by decide +kernel
theorem dX9_above_18 : decode cX9_above 18 = .ok (.iconst 4, 1) := by decide +kernel
theorem dX9_above_19 : decode cX9_above 19 = .ok (.if_icmp .ne 7, 3) := by decide +kernel
theorem dX9_above_22 : decode cX9_above 22 = .ok (.iconst 2, 1) := by decide +kernel
theorem dX9_above_23 : decode cX9_above 23 = .ok (.goto 4, 3) := by decide +kernel
theorem dX9_above_26 : decode cX9_above 26 = .ok (.iconst 0, 1) := by decide +kernel
theorem dX9_above_27 : decode cX9_above 27 = .ok (.ireturn, 1) := by decide +kernel
theorem dX9_isUnder_0 : decode cX9_isUnder 0 = .ok (.iload_n 0, 1) := by decide +kernel
theorem dX9_isUnder_1 : decode cX9_isUnder 1 = .ok (.istore_n 2, 1) := by decide +kernel
theorem dX9_isUnder_2 : decode cX9_isUnder 2 = .ok (.iload_n 2, 1) := by decide +kernel
theorem dX9_isUnder_3 : decode cX9_isUnder 3 = .ok (.ifCond .lt 16, 3) := by decide +kernel
theorem dX9_isUnder_6 : decode cX9_isUnder 6 = .ok (.iload_n 2, 1) := by decide +kernel
theorem dX9_isUnder_7 : decode cX9_isUnder 7 = .ok (.iload_n 1, 1) := by decide +kernel
theorem dX9_isUnder_8 : decode cX9_isUnder 8 = .ok (.if_icmp .eq 11, 3) := by decide +kernel
theorem dX9_isUnder_11 : decode cX9_isUnder 11 = .ok (.iload_n 2, 1) := by decide +kernel
theorem dX9_isUnder_12 : decode cX9_isUnder 12 = .ok (.invokestatic 97, 3) := by decide +kernel
theorem dX9_isUnder_15 : decode cX9_isUnder 15 = .ok (.istore_n 2, 1) := by decide +kernel
theorem dX9_isUnder_16 : decode cX9_isUnder 16 = .ok (.goto (-14), 3) := by decide +kernel
theorem dX9_isUnder_19 : decode cX9_isUnder 19 = .ok (.iload_n 2, 1) := by decide +kernel
theorem dX9_isUnder_20 : decode cX9_isUnder 20 = .ok (.ifCond .lt 7, 3) := by decide +kernel
theorem dX9_isUnder_23 : decode cX9_isUnder 23 = .ok (.iconst 1, 1) := by decide +kernel
theorem dX9_isUnder_24 : decode cX9_isUnder 24 = .ok (.goto 4, 3) := by decide +kernel
theorem dX9_isUnder_27 : decode cX9_isUnder 27 = .ok (.iconst 0, 1) := by decide +kernel
theorem dX9_isUnder_28 : decode cX9_isUnder 28 = .ok (.ireturn, 1) := by decide +kernel
theorem dX9_dutyOf_0 : decode cX9_dutyOf 0 = .ok (.aload_n 0, 1) := by decide +kernel
theorem dX9_dutyOf_1 : decode cX9_dutyOf 1 = .ok (.iconst 0, 1) := by decide +kernel
theorem dX9_dutyOf_2 : decode cX9_dutyOf 2 = .ok (.invokevirtual 101, 3) := by decide +kernel
theorem dX9_dutyOf_5 : decode cX9_dutyOf 5 = .ok (.istore_n 2, 1) := by decide +kernel
theorem dX9_dutyOf_6 : decode cX9_dutyOf 6 = .ok (.iload_n 2, 1) := by decide +kernel
theorem dX9_dutyOf_7 : decode cX9_dutyOf 7 = .ok (.ifCond .ge 10, 3) := by decide +kernel
theorem dX9_dutyOf_10 : decode cX9_dutyOf 10 = .ok (.aload_n 0, 1) := by decide +kernel
theorem dX9_dutyOf_11 : decode cX9_dutyOf 11 = .ok (.iload_n 1, 1) := by decide +kernel
theorem dX9_dutyOf_12 : decode cX9_dutyOf 12 = .ok (.iconst 2, 1) := by decide +kernel
theorem dX9_dutyOf_13 : decode cX9_dutyOf 13 = .ok (.invokevirtual 104, 3) := by decide +kernel
theorem dX9_dutyOf_16 : decode cX9_dutyOf 16 = .ok (.ireturn, 1) := by decide +kernel
theorem dX9_dutyOf_17 : decode cX9_dutyOf 17 = .ok (.aload_n 0, 1) := by decide +kernel
theorem dX9_dutyOf_18 : decode cX9_dutyOf 18 = .ok (.getfield 49, 3) := by decide +kernel
theorem dX9_dutyOf_21 : decode cX9_dutyOf 21 = .ok (.iconst 0, 1) := by decide +kernel
theorem dX9_dutyOf_22 : decode cX9_dutyOf 22 = .ok (.aload_n 0, 1) := by decide +kernel
theorem dX9_dutyOf_23 : decode cX9_dutyOf 23 = .ok (.iload_n 1, 1) := by decide +kernel
theorem dX9_dutyOf_24 : decode cX9_dutyOf 24 = .ok (.iconst 2, 1) := by decide +kernel
theorem dX9_dutyOf_25 : decode cX9_dutyOf 25 = .ok (.invokevirtual 104, 3) := by decide +kernel
theorem dX9_dutyOf_28 : decode cX9_dutyOf 28 = .ok (.iastore, 1) := by decide +kernel
theorem dX9_dutyOf_29 : decode cX9_dutyOf 29 = .ok (.aload_n 0, 1) := by decide +kernel
theorem dX9_dutyOf_30 : decode cX9_dutyOf 30 = .ok (.getfield 49, 3) := by decide +kernel
theorem dX9_dutyOf_33 : decode cX9_dutyOf 33 = .ok (.iconst 1, 1) := by decide +kernel
theorem dX9_dutyOf_34 : decode cX9_dutyOf 34 = .ok (.aload_n 0, 1) := by decide +kernel
theorem dX9_dutyOf_35 : decode cX9_dutyOf 35 = .ok (.iload_n 1, 1) := by decide +kernel
theorem dX9_dutyOf_36 : decode cX9_dutyOf 36 = .ok (.iconst 5, 1) := by decide +kernel
theorem dX9_dutyOf_37 : decode cX9_dutyOf 37 = .ok (.invokevirtual 104, 3) := by decide +kernel
theorem dX9_dutyOf_40 : decode cX9_dutyOf 40 = .ok (.iastore, 1) := by decide +kernel
theorem dX9_dutyOf_41 : decode cX9_dutyOf 41 = .ok (.aload_n 0, 1) := by decide +kernel
theorem dX9_dutyOf_42 : decode cX9_dutyOf 42 = .ok (.getfield 49, 3) := by decide +kernel
theorem dX9_dutyOf_45 : decode cX9_dutyOf 45 = .ok (.iconst 2, 1) := by decide +kernel
theorem dX9_dutyOf_46 : decode cX9_dutyOf 46 = .ok (.aload_n 0, 1) := by decide +kernel
theorem dX9_dutyOf_47 : decode cX9_dutyOf 47 = .ok (.iload_n 1, 1) := by decide +kernel
theorem dX9_dutyOf_48 : decode cX9_dutyOf 48 = .ok (.iconst 3, 1) := by decide +kernel
theorem dX9_dutyOf_49 : decode cX9_dutyOf 49 = .ok (.invokevirtual 104, 3) := by decide +kernel
theorem dX9_dutyOf_52 : decode cX9_dutyOf 52 = .ok (.iastore, 1) := by decide +kernel
theorem dX9_dutyOf_53 : decode cX9_dutyOf 53 = .ok (.iconst 0, 1) := by decide +kernel
theorem dX9_dutyOf_54 : decode cX9_dutyOf 54 = .ok (.sipush 999, 3) := by decide +kernel
theorem dX9_dutyOf_57 : decode cX9_dutyOf 57 = .ok (.aload_n 0, 1) := by decide +kernel
theorem dX9_dutyOf_58 : decode cX9_dutyOf 58 = .ok (.iload_n 2, 1) := by decide +kernel
theorem dX9_dutyOf_59 : decode cX9_dutyOf 59 = .ok (.invokevirtual 108, 3) := by decide +kernel
theorem dX9_dutyOf_62 : decode cX9_dutyOf 62 = .ok (.invokestatic 111, 3) := by decide +kernel
theorem dX9_dutyOf_65 : decode cX9_dutyOf 65 = .ok (.invokestatic 116, 3) := by decide +kernel
theorem dX9_dutyOf_68 : decode cX9_dutyOf 68 = .ok (.ireturn, 1) := by decide +kernel
theorem dX9_costs_0 : decode cX9_costs 0 = .ok (.aload_n 0, 1) := by decide +kernel
theorem dX9_costs_1 : decode cX9_costs 1 = .ok (.iload_n 1, 1) := by decide +kernel
theorem dX9_costs_2 : decode cX9_costs 2 = .ok (.invokevirtual 119, 3) := by decide +kernel
theorem dX9_costs_5 : decode cX9_costs 5 = .ok (.istore_n 2, 1) := by decide +kernel
theorem dX9_costs_6 : decode cX9_costs 6 = .ok (.aload_n 0, 1) := by decide +kernel
theorem dX9_costs_7 : decode cX9_costs 7 = .ok (.iload_n 1, 1) := by decide +kernel
theorem dX9_costs_8 : decode cX9_costs 8 = .ok (.iconst 5, 1) := by decide +kernel
theorem dX9_costs_9 : decode cX9_costs 9 = .ok (.invokevirtual 104, 3) := by decide +kernel
theorem dX9_costs_12 : decode cX9_costs 12 = .ok (.aload_n 0, 1) := by decide +kernel
theorem dX9_costs_13 : decode cX9_costs 13 = .ok (.iload_n 1, 1) := by decide +kernel
theorem dX9_costs_14 : decode cX9_costs 14 = .ok (.iconst 3, 1) := by decide +kernel
theorem dX9_costs_15 : decode cX9_costs 15 = .ok (.invokevirtual 104, 3) := by decide +kernel
theorem dX9_costs_18 : decode cX9_costs 18 = .ok (.iconst 2, 1) := by decide +kernel
theorem dX9_costs_19 : decode cX9_costs 19 = .ok (.idiv, 1) := by decide +kernel
theorem dX9_costs_20 : decode cX9_costs 20 = .ok (.if_icmp .lt 9, 3) := by decide +kernel
theorem dX9_costs_23 : decode cX9_costs 23 = .ok (.iconst 2, 1) := by decide +kernel
theorem dX9_costs_24 : decode cX9_costs 24 = .ok (.iload_n 2, 1) := by decide +kernel
theorem dX9_costs_25 : decode cX9_costs 25 = .ok (.imul, 1) := by decide +kernel
theorem dX9_costs_26 : decode cX9_costs 26 = .ok (.goto 4, 3) := by decide +kernel
theorem dX9_costs_29 : decode cX9_costs 29 = .ok (.iload_n 2, 1) := by decide +kernel
theorem dX9_costs_30 : decode cX9_costs 30 = .ok (.istore_n 3, 1) := by decide +kernel
theorem dX9_costs_31 : decode cX9_costs 31 = .ok (.aload_n 0, 1) := by decide +kernel
theorem dX9_costs_32 : decode cX9_costs 32 = .ok (.iload_n 1, 1) := by decide +kernel
theorem dX9_costs_33 : decode cX9_costs 33 = .ok (.iconst 0, 1) := by decide +kernel
theorem dX9_costs_34 : decode cX9_costs 34 = .ok (.invokevirtual 104, 3) := by decide +kernel
theorem dX9_costs_37 : decode cX9_costs 37 = .ok (.tableswitch 57 1 5 #[35, 41, 37, 45, 55], 35) := by decide +kernel
theorem dX9_costs_72 : decode cX9_costs 72 = .ok (.iload_n 3, 1) := by decide +kernel
theorem dX9_costs_73 : decode cX9_costs 73 = .ok (.ireturn, 1) := by decide +kernel
theorem dX9_costs_74 : decode cX9_costs 74 = .ok (.iload_n 3, 1) := by decide +kernel
theorem dX9_costs_75 : decode cX9_costs 75 = .ok (.iconst 3, 1) := by decide +kernel
theorem dX9_costs_76 : decode cX9_costs 76 = .ok (.iadd, 1) := by decide +kernel
theorem dX9_costs_77 : decode cX9_costs 77 = .ok (.ireturn, 1) := by decide +kernel
theorem dX9_costs_78 : decode cX9_costs 78 = .ok (.iload_n 2, 1) := by decide +kernel
theorem dX9_costs_79 : decode cX9_costs 79 = .ok (.iconst 2, 1) := by decide +kernel
theorem dX9_costs_80 : decode cX9_costs 80 = .ok (.idiv, 1) := by decide +kernel
theorem dX9_costs_81 : decode cX9_costs 81 = .ok (.ireturn, 1) := by decide +kernel
theorem dX9_costs_82 : decode cX9_costs 82 = .ok (.iconst 0, 1) := by decide +kernel
theorem dX9_costs_83 : decode cX9_costs 83 = .ok (.iload_n 2, 1) := by decide +kernel
theorem dX9_costs_84 : decode cX9_costs 84 = .ok (.iconst 2, 1) := by decide +kernel
theorem dX9_costs_85 : decode cX9_costs 85 = .ok (.idiv, 1) := by decide +kernel
theorem dX9_costs_86 : decode cX9_costs 86 = .ok (.iconst 2, 1) := by decide +kernel
theorem dX9_costs_87 : decode cX9_costs 87 = .ok (.isub, 1) := by decide +kernel
theorem dX9_costs_88 : decode cX9_costs 88 = .ok (.invokestatic 116, 3) := by decide +kernel
theorem dX9_costs_91 : decode cX9_costs 91 = .ok (.ireturn, 1) := by decide +kernel
theorem dX9_costs_92 : decode cX9_costs 92 = .ok (.iconst 0, 1) := by decide +kernel
theorem dX9_costs_93 : decode cX9_costs 93 = .ok (.ireturn, 1) := by decide +kernel
theorem dX9_costs_94 : decode cX9_costs 94 = .ok (.iload_n 2, 1) := by decide +kernel
theorem dX9_costs_95 : decode cX9_costs 95 = .ok (.ireturn, 1) := by decide +kernel
theorem dX9_worth_0 : decode cX9_worth 0 = .ok (.iload_n 0, 1) := by decide +kernel
theorem dX9_worth_1 : decode cX9_worth 1 = .ok (.tableswitch 62 1 5 #[35, 47, 40, 52, 57], 35) := by decide +kernel
theorem dX9_worth_36 : decode cX9_worth 36 = .ok (.iload_n 2, 1) := by decide +kernel
theorem dX9_worth_37 : decode cX9_worth 37 = .ok (.bipush 6, 2) := by decide +kernel
theorem dX9_worth_39 : decode cX9_worth 39 = .ok (.iadd, 1) := by decide +kernel
theorem dX9_worth_40 : decode cX9_worth 40 = .ok (.ireturn, 1) := by decide +kernel
theorem dX9_worth_41 : decode cX9_worth 41 = .ok (.iconst 2, 1) := by decide +kernel
theorem dX9_worth_42 : decode cX9_worth 42 = .ok (.iload_n 2, 1) := by decide +kernel
theorem dX9_worth_43 : decode cX9_worth 43 = .ok (.bipush 6, 2) := by decide +kernel
theorem dX9_worth_45 : decode cX9_worth 45 = .ok (.iadd, 1) := by decide +kernel
theorem dX9_worth_46 : decode cX9_worth 46 = .ok (.imul, 1) := by decide +kernel
theorem dX9_worth_47 : decode cX9_worth 47 = .ok (.ireturn, 1) := by decide +kernel
theorem dX9_worth_48 : decode cX9_worth 48 = .ok (.bipush 99, 2) := by decide +kernel
theorem dX9_worth_50 : decode cX9_worth 50 = .ok (.iload_n 2, 1) := by decide +kernel
theorem dX9_worth_51 : decode cX9_worth 51 = .ok (.isub, 1) := by decide +kernel
theorem dX9_worth_52 : decode cX9_worth 52 = .ok (.ireturn, 1) := by decide +kernel
theorem dX9_worth_53 : decode cX9_worth 53 = .ok (.bipush 94, 2) := by decide +kernel
theorem dX9_worth_55 : decode cX9_worth 55 = .ok (.iload_n 2, 1) := by decide +kernel
theorem dX9_worth_56 : decode cX9_worth 56 = .ok (.isub, 1) := by decide +kernel
theorem dX9_worth_57 : decode cX9_worth 57 = .ok (.ireturn, 1) := by decide +kernel
theorem dX9_worth_58 : decode cX9_worth 58 = .ok (.iload_n 1, 1) := by decide +kernel
theorem dX9_worth_59 : decode cX9_worth 59 = .ok (.invokestatic 122, 3) := by decide +kernel
theorem dX9_worth_62 : decode cX9_worth 62 = .ok (.ireturn, 1) := by decide +kernel
theorem dX9_worth_63 : decode cX9_worth 63 = .ok (.iload_n 2, 1) := by decide +kernel
theorem dX9_worth_64 : decode cX9_worth 64 = .ok (.ireturn, 1) := by decide +kernel
theorem dX9_told_0 : decode cX9_told 0 = .ok (.aload_n 0, 1) := by decide +kernel
theorem dX9_told_1 : decode cX9_told 1 = .ok (.iload_n 1, 1) := by decide +kernel
theorem dX9_told_2 : decode cX9_told 2 = .ok (.invokevirtual 125, 3) := by decide +kernel
theorem dX9_told_5 : decode cX9_told 5 = .ok (.ifCond .eq 13, 3) := by decide +kernel
theorem dX9_told_8 : decode cX9_told 8 = .ok (.iload_n 2, 1) := by decide +kernel
theorem dX9_told_9 : decode cX9_told 9 = .ok (.iconst 0, 1) := by decide +kernel
theorem dX9_told_10 : decode cX9_told 10 = .ok (.bipush 8, 2) := by decide +kernel
theorem dX9_told_12 : decode cX9_told 12 = .ok (.invokestatic 80, 3) := by decide +kernel
theorem dX9_told_15 : decode cX9_told 15 = .ok (.ifCond .ne 6, 3) := by decide +kernel
theorem dX9_told_18 : decode cX9_told 18 = .ok (.ldc 91, 2) := by decide +kernel
theorem dX9_told_20 : decode cX9_told 20 = .ok (.ireturn, 1) := by decide +kernel
theorem dX9_told_21 : decode cX9_told 21 = .ok (.iload_n 2, 1) := by decide +kernel
theorem dX9_told_22 : decode cX9_told 22 = .ok (.tableswitch 65 6 8 #[26, 32, 54], 26) := by decide +kernel
theorem dX9_told_48 : decode cX9_told 48 = .ok (.aload_n 0, 1) := by decide +kernel
theorem dX9_told_49 : decode cX9_told 49 = .ok (.iload_n 1, 1) := by decide +kernel
theorem dX9_told_50 : decode cX9_told 50 = .ok (.invokevirtual 128, 3) := by decide +kernel
theorem dX9_told_53 : decode cX9_told 53 = .ok (.ireturn, 1) := by decide +kernel
theorem dX9_told_54 : decode cX9_told 54 = .ok (.aload_n 0, 1) := by decide +kernel
theorem dX9_told_55 : decode cX9_told 55 = .ok (.iload_n 1, 1) := by decide +kernel
theorem dX9_told_56 : decode cX9_told 56 = .ok (.iconst 0, 1) := by decide +kernel
theorem dX9_told_57 : decode cX9_told 57 = .ok (.invokevirtual 104, 3) := by decide +kernel
theorem dX9_told_60 : decode cX9_told 60 = .ok (.aload_n 0, 1) := by decide +kernel
theorem dX9_told_61 : decode cX9_told 61 = .ok (.iload_n 1, 1) := by decide +kernel
theorem dX9_told_62 : decode cX9_told 62 = .ok (.iconst 1, 1) := by decide +kernel
theorem dX9_told_63 : decode cX9_told 63 = .ok (.invokevirtual 104, 3) := by decide +kernel
theorem dX9_told_66 : decode cX9_told 66 = .ok (.aload_n 0, 1) := by decide +kernel
theorem dX9_told_67 : decode cX9_told 67 = .ok (.iload_n 1, 1) := by decide +kernel
theorem dX9_told_68 : decode cX9_told 68 = .ok (.iconst 2, 1) := by decide +kernel
theorem dX9_told_69 : decode cX9_told 69 = .ok (.invokevirtual 104, 3) := by decide +kernel
theorem dX9_told_72 : decode cX9_told 72 = .ok (.invokestatic 131, 3) := by decide +kernel
theorem dX9_told_75 : decode cX9_told 75 = .ok (.ireturn, 1) := by decide +kernel
theorem dX9_told_76 : decode cX9_told 76 = .ok (.aload_n 0, 1) := by decide +kernel
theorem dX9_told_77 : decode cX9_told 77 = .ok (.getfield 9, 3) := by decide +kernel
theorem dX9_told_80 : decode cX9_told 80 = .ok (.iconst 4, 1) := by decide +kernel
theorem dX9_told_81 : decode cX9_told 81 = .ok (.iaload, 1) := by decide +kernel
theorem dX9_told_82 : decode cX9_told 82 = .ok (.iload_n 1, 1) := by decide +kernel
theorem dX9_told_83 : decode cX9_told 83 = .ok (.ishr, 1) := by decide +kernel
theorem dX9_told_84 : decode cX9_told 84 = .ok (.iconst 1, 1) := by decide +kernel
theorem dX9_told_85 : decode cX9_told 85 = .ok (.iand, 1) := by decide +kernel
theorem dX9_told_86 : decode cX9_told 86 = .ok (.ireturn, 1) := by decide +kernel
theorem dX9_told_87 : decode cX9_told 87 = .ok (.aload_n 0, 1) := by decide +kernel
theorem dX9_told_88 : decode cX9_told 88 = .ok (.iload_n 1, 1) := by decide +kernel
theorem dX9_told_89 : decode cX9_told 89 = .ok (.iload_n 2, 1) := by decide +kernel
theorem dX9_told_90 : decode cX9_told 90 = .ok (.invokevirtual 104, 3) := by decide +kernel
theorem dX9_told_93 : decode cX9_told 93 = .ok (.ireturn, 1) := by decide +kernel
theorem dX9_as_0 : decode cX9_as 0 = .ok (.aload_n 0, 1) := by decide +kernel
theorem dX9_as_1 : decode cX9_as 1 = .ok (.iload_n 1, 1) := by decide +kernel
theorem dX9_as_2 : decode cX9_as 2 = .ok (.invokevirtual 125, 3) := by decide +kernel
theorem dX9_as_5 : decode cX9_as 5 = .ok (.ifCond .eq 10, 3) := by decide +kernel
theorem dX9_as_8 : decode cX9_as 8 = .ok (.iload_n 2, 1) := by decide +kernel
theorem dX9_as_9 : decode cX9_as 9 = .ok (.invokestatic 84, 3) := by decide +kernel
theorem dX9_as_12 : decode cX9_as 12 = .ok (.ifCond .ne 6, 3) := by decide +kernel
theorem dX9_as_15 : decode cX9_as 15 = .ok (.ldc 91, 2) := by decide +kernel
theorem dX9_as_17 : decode cX9_as 17 = .ok (.ireturn, 1) := by decide +kernel
theorem dX9_as_18 : decode cX9_as 18 = .ok (.aload_n 0, 1) := by decide +kernel
theorem dX9_as_19 : decode cX9_as 19 = .ok (.iload_n 1, 1) := by decide +kernel
theorem dX9_as_20 : decode cX9_as 20 = .ok (.iconst 0, 1) := by decide +kernel
theorem dX9_as_21 : decode cX9_as 21 = .ok (.invokevirtual 104, 3) := by decide +kernel
theorem dX9_as_24 : decode cX9_as 24 = .ok (.iload_n 2, 1) := by decide +kernel
theorem dX9_as_25 : decode cX9_as 25 = .ok (.invokestatic 135, 3) := by decide +kernel
theorem dX9_as_28 : decode cX9_as 28 = .ok (.ifCond .eq 12, 3) := by decide +kernel
theorem dX9_as_31 : decode cX9_as 31 = .ok (.aload_n 0, 1) := by decide +kernel
theorem dX9_as_32 : decode cX9_as 32 = .ok (.iload_n 1, 1) := by decide +kernel
theorem dX9_as_33 : decode cX9_as 33 = .ok (.iconst 2, 1) := by decide +kernel
theorem dX9_as_34 : decode cX9_as 34 = .ok (.invokevirtual 104, 3) := by decide +kernel
theorem dX9_as_37 : decode cX9_as 37 = .ok (.goto 5, 3) := by decide +kernel
theorem dX9_as_40 : decode cX9_as 40 = .ok (.ldc 139, 2) := by decide +kernel
theorem dX9_as_42 : decode cX9_as 42 = .ok (.ireturn, 1) := by decide +kernel
theorem dX9_turns_0 : decode cX9_turns 0 = .ok (.aload_n 0, 1) := by decide +kernel
theorem dX9_turns_1 : decode cX9_turns 1 = .ok (.iload_n 1, 1) := by decide +kernel
theorem dX9_turns_2 : decode cX9_turns 2 = .ok (.invokevirtual 125, 3) := by decide +kernel
theorem dX9_turns_5 : decode cX9_turns 5 = .ok (.ifCond .eq 27, 3) := by decide +kernel
theorem dX9_turns_8 : decode cX9_turns 8 = .ok (.iload_n 2, 1) := by decide +kernel
theorem dX9_turns_9 : decode cX9_turns 9 = .ok (.invokestatic 84, 3) := by decide +kernel
theorem dX9_turns_12 : decode cX9_turns 12 = .ok (.ifCond .eq 20, 3) := by decide +kernel
theorem dX9_turns_15 : decode cX9_turns 15 = .ok (.aload_n 0, 1) := by decide +kernel
theorem dX9_turns_16 : decode cX9_turns 16 = .ok (.bipush 8, 2) := by decide +kernel
theorem dX9_turns_18 : decode cX9_turns 18 = .ok (.bipush 6, 2) := by decide +kernel
theorem dX9_turns_20 : decode cX9_turns 20 = .ok (.iload_n 1, 1) := by decide +kernel
theorem dX9_turns_21 : decode cX9_turns 21 = .ok (.imul, 1) := by decide +kernel
theorem dX9_turns_22 : decode cX9_turns 22 = .ok (.iadd, 1) := by decide +kernel
theorem dX9_turns_23 : decode cX9_turns 23 = .ok (.iconst 0, 1) := by decide +kernel
theorem dX9_turns_24 : decode cX9_turns 24 = .ok (.iadd, 1) := by decide +kernel
theorem dX9_turns_25 : decode cX9_turns 25 = .ok (.iload_n 2, 1) := by decide +kernel
theorem dX9_turns_26 : decode cX9_turns 26 = .ok (.invokevirtual 140, 3) := by decide +kernel
theorem dX9_turns_29 : decode cX9_turns 29 = .ok (.goto 5, 3) := by decide +kernel
theorem dX9_turns_32 : decode cX9_turns 32 = .ok (.ldc 91, 2) := by decide +kernel
theorem dX9_turns_34 : decode cX9_turns 34 = .ok (.ireturn, 1) := by decide +kernel
theorem dX9_set_0 : decode cX9_set 0 = .ok (.iload_n 2, 1) := by decide +kernel
theorem dX9_set_1 : decode cX9_set 1 = .ok (.iconst 1, 1) := by decide +kernel
theorem dX9_set_2 : decode cX9_set 2 = .ok (.if_icmp .ne 14, 3) := by decide +kernel
theorem dX9_set_5 : decode cX9_set 5 = .ok (.iload_n 3, 1) := by decide +kernel
theorem dX9_set_6 : decode cX9_set 6 = .ok (.iconst 1, 1) := by decide +kernel
theorem dX9_set_7 : decode cX9_set 7 = .ok (.sipush 255, 3) := by decide +kernel
theorem dX9_set_10 : decode cX9_set 10 = .ok (.invokestatic 80, 3) := by decide +kernel
theorem dX9_set_13 : decode cX9_set 13 = .ok (.goto 24, 3) := by decide +kernel
theorem dX9_set_16 : decode cX9_set 16 = .ok (.iload_n 2, 1) := by decide +kernel
theorem dX9_set_17 : decode cX9_set 17 = .ok (.iconst 2, 1) := by decide +kernel
theorem dX9_set_18 : decode cX9_set 18 = .ok (.iconst 3, 1) := by decide +kernel
theorem dX9_set_19 : decode cX9_set 19 = .ok (.invokestatic 80, 3) := by decide +kernel
theorem dX9_set_22 : decode cX9_set 22 = .ok (.ifCond .eq 14, 3) := by decide +kernel
theorem dX9_set_25 : decode cX9_set 25 = .ok (.iload_n 3, 1) := by decide +kernel
theorem dX9_set_26 : decode cX9_set 26 = .ok (.invokestatic 88, 3) := by decide +kernel
theorem dX9_set_29 : decode cX9_set 29 = .ok (.ifCond .eq 7, 3) := by decide +kernel
theorem dX9_set_32 : decode cX9_set 32 = .ok (.iconst 1, 1) := by decide +kernel
theorem dX9_set_33 : decode cX9_set 33 = .ok (.goto 4, 3) := by decide +kernel
theorem dX9_set_36 : decode cX9_set 36 = .ok (.iconst 0, 1) := by decide +kernel
theorem dX9_set_37 : decode cX9_set 37 = .ok (.istore 4, 2) := by decide +kernel
theorem dX9_set_39 : decode cX9_set 39 = .ok (.aload_n 0, 1) := by decide +kernel
theorem dX9_set_40 : decode cX9_set 40 = .ok (.iload_n 1, 1) := by decide +kernel
theorem dX9_set_41 : decode cX9_set 41 = .ok (.invokevirtual 125, 3) := by decide +kernel
theorem dX9_set_44 : decode cX9_set 44 = .ok (.ifCond .eq 25, 3) := by decide +kernel
theorem dX9_set_47 : decode cX9_set 47 = .ok (.iload 4, 2) := by decide +kernel
theorem dX9_set_49 : decode cX9_set 49 = .ok (.ifCond .eq 20, 3) := by decide +kernel
theorem dX9_set_52 : decode cX9_set 52 = .ok (.aload_n 0, 1) := by decide +kernel
theorem dX9_set_53 : decode cX9_set 53 = .ok (.bipush 8, 2) := by decide +kernel
theorem dX9_set_55 : decode cX9_set 55 = .ok (.bipush 6, 2) := by decide +kernel
theorem dX9_set_57 : decode cX9_set 57 = .ok (.iload_n 1, 1) := by decide +kernel
theorem dX9_set_58 : decode cX9_set 58 = .ok (.imul, 1) := by decide +kernel
theorem dX9_set_59 : decode cX9_set 59 = .ok (.iadd, 1) := by decide +kernel
theorem dX9_set_60 : decode cX9_set 60 = .ok (.iload_n 2, 1) := by decide +kernel
theorem dX9_set_61 : decode cX9_set 61 = .ok (.iadd, 1) := by decide +kernel
theorem dX9_set_62 : decode cX9_set 62 = .ok (.iload_n 3, 1) := by decide +kernel
theorem dX9_set_63 : decode cX9_set 63 = .ok (.invokevirtual 140, 3) := by decide +kernel
theorem dX9_set_66 : decode cX9_set 66 = .ok (.goto 5, 3) := by decide +kernel
theorem dX9_set_69 : decode cX9_set 69 = .ok (.ldc 91, 2) := by decide +kernel
theorem dX9_set_71 : decode cX9_set 71 = .ok (.ireturn, 1) := by decide +kernel
theorem dX9_traveller_0 : decode cX9_traveller 0 = .ok (.aload_n 0, 1) := by decide +kernel
theorem dX9_traveller_1 : decode cX9_traveller 1 = .ok (.getfield 9, 3) := by decide +kernel
theorem dX9_traveller_4 : decode cX9_traveller 4 = .ok (.bipush 6, 2) := by decide +kernel
theorem dX9_traveller_6 : decode cX9_traveller 6 = .ok (.iaload, 1) := by decide +kernel
theorem dX9_traveller_7 : decode cX9_traveller 7 = .ok (.bipush 6, 2) := by decide +kernel
theorem dX9_traveller_9 : decode cX9_traveller 9 = .ok (.if_icmp .ne 6, 3) := by decide +kernel
theorem dX9_traveller_12 : decode cX9_traveller 12 = .ok (.ldc 92, 2) := by decide +kernel
theorem dX9_traveller_14 : decode cX9_traveller 14 = .ok (.ireturn, 1) := by decide +kernel
theorem dX9_traveller_15 : decode cX9_traveller 15 = .ok (.aload_n 0, 1) := by decide +kernel
theorem dX9_traveller_16 : decode cX9_traveller 16 = .ok (.getfield 9, 3) := by decide +kernel
theorem dX9_traveller_19 : decode cX9_traveller 19 = .ok (.bipush 6, 2) := by decide +kernel
theorem dX9_traveller_21 : decode cX9_traveller 21 = .ok (.iaload, 1) := by decide +kernel
theorem dX9_traveller_22 : decode cX9_traveller 22 = .ok (.istore_n 1, 1) := by decide +kernel
theorem dX9_traveller_23 : decode cX9_traveller 23 = .ok (.aload_n 0, 1) := by decide +kernel
theorem dX9_traveller_24 : decode cX9_traveller 24 = .ok (.getfield 9, 3) := by decide +kernel
theorem dX9_traveller_27 : decode cX9_traveller 27 = .ok (.bipush 68, 2) := by decide +kernel
theorem dX9_traveller_29 : decode cX9_traveller 29 = .ok (.iconst 2, 1) := by decide +kernel
theorem dX9_traveller_30 : decode cX9_traveller 30 = .ok (.iload_n 1, 1) := by decide +kernel
theorem dX9_traveller_31 : decode cX9_traveller 31 = .ok (.imul, 1) := by decide +kernel
theorem dX9_traveller_32 : decode cX9_traveller 32 = .ok (.iadd, 1) := by decide +kernel
theorem dX9_traveller_33 : decode cX9_traveller 33 = .ok (.iconst 0, 1) := by decide +kernel
theorem dX9_traveller_34 : decode cX9_traveller 34 = .ok (.iadd, 1) := by decide +kernel
theorem dX9_traveller_35 : decode cX9_traveller 35 = .ok (.iconst 0, 1) := by decide +kernel
theorem dX9_traveller_36 : decode cX9_traveller 36 = .ok (.iastore, 1) := by decide +kernel
theorem dX9_traveller_37 : decode cX9_traveller 37 = .ok (.aload_n 0, 1) := by decide +kernel
theorem dX9_traveller_38 : decode cX9_traveller 38 = .ok (.getfield 9, 3) := by decide +kernel
theorem dX9_traveller_41 : decode cX9_traveller 41 = .ok (.bipush 68, 2) := by decide +kernel
theorem dX9_traveller_43 : decode cX9_traveller 43 = .ok (.iconst 2, 1) := by decide +kernel
theorem dX9_traveller_44 : decode cX9_traveller 44 = .ok (.iload_n 1, 1) := by decide +kernel
theorem dX9_traveller_45 : decode cX9_traveller 45 = .ok (.imul, 1) := by decide +kernel
theorem dX9_traveller_46 : decode cX9_traveller 46 = .ok (.iadd, 1) := by decide +kernel
theorem dX9_traveller_47 : decode cX9_traveller 47 = .ok (.iconst 1, 1) := by decide +kernel
theorem dX9_traveller_48 : decode cX9_traveller 48 = .ok (.iadd, 1) := by decide +kernel
theorem dX9_traveller_49 : decode cX9_traveller 49 = .ok (.iconst 0, 1) := by decide +kernel
theorem dX9_traveller_50 : decode cX9_traveller 50 = .ok (.iastore, 1) := by decide +kernel
theorem dX9_traveller_51 : decode cX9_traveller 51 = .ok (.aload_n 0, 1) := by decide +kernel
theorem dX9_traveller_52 : decode cX9_traveller 52 = .ok (.getfield 9, 3) := by decide +kernel
theorem dX9_traveller_55 : decode cX9_traveller 55 = .ok (.bipush 6, 2) := by decide +kernel
theorem dX9_traveller_57 : decode cX9_traveller 57 = .ok (.dup2, 1) := by decide +kernel
theorem dX9_traveller_58 : decode cX9_traveller 58 = .ok (.iaload, 1) := by decide +kernel
theorem dX9_traveller_59 : decode cX9_traveller 59 = .ok (.iconst 1, 1) := by decide +kernel
theorem dX9_traveller_60 : decode cX9_traveller 60 = .ok (.iadd, 1) := by decide +kernel
theorem dX9_traveller_61 : decode cX9_traveller 61 = .ok (.iastore, 1) := by decide +kernel
theorem dX9_traveller_62 : decode cX9_traveller 62 = .ok (.iload_n 1, 1) := by decide +kernel
theorem dX9_traveller_63 : decode cX9_traveller 63 = .ok (.ireturn, 1) := by decide +kernel
theorem dX9_travels_0 : decode cX9_travels 0 = .ok (.aload_n 0, 1) := by decide +kernel
theorem dX9_travels_1 : decode cX9_travels 1 = .ok (.iload_n 1, 1) := by decide +kernel
theorem dX9_travels_2 : decode cX9_travels 2 = .ok (.invokevirtual 143, 3) := by decide +kernel
theorem dX9_travels_5 : decode cX9_travels 5 = .ok (.ifCond .eq 21, 3) := by decide +kernel
theorem dX9_travels_8 : decode cX9_travels 8 = .ok (.iload_n 2, 1) := by decide +kernel
theorem dX9_travels_9 : decode cX9_travels 9 = .ok (.iconst 0, 1) := by decide +kernel
theorem dX9_travels_10 : decode cX9_travels 10 = .ok (.iconst 1, 1) := by decide +kernel
theorem dX9_travels_11 : decode cX9_travels 11 = .ok (.invokestatic 80, 3) := by decide +kernel
theorem dX9_travels_14 : decode cX9_travels 14 = .ok (.ifCond .eq 12, 3) := by decide +kernel
theorem dX9_travels_17 : decode cX9_travels 17 = .ok (.aload_n 0, 1) := by decide +kernel
theorem dX9_travels_18 : decode cX9_travels 18 = .ok (.iload_n 1, 1) := by decide +kernel
theorem dX9_travels_19 : decode cX9_travels 19 = .ok (.iload_n 2, 1) := by decide +kernel
theorem dX9_travels_20 : decode cX9_travels 20 = .ok (.invokevirtual 146, 3) := by decide +kernel
theorem dX9_travels_23 : decode cX9_travels 23 = .ok (.goto 5, 3) := by decide +kernel
theorem dX9_travels_26 : decode cX9_travels 26 = .ok (.ldc 91, 2) := by decide +kernel
theorem dX9_travels_28 : decode cX9_travels 28 = .ok (.ireturn, 1) := by decide +kernel
theorem dX9_gives_0 : decode cX9_gives 0 = .ok (.aload_n 0, 1) := by decide +kernel
theorem dX9_gives_1 : decode cX9_gives 1 = .ok (.iload_n 1, 1) := by decide +kernel
theorem dX9_gives_2 : decode cX9_gives 2 = .ok (.invokevirtual 143, 3) := by decide +kernel
theorem dX9_gives_5 : decode cX9_gives 5 = .ok (.ifCond .eq 27, 3) := by decide +kernel
theorem dX9_gives_8 : decode cX9_gives 8 = .ok (.aload_n 0, 1) := by decide +kernel
theorem dX9_gives_9 : decode cX9_gives 9 = .ok (.iload_n 2, 1) := by decide +kernel
theorem dX9_gives_10 : decode cX9_gives 10 = .ok (.invokevirtual 149, 3) := by decide +kernel
theorem dX9_gives_13 : decode cX9_gives 13 = .ok (.ifCond .eq 19, 3) := by decide +kernel
theorem dX9_gives_16 : decode cX9_gives 16 = .ok (.aload_n 0, 1) := by decide +kernel
theorem dX9_gives_17 : decode cX9_gives 17 = .ok (.bipush 68, 2) := by decide +kernel
theorem dX9_gives_19 : decode cX9_gives 19 = .ok (.iconst 2, 1) := by decide +kernel
theorem dX9_gives_20 : decode cX9_gives 20 = .ok (.iload_n 1, 1) := by decide +kernel
theorem dX9_gives_21 : decode cX9_gives 21 = .ok (.imul, 1) := by decide +kernel
theorem dX9_gives_22 : decode cX9_gives 22 = .ok (.iadd, 1) := by decide +kernel
theorem dX9_gives_23 : decode cX9_gives 23 = .ok (.iconst 0, 1) := by decide +kernel
theorem dX9_gives_24 : decode cX9_gives 24 = .ok (.iadd, 1) := by decide +kernel
theorem dX9_gives_25 : decode cX9_gives 25 = .ok (.iload_n 2, 1) := by decide +kernel
theorem dX9_gives_26 : decode cX9_gives 26 = .ok (.invokevirtual 140, 3) := by decide +kernel
theorem dX9_gives_29 : decode cX9_gives 29 = .ok (.goto 5, 3) := by decide +kernel
theorem dX9_gives_32 : decode cX9_gives 32 = .ok (.ldc 91, 2) := by decide +kernel
theorem dX9_gives_34 : decode cX9_gives 34 = .ok (.ireturn, 1) := by decide +kernel
theorem dX9_rule_0 : decode cX9_rule 0 = .ok (.iload_n 1, 1) := by decide +kernel
theorem dX9_rule_1 : decode cX9_rule 1 = .ok (.ifCond .ne 13, 3) := by decide +kernel
theorem dX9_rule_4 : decode cX9_rule 4 = .ok (.iload_n 2, 1) := by decide +kernel
theorem dX9_rule_5 : decode cX9_rule 5 = .ok (.iconst 1, 1) := by decide +kernel
theorem dX9_rule_6 : decode cX9_rule 6 = .ok (.bipush 10, 2) := by decide +kernel
theorem dX9_rule_8 : decode cX9_rule 8 = .ok (.invokestatic 80, 3) := by decide +kernel
theorem dX9_rule_11 : decode cX9_rule 11 = .ok (.ifCond .ne 18, 3) := by decide +kernel
theorem dX9_rule_14 : decode cX9_rule 14 = .ok (.iload_n 1, 1) := by decide +kernel
theorem dX9_rule_15 : decode cX9_rule 15 = .ok (.iconst 1, 1) := by decide +kernel
theorem dX9_rule_16 : decode cX9_rule 16 = .ok (.if_icmp .ne 17, 3) := by decide +kernel
theorem dX9_rule_19 : decode cX9_rule 19 = .ok (.iload_n 2, 1) := by decide +kernel
theorem dX9_rule_20 : decode cX9_rule 20 = .ok (.iconst 0, 1) := by decide +kernel
theorem dX9_rule_21 : decode cX9_rule 21 = .ok (.bipush 100, 2) := by decide +kernel
theorem dX9_rule_23 : decode cX9_rule 23 = .ok (.invokestatic 80, 3) := by decide +kernel
theorem dX9_rule_26 : decode cX9_rule 26 = .ok (.ifCond .eq 7, 3) := by decide +kernel
theorem dX9_rule_29 : decode cX9_rule 29 = .ok (.iconst 1, 1) := by decide +kernel
theorem dX9_rule_30 : decode cX9_rule 30 = .ok (.goto 4, 3) := by decide +kernel
theorem dX9_rule_33 : decode cX9_rule 33 = .ok (.iconst 0, 1) := by decide +kernel
theorem dX9_rule_34 : decode cX9_rule 34 = .ok (.istore_n 3, 1) := by decide +kernel
theorem dX9_rule_35 : decode cX9_rule 35 = .ok (.iload_n 3, 1) := by decide +kernel
theorem dX9_rule_36 : decode cX9_rule 36 = .ok (.ifCond .eq 14, 3) := by decide +kernel
theorem dX9_rule_39 : decode cX9_rule 39 = .ok (.aload_n 0, 1) := by decide +kernel
theorem dX9_rule_40 : decode cX9_rule 40 = .ok (.iconst 2, 1) := by decide +kernel
theorem dX9_rule_41 : decode cX9_rule 41 = .ok (.iload_n 1, 1) := by decide +kernel
theorem dX9_rule_42 : decode cX9_rule 42 = .ok (.iadd, 1) := by decide +kernel
theorem dX9_rule_43 : decode cX9_rule 43 = .ok (.iload_n 2, 1) := by decide +kernel
theorem dX9_rule_44 : decode cX9_rule 44 = .ok (.invokevirtual 140, 3) := by decide +kernel
theorem dX9_rule_47 : decode cX9_rule 47 = .ok (.goto 5, 3) := by decide +kernel
theorem dX9_rule_50 : decode cX9_rule 50 = .ok (.ldc 91, 2) := by decide +kernel
theorem dX9_rule_52 : decode cX9_rule 52 = .ok (.ireturn, 1) := by decide +kernel
theorem dX9_drawn_0 : decode cX9_drawn 0 = .ok (.aload_n 0, 1) := by decide +kernel
theorem dX9_drawn_1 : decode cX9_drawn 1 = .ok (.getfield 9, 3) := by decide +kernel
theorem dX9_drawn_4 : decode cX9_drawn 4 = .ok (.iconst 0, 1) := by decide +kernel
theorem dX9_drawn_5 : decode cX9_drawn 5 = .ok (.aload_n 0, 1) := by decide +kernel
theorem dX9_drawn_6 : decode cX9_drawn 6 = .ok (.getfield 9, 3) := by decide +kernel
theorem dX9_drawn_9 : decode cX9_drawn 9 = .ok (.iconst 0, 1) := by decide +kernel
theorem dX9_drawn_10 : decode cX9_drawn 10 = .ok (.iaload, 1) := by decide +kernel
theorem dX9_drawn_11 : decode cX9_drawn 11 = .ok (.ldc 152, 2) := by decide +kernel
theorem dX9_drawn_13 : decode cX9_drawn 13 = .ok (.imul, 1) := by decide +kernel
theorem dX9_drawn_14 : decode cX9_drawn 14 = .ok (.sipush 12345, 3) := by decide +kernel
theorem dX9_drawn_17 : decode cX9_drawn 17 = .ok (.iadd, 1) := by decide +kernel
theorem dX9_drawn_18 : decode cX9_drawn 18 = .ok (.iastore, 1) := by decide +kernel
theorem dX9_drawn_19 : decode cX9_drawn 19 = .ok (.aload_n 0, 1) := by decide +kernel
theorem dX9_drawn_20 : decode cX9_drawn 20 = .ok (.getfield 9, 3) := by decide +kernel
theorem dX9_drawn_23 : decode cX9_drawn 23 = .ok (.iconst 0, 1) := by decide +kernel
theorem dX9_drawn_24 : decode cX9_drawn 24 = .ok (.iaload, 1) := by decide +kernel
theorem dX9_drawn_25 : decode cX9_drawn 25 = .ok (.bipush 8, 2) := by decide +kernel
theorem dX9_drawn_27 : decode cX9_drawn 27 = .ok (.iushr, 1) := by decide +kernel
theorem dX9_drawn_28 : decode cX9_drawn 28 = .ok (.iload_n 1, 1) := by decide +kernel
theorem dX9_drawn_29 : decode cX9_drawn 29 = .ok (.irem, 1) := by decide +kernel
theorem dX9_drawn_30 : decode cX9_drawn 30 = .ok (.ireturn, 1) := by decide +kernel
theorem dX9_deal_0 : decode cX9_deal 0 = .ok (.iload_n 1, 1) := by decide +kernel
theorem dX9_deal_1 : decode cX9_deal 1 = .ok (.iconst 1, 1) := by decide +kernel
theorem dX9_deal_2 : decode cX9_deal 2 = .ok (.bipush 10, 2) := by decide +kernel
theorem dX9_deal_4 : decode cX9_deal 4 = .ok (.invokestatic 80, 3) := by decide +kernel
theorem dX9_deal_7 : decode cX9_deal 7 = .ok (.ifCond .ne 6, 3) := by decide +kernel
theorem dX9_deal_10 : decode cX9_deal 10 = .ok (.ldc 91, 2) := by decide +kernel
theorem dX9_deal_12 : decode cX9_deal 12 = .ok (.ireturn, 1) := by decide +kernel
theorem dX9_deal_13 : decode cX9_deal 13 = .ok (.iload_n 1, 1) := by decide +kernel
theorem dX9_deal_14 : decode cX9_deal 14 = .ok (.bipush 10, 2) := by decide +kernel
theorem dX9_deal_16 : decode cX9_deal 16 = .ok (.aload_n 0, 1) := by decide +kernel
theorem dX9_deal_17 : decode cX9_deal 17 = .ok (.getfield 9, 3) := by decide +kernel
theorem dX9_deal_20 : decode cX9_deal 20 = .ok (.iconst 5, 1) := by decide +kernel
theorem dX9_deal_21 : decode cX9_deal 21 = .ok (.iaload, 1) := by decide +kernel
theorem dX9_deal_22 : decode cX9_deal 22 = .ok (.isub, 1) := by decide +kernel
theorem dX9_deal_23 : decode cX9_deal 23 = .ok (.invokestatic 111, 3) := by decide +kernel
theorem dX9_deal_26 : decode cX9_deal 26 = .ok (.istore_n 2, 1) := by decide +kernel
theorem dX9_deal_27 : decode cX9_deal 27 = .ok (.iconst 0, 1) := by decide +kernel
theorem dX9_deal_28 : decode cX9_deal 28 = .ok (.istore_n 3, 1) := by decide +kernel
theorem dX9_deal_29 : decode cX9_deal 29 = .ok (.iload_n 3, 1) := by decide +kernel
theorem dX9_deal_30 : decode cX9_deal 30 = .ok (.iload_n 2, 1) := by decide +kernel
theorem dX9_deal_31 : decode cX9_deal 31 = .ok (.if_icmp .ge 53, 3) := by decide +kernel
theorem dX9_deal_34 : decode cX9_deal 34 = .ok (.aload_n 0, 1) := by decide +kernel
theorem dX9_deal_35 : decode cX9_deal 35 = .ok (.bipush 6, 2) := by decide +kernel
theorem dX9_deal_37 : decode cX9_deal 37 = .ok (.invokevirtual 153, 3) := by decide +kernel
theorem dX9_deal_40 : decode cX9_deal 40 = .ok (.istore 4, 2) := by decide +kernel
theorem dX9_deal_42 : decode cX9_deal 42 = .ok (.iconst 1, 1) := by decide +kernel
theorem dX9_deal_43 : decode cX9_deal 43 = .ok (.aload_n 0, 1) := by decide +kernel
theorem dX9_deal_44 : decode cX9_deal 44 = .ok (.sipush 255, 3) := by decide +kernel
theorem dX9_deal_47 : decode cX9_deal 47 = .ok (.invokevirtual 153, 3) := by decide +kernel
theorem dX9_deal_50 : decode cX9_deal 50 = .ok (.iadd, 1) := by decide +kernel
theorem dX9_deal_51 : decode cX9_deal 51 = .ok (.istore 5, 2) := by decide +kernel
theorem dX9_deal_53 : decode cX9_deal 53 = .ok (.aload_n 0, 1) := by decide +kernel
theorem dX9_deal_54 : decode cX9_deal 54 = .ok (.bipush 50, 2) := by decide +kernel
theorem dX9_deal_56 : decode cX9_deal 56 = .ok (.invokevirtual 153, 3) := by decide +kernel
theorem dX9_deal_59 : decode cX9_deal 59 = .ok (.istore 6, 2) := by decide +kernel
theorem dX9_deal_61 : decode cX9_deal 61 = .ok (.aload_n 0, 1) := by decide +kernel
theorem dX9_deal_62 : decode cX9_deal 62 = .ok (.iload 4, 2) := by decide +kernel
theorem dX9_deal_64 : decode cX9_deal 64 = .ok (.iload 5, 2) := by decide +kernel
theorem dX9_deal_66 : decode cX9_deal 66 = .ok (.iload 6, 2) := by decide +kernel
theorem dX9_deal_68 : decode cX9_deal 68 = .ok (.aload_n 0, 1) := by decide +kernel
theorem dX9_deal_69 : decode cX9_deal 69 = .ok (.bipush 10, 2) := by decide +kernel
theorem dX9_deal_71 : decode cX9_deal 71 = .ok (.invokevirtual 153, 3) := by decide +kernel
theorem dX9_deal_74 : decode cX9_deal 74 = .ok (.invokevirtual 93, 3) := by decide +kernel
theorem dX9_deal_77 : decode cX9_deal 77 = .ok (.pop, 1) := by decide +kernel
theorem dX9_deal_78 : decode cX9_deal 78 = .ok (.iinc 3 1, 3) := by decide +kernel
theorem dX9_deal_81 : decode cX9_deal 81 = .ok (.goto (-52), 3) := by decide +kernel
theorem dX9_deal_84 : decode cX9_deal 84 = .ok (.iload_n 2, 1) := by decide +kernel
theorem dX9_deal_85 : decode cX9_deal 85 = .ok (.ireturn, 1) := by decide +kernel
theorem dX9_seed_0 : decode cX9_seed 0 = .ok (.aload_n 0, 1) := by decide +kernel
theorem dX9_seed_1 : decode cX9_seed 1 = .ok (.iconst 0, 1) := by decide +kernel
theorem dX9_seed_2 : decode cX9_seed 2 = .ok (.iload_n 1, 1) := by decide +kernel
theorem dX9_seed_3 : decode cX9_seed 3 = .ok (.invokevirtual 140, 3) := by decide +kernel
theorem dX9_seed_6 : decode cX9_seed 6 = .ok (.ireturn, 1) := by decide +kernel
theorem dX9_isTurned_0 : decode cX9_isTurned 0 = .ok (.aload_n 0, 1) := by decide +kernel
theorem dX9_isTurned_1 : decode cX9_isTurned 1 = .ok (.getfield 9, 3) := by decide +kernel
theorem dX9_isTurned_4 : decode cX9_isTurned 4 = .ok (.iconst 4, 1) := by decide +kernel
theorem dX9_isTurned_5 : decode cX9_isTurned 5 = .ok (.iaload, 1) := by decide +kernel
theorem dX9_isTurned_6 : decode cX9_isTurned 6 = .ok (.invokestatic 122, 3) := by decide +kernel
theorem dX9_isTurned_9 : decode cX9_isTurned 9 = .ok (.aload_n 0, 1) := by decide +kernel
theorem dX9_isTurned_10 : decode cX9_isTurned 10 = .ok (.getfield 9, 3) := by decide +kernel
theorem dX9_isTurned_13 : decode cX9_isTurned 13 = .ok (.iconst 2, 1) := by decide +kernel
theorem dX9_isTurned_14 : decode cX9_isTurned 14 = .ok (.iaload, 1) := by decide +kernel
theorem dX9_isTurned_15 : decode cX9_isTurned 15 = .ok (.if_icmp .lt 7, 3) := by decide +kernel
theorem dX9_isTurned_18 : decode cX9_isTurned 18 = .ok (.iconst 1, 1) := by decide +kernel
theorem dX9_isTurned_19 : decode cX9_isTurned 19 = .ok (.goto 4, 3) := by decide +kernel
theorem dX9_isTurned_22 : decode cX9_isTurned 22 = .ok (.iconst 0, 1) := by decide +kernel
theorem dX9_isTurned_23 : decode cX9_isTurned 23 = .ok (.ireturn, 1) := by decide +kernel
theorem dX9_comesIn_0 : decode cX9_comesIn 0 = .ok (.aload_n 0, 1) := by decide +kernel
theorem dX9_comesIn_1 : decode cX9_comesIn 1 = .ok (.invokevirtual 156, 3) := by decide +kernel
theorem dX9_comesIn_4 : decode cX9_comesIn 4 = .ok (.ifCond .ne 31, 3) := by decide +kernel
theorem dX9_comesIn_7 : decode cX9_comesIn 7 = .ok (.aload_n 0, 1) := by decide +kernel
theorem dX9_comesIn_8 : decode cX9_comesIn 8 = .ok (.iload_n 1, 1) := by decide +kernel
theorem dX9_comesIn_9 : decode cX9_comesIn 9 = .ok (.iconst 0, 1) := by decide +kernel
theorem dX9_comesIn_10 : decode cX9_comesIn 10 = .ok (.invokevirtual 104, 3) := by decide +kernel
theorem dX9_comesIn_13 : decode cX9_comesIn 13 = .ok (.iconst 2, 1) := by decide +kernel
theorem dX9_comesIn_14 : decode cX9_comesIn 14 = .ok (.invokestatic 135, 3) := by decide +kernel
theorem dX9_comesIn_17 : decode cX9_comesIn 17 = .ok (.ifCond .eq 20, 3) := by decide +kernel
theorem dX9_comesIn_20 : decode cX9_comesIn 20 = .ok (.aload_n 0, 1) := by decide +kernel
theorem dX9_comesIn_21 : decode cX9_comesIn 21 = .ok (.bipush 100, 2) := by decide +kernel
theorem dX9_comesIn_23 : decode cX9_comesIn 23 = .ok (.invokevirtual 153, 3) := by decide +kernel
theorem dX9_comesIn_26 : decode cX9_comesIn 26 = .ok (.aload_n 0, 1) := by decide +kernel
theorem dX9_comesIn_27 : decode cX9_comesIn 27 = .ok (.getfield 9, 3) := by decide +kernel
theorem dX9_comesIn_30 : decode cX9_comesIn 30 = .ok (.iconst 3, 1) := by decide +kernel
theorem dX9_comesIn_31 : decode cX9_comesIn 31 = .ok (.iaload, 1) := by decide +kernel
theorem dX9_comesIn_32 : decode cX9_comesIn 32 = .ok (.if_icmp .lt 5, 3) := by decide +kernel
theorem dX9_comesIn_35 : decode cX9_comesIn 35 = .ok (.iconst 1, 1) := by decide +kernel
theorem dX9_comesIn_36 : decode cX9_comesIn 36 = .ok (.ireturn, 1) := by decide +kernel
theorem dX9_comesIn_37 : decode cX9_comesIn 37 = .ok (.aload_n 0, 1) := by decide +kernel
theorem dX9_comesIn_38 : decode cX9_comesIn 38 = .ok (.iload_n 1, 1) := by decide +kernel
theorem dX9_comesIn_39 : decode cX9_comesIn 39 = .ok (.iconst 5, 1) := by decide +kernel
theorem dX9_comesIn_40 : decode cX9_comesIn 40 = .ok (.invokevirtual 104, 3) := by decide +kernel
theorem dX9_comesIn_43 : decode cX9_comesIn 43 = .ok (.aload_n 0, 1) := by decide +kernel
theorem dX9_comesIn_44 : decode cX9_comesIn 44 = .ok (.iload_n 1, 1) := by decide +kernel
theorem dX9_comesIn_45 : decode cX9_comesIn 45 = .ok (.iconst 3, 1) := by decide +kernel
theorem dX9_comesIn_46 : decode cX9_comesIn 46 = .ok (.invokevirtual 104, 3) := by decide +kernel
theorem dX9_comesIn_49 : decode cX9_comesIn 49 = .ok (.if_icmp .lt 5, 3) := by decide +kernel
theorem dX9_comesIn_52 : decode cX9_comesIn 52 = .ok (.iconst 0, 1) := by decide +kernel
theorem dX9_comesIn_53 : decode cX9_comesIn 53 = .ok (.ireturn, 1) := by decide +kernel
theorem dX9_comesIn_54 : decode cX9_comesIn 54 = .ok (.aload_n 0, 1) := by decide +kernel
theorem dX9_comesIn_55 : decode cX9_comesIn 55 = .ok (.getfield 9, 3) := by decide +kernel
theorem dX9_comesIn_58 : decode cX9_comesIn 58 = .ok (.bipush 68, 2) := by decide +kernel
theorem dX9_comesIn_60 : decode cX9_comesIn 60 = .ok (.iconst 2, 1) := by decide +kernel
theorem dX9_comesIn_61 : decode cX9_comesIn 61 = .ok (.iload_n 2, 1) := by decide +kernel
theorem dX9_comesIn_62 : decode cX9_comesIn 62 = .ok (.imul, 1) := by decide +kernel
theorem dX9_comesIn_63 : decode cX9_comesIn 63 = .ok (.iadd, 1) := by decide +kernel
theorem dX9_comesIn_64 : decode cX9_comesIn 64 = .ok (.iconst 1, 1) := by decide +kernel
theorem dX9_comesIn_65 : decode cX9_comesIn 65 = .ok (.iadd, 1) := by decide +kernel
theorem dX9_comesIn_66 : decode cX9_comesIn 66 = .ok (.dup2, 1) := by decide +kernel
theorem dX9_comesIn_67 : decode cX9_comesIn 67 = .ok (.iaload, 1) := by decide +kernel
theorem dX9_comesIn_68 : decode cX9_comesIn 68 = .ok (.aload_n 0, 1) := by decide +kernel
theorem dX9_comesIn_69 : decode cX9_comesIn 69 = .ok (.iload_n 1, 1) := by decide +kernel
theorem dX9_comesIn_70 : decode cX9_comesIn 70 = .ok (.invokevirtual 128, 3) := by decide +kernel
theorem dX9_comesIn_73 : decode cX9_comesIn 73 = .ok (.iadd, 1) := by decide +kernel
theorem dX9_comesIn_74 : decode cX9_comesIn 74 = .ok (.iastore, 1) := by decide +kernel
theorem dX9_comesIn_75 : decode cX9_comesIn 75 = .ok (.aload_n 0, 1) := by decide +kernel
theorem dX9_comesIn_76 : decode cX9_comesIn 76 = .ok (.getfield 9, 3) := by decide +kernel
theorem dX9_comesIn_79 : decode cX9_comesIn 79 = .ok (.bipush 8, 2) := by decide +kernel
theorem dX9_comesIn_81 : decode cX9_comesIn 81 = .ok (.bipush 6, 2) := by decide +kernel
theorem dX9_comesIn_83 : decode cX9_comesIn 83 = .ok (.iload_n 1, 1) := by decide +kernel
theorem dX9_comesIn_84 : decode cX9_comesIn 84 = .ok (.imul, 1) := by decide +kernel
theorem dX9_comesIn_85 : decode cX9_comesIn 85 = .ok (.iadd, 1) := by decide +kernel
theorem dX9_comesIn_86 : decode cX9_comesIn 86 = .ok (.iconst 4, 1) := by decide +kernel
theorem dX9_comesIn_87 : decode cX9_comesIn 87 = .ok (.iadd, 1) := by decide +kernel
theorem dX9_comesIn_88 : decode cX9_comesIn 88 = .ok (.dup2, 1) := by decide +kernel
theorem dX9_comesIn_89 : decode cX9_comesIn 89 = .ok (.iaload, 1) := by decide +kernel
theorem dX9_comesIn_90 : decode cX9_comesIn 90 = .ok (.iconst 1, 1) := by decide +kernel
theorem dX9_comesIn_91 : decode cX9_comesIn 91 = .ok (.iadd, 1) := by decide +kernel
theorem dX9_comesIn_92 : decode cX9_comesIn 92 = .ok (.iastore, 1) := by decide +kernel
theorem dX9_comesIn_93 : decode cX9_comesIn 93 = .ok (.aload_n 0, 1) := by decide +kernel
theorem dX9_comesIn_94 : decode cX9_comesIn 94 = .ok (.getfield 9, 3) := by decide +kernel
theorem dX9_comesIn_97 : decode cX9_comesIn 97 = .ok (.bipush 8, 2) := by decide +kernel
theorem dX9_comesIn_99 : decode cX9_comesIn 99 = .ok (.bipush 6, 2) := by decide +kernel
theorem dX9_comesIn_101 : decode cX9_comesIn 101 = .ok (.iload_n 1, 1) := by decide +kernel
theorem dX9_comesIn_102 : decode cX9_comesIn 102 = .ok (.imul, 1) := by decide +kernel
theorem dX9_comesIn_103 : decode cX9_comesIn 103 = .ok (.iadd, 1) := by decide +kernel
theorem dX9_comesIn_104 : decode cX9_comesIn 104 = .ok (.iconst 5, 1) := by decide +kernel
theorem dX9_comesIn_105 : decode cX9_comesIn 105 = .ok (.iadd, 1) := by decide +kernel
theorem dX9_comesIn_106 : decode cX9_comesIn 106 = .ok (.dup2, 1) := by decide +kernel
theorem dX9_comesIn_107 : decode cX9_comesIn 107 = .ok (.iaload, 1) := by decide +kernel
theorem dX9_comesIn_108 : decode cX9_comesIn 108 = .ok (.iconst 1, 1) := by decide +kernel
theorem dX9_comesIn_109 : decode cX9_comesIn 109 = .ok (.iadd, 1) := by decide +kernel
theorem dX9_comesIn_110 : decode cX9_comesIn 110 = .ok (.iastore, 1) := by decide +kernel
theorem dX9_comesIn_111 : decode cX9_comesIn 111 = .ok (.aload_n 0, 1) := by decide +kernel
theorem dX9_comesIn_112 : decode cX9_comesIn 112 = .ok (.getfield 9, 3) := by decide +kernel
theorem dX9_comesIn_115 : decode cX9_comesIn 115 = .ok (.iconst 4, 1) := by decide +kernel
theorem dX9_comesIn_116 : decode cX9_comesIn 116 = .ok (.dup2, 1) := by decide +kernel
theorem dX9_comesIn_117 : decode cX9_comesIn 117 = .ok (.iaload, 1) := by decide +kernel
theorem dX9_comesIn_118 : decode cX9_comesIn 118 = .ok (.iconst 1, 1) := by decide +kernel
theorem dX9_comesIn_119 : decode cX9_comesIn 119 = .ok (.iload_n 1, 1) := by decide +kernel
theorem dX9_comesIn_120 : decode cX9_comesIn 120 = .ok (.ishl, 1) := by decide +kernel
theorem dX9_comesIn_121 : decode cX9_comesIn 121 = .ok (.ior, 1) := by decide +kernel
theorem dX9_comesIn_122 : decode cX9_comesIn 122 = .ok (.iastore, 1) := by decide +kernel
theorem dX9_comesIn_123 : decode cX9_comesIn 123 = .ok (.iconst 1, 1) := by decide +kernel
theorem dX9_comesIn_124 : decode cX9_comesIn 124 = .ok (.ireturn, 1) := by decide +kernel
theorem dX9_crosses_0 : decode cX9_crosses 0 = .ok (.iconst 0, 1) := by decide +kernel
theorem dX9_crosses_1 : decode cX9_crosses 1 = .ok (.istore_n 3, 1) := by decide +kernel
theorem dX9_crosses_2 : decode cX9_crosses 2 = .ok (.iconst 0, 1) := by decide +kernel
theorem dX9_crosses_3 : decode cX9_crosses 3 = .ok (.istore 4, 2) := by decide +kernel
theorem dX9_crosses_5 : decode cX9_crosses 5 = .ok (.iload 4, 2) := by decide +kernel
theorem dX9_crosses_7 : decode cX9_crosses 7 = .ok (.aload_n 0, 1) := by decide +kernel
theorem dX9_crosses_8 : decode cX9_crosses 8 = .ok (.getfield 9, 3) := by decide +kernel
theorem dX9_crosses_11 : decode cX9_crosses 11 = .ok (.iconst 5, 1) := by decide +kernel
theorem dX9_crosses_12 : decode cX9_crosses 12 = .ok (.iaload, 1) := by decide +kernel
theorem dX9_crosses_13 : decode cX9_crosses 13 = .ok (.if_icmp .ge 64, 3) := by decide +kernel
theorem dX9_crosses_16 : decode cX9_crosses 16 = .ok (.iload_n 2, 1) := by decide +kernel
theorem dX9_crosses_17 : decode cX9_crosses 17 = .ok (.aload_n 0, 1) := by decide +kernel
theorem dX9_crosses_18 : decode cX9_crosses 18 = .ok (.iload_n 1, 1) := by decide +kernel
theorem dX9_crosses_19 : decode cX9_crosses 19 = .ok (.iconst 0, 1) := by decide +kernel
theorem dX9_crosses_20 : decode cX9_crosses 20 = .ok (.invokevirtual 146, 3) := by decide +kernel
theorem dX9_crosses_23 : decode cX9_crosses 23 = .ok (.iconst (-1), 1) := by decide +kernel
theorem dX9_crosses_24 : decode cX9_crosses 24 = .ok (.ixor, 1) := by decide +kernel
theorem dX9_crosses_25 : decode cX9_crosses 25 = .ok (.iand, 1) := by decide +kernel
theorem dX9_crosses_26 : decode cX9_crosses 26 = .ok (.iload 4, 2) := by decide +kernel
theorem dX9_crosses_28 : decode cX9_crosses 28 = .ok (.invokestatic 160, 3) := by decide +kernel
theorem dX9_crosses_31 : decode cX9_crosses 31 = .ok (.ifCond .eq 40, 3) := by decide +kernel
theorem dX9_crosses_34 : decode cX9_crosses 34 = .ok (.aload_n 0, 1) := by decide +kernel
theorem dX9_crosses_35 : decode cX9_crosses 35 = .ok (.iload 4, 2) := by decide +kernel
theorem dX9_crosses_37 : decode cX9_crosses 37 = .ok (.iload_n 1, 1) := by decide +kernel
theorem dX9_crosses_38 : decode cX9_crosses 38 = .ok (.invokevirtual 163, 3) := by decide +kernel
theorem dX9_crosses_41 : decode cX9_crosses 41 = .ok (.ifCond .eq 30, 3) := by decide +kernel
theorem dX9_crosses_44 : decode cX9_crosses 44 = .ok (.iload_n 3, 1) := by decide +kernel
theorem dX9_crosses_45 : decode cX9_crosses 45 = .ok (.iconst 1, 1) := by decide +kernel
theorem dX9_crosses_46 : decode cX9_crosses 46 = .ok (.iload 4, 2) := by decide +kernel
theorem dX9_crosses_48 : decode cX9_crosses 48 = .ok (.ishl, 1) := by decide +kernel
theorem dX9_crosses_49 : decode cX9_crosses 49 = .ok (.ior, 1) := by decide +kernel
theorem dX9_crosses_50 : decode cX9_crosses 50 = .ok (.istore_n 3, 1) := by decide +kernel
theorem dX9_crosses_51 : decode cX9_crosses 51 = .ok (.aload_n 0, 1) := by decide +kernel
theorem dX9_crosses_52 : decode cX9_crosses 52 = .ok (.getfield 9, 3) := by decide +kernel
theorem dX9_crosses_55 : decode cX9_crosses 55 = .ok (.bipush 68, 2) := by decide +kernel
theorem dX9_crosses_57 : decode cX9_crosses 57 = .ok (.iconst 2, 1) := by decide +kernel
theorem dX9_crosses_58 : decode cX9_crosses 58 = .ok (.iload_n 1, 1) := by decide +kernel
theorem dX9_crosses_59 : decode cX9_crosses 59 = .ok (.imul, 1) := by decide +kernel
theorem dX9_crosses_60 : decode cX9_crosses 60 = .ok (.iadd, 1) := by decide +kernel
theorem dX9_crosses_61 : decode cX9_crosses 61 = .ok (.iconst 0, 1) := by decide +kernel
theorem dX9_crosses_62 : decode cX9_crosses 62 = .ok (.iadd, 1) := by decide +kernel
theorem dX9_crosses_63 : decode cX9_crosses 63 = .ok (.dup2, 1) := by decide +kernel
theorem dX9_crosses_64 : decode cX9_crosses 64 = .ok (.iaload, 1) := by decide +kernel
theorem dX9_crosses_65 : decode cX9_crosses 65 = .ok (.iconst 1, 1) := by decide +kernel
theorem dX9_crosses_66 : decode cX9_crosses 66 = .ok (.iload 4, 2) := by decide +kernel
theorem dX9_crosses_68 : decode cX9_crosses 68 = .ok (.ishl, 1) := by decide +kernel
theorem dX9_crosses_69 : decode cX9_crosses 69 = .ok (.ior, 1) := by decide +kernel
theorem dX9_crosses_70 : decode cX9_crosses 70 = .ok (.iastore, 1) := by decide +kernel
theorem dX9_crosses_71 : decode cX9_crosses 71 = .ok (.iinc 4 1, 3) := by decide +kernel
theorem dX9_crosses_74 : decode cX9_crosses 74 = .ok (.goto (-69), 3) := by decide +kernel
theorem dX9_crosses_77 : decode cX9_crosses 77 = .ok (.iload_n 3, 1) := by decide +kernel
theorem dX9_crosses_78 : decode cX9_crosses 78 = .ok (.ireturn, 1) := by decide +kernel
theorem dX9_cross_0 : decode cX9_cross 0 = .ok (.aload_n 0, 1) := by decide +kernel
theorem dX9_cross_1 : decode cX9_cross 1 = .ok (.iload_n 1, 1) := by decide +kernel
theorem dX9_cross_2 : decode cX9_cross 2 = .ok (.invokevirtual 143, 3) := by decide +kernel
theorem dX9_cross_5 : decode cX9_cross 5 = .ok (.ifCond .eq 20, 3) := by decide +kernel
theorem dX9_cross_8 : decode cX9_cross 8 = .ok (.aload_n 0, 1) := by decide +kernel
theorem dX9_cross_9 : decode cX9_cross 9 = .ok (.iload_n 2, 1) := by decide +kernel
theorem dX9_cross_10 : decode cX9_cross 10 = .ok (.invokevirtual 149, 3) := by decide +kernel
theorem dX9_cross_13 : decode cX9_cross 13 = .ok (.ifCond .eq 12, 3) := by decide +kernel
theorem dX9_cross_16 : decode cX9_cross 16 = .ok (.aload_n 0, 1) := by decide +kernel
theorem dX9_cross_17 : decode cX9_cross 17 = .ok (.iload_n 1, 1) := by decide +kernel
theorem dX9_cross_18 : decode cX9_cross 18 = .ok (.iload_n 2, 1) := by decide +kernel
theorem dX9_cross_19 : decode cX9_cross 19 = .ok (.invokevirtual 166, 3) := by decide +kernel
theorem dX9_cross_22 : decode cX9_cross 22 = .ok (.goto 5, 3) := by decide +kernel
theorem dX9_cross_25 : decode cX9_cross 25 = .ok (.ldc 91, 2) := by decide +kernel
theorem dX9_cross_27 : decode cX9_cross 27 = .ok (.ireturn, 1) := by decide +kernel
theorem dX9_man_0 : decode cX9_man 0 = .ok (.iload_n 1, 1) := by decide +kernel
theorem dX9_man_1 : decode cX9_man 1 = .ok (.ifCond .ne 12, 3) := by decide +kernel
theorem dX9_man_4 : decode cX9_man 4 = .ok (.aload_n 0, 1) := by decide +kernel
theorem dX9_man_5 : decode cX9_man 5 = .ok (.getfield 9, 3) := by decide +kernel
theorem dX9_man_8 : decode cX9_man 8 = .ok (.iconst 4, 1) := by decide +kernel
theorem dX9_man_9 : decode cX9_man 9 = .ok (.iaload, 1) := by decide +kernel
theorem dX9_man_10 : decode cX9_man 10 = .ok (.goto 25, 3) := by decide +kernel
theorem dX9_man_13 : decode cX9_man 13 = .ok (.iload_n 1, 1) := by decide +kernel
theorem dX9_man_14 : decode cX9_man 14 = .ok (.iconst 1, 1) := by decide +kernel
theorem dX9_man_15 : decode cX9_man 15 = .ok (.if_icmp .ne 18, 3) := by decide +kernel
theorem dX9_man_18 : decode cX9_man 18 = .ok (.aload_n 0, 1) := by decide +kernel
theorem dX9_man_19 : decode cX9_man 19 = .ok (.invokevirtual 156, 3) := by decide +kernel
theorem dX9_man_22 : decode cX9_man 22 = .ok (.ifCond .eq 7, 3) := by decide +kernel
theorem dX9_man_25 : decode cX9_man 25 = .ok (.iconst 1, 1) := by decide +kernel
theorem dX9_man_26 : decode cX9_man 26 = .ok (.goto 9, 3) := by decide +kernel
theorem dX9_man_29 : decode cX9_man 29 = .ok (.iconst 0, 1) := by decide +kernel
theorem dX9_man_30 : decode cX9_man 30 = .ok (.goto 5, 3) := by decide +kernel
theorem dX9_man_33 : decode cX9_man 33 = .ok (.ldc 91, 2) := by decide +kernel
theorem dX9_man_35 : decode cX9_man 35 = .ok (.ireturn, 1) := by decide +kernel
theorem dX9_forget_0 : decode cX9_forget 0 = .ok (.aload_n 0, 1) := by decide +kernel
theorem dX9_forget_1 : decode cX9_forget 1 = .ok (.iconst 4, 1) := by decide +kernel
theorem dX9_forget_2 : decode cX9_forget 2 = .ok (.iconst 0, 1) := by decide +kernel
theorem dX9_forget_3 : decode cX9_forget 3 = .ok (.invokevirtual 140, 3) := by decide +kernel
theorem dX9_forget_6 : decode cX9_forget 6 = .ok (.invokestatic 122, 3) := by decide +kernel
theorem dX9_forget_9 : decode cX9_forget 9 = .ok (.ireturn, 1) := by decide +kernel
theorem dX9_daysGo_0 : decode cX9_daysGo 0 = .ok (.iconst 0, 1) := by decide +kernel
theorem dX9_daysGo_1 : decode cX9_daysGo 1 = .ok (.istore_n 2, 1) := by decide +kernel
theorem dX9_daysGo_2 : decode cX9_daysGo 2 = .ok (.iload_n 2, 1) := by decide +kernel
theorem dX9_daysGo_3 : decode cX9_daysGo 3 = .ok (.iload_n 1, 1) := by decide +kernel
theorem dX9_daysGo_4 : decode cX9_daysGo 4 = .ok (.if_icmp .ge 84, 3) := by decide +kernel
theorem dX9_daysGo_7 : decode cX9_daysGo 7 = .ok (.iconst 0, 1) := by decide +kernel
theorem dX9_daysGo_8 : decode cX9_daysGo 8 = .ok (.istore_n 3, 1) := by decide +kernel
theorem dX9_daysGo_9 : decode cX9_daysGo 9 = .ok (.iload_n 3, 1) := by decide +kernel
theorem dX9_daysGo_10 : decode cX9_daysGo 10 = .ok (.aload_n 0, 1) := by decide +kernel
theorem dX9_daysGo_11 : decode cX9_daysGo 11 = .ok (.getfield 9, 3) := by decide +kernel
theorem dX9_daysGo_14 : decode cX9_daysGo 14 = .ok (.iconst 5, 1) := by decide +kernel
theorem dX9_daysGo_15 : decode cX9_daysGo 15 = .ok (.iaload, 1) := by decide +kernel
theorem dX9_daysGo_16 : decode cX9_daysGo 16 = .ok (.if_icmp .ge 24, 3) := by decide +kernel
theorem dX9_daysGo_19 : decode cX9_daysGo 19 = .ok (.aload_n 0, 1) := by decide +kernel
theorem dX9_daysGo_20 : decode cX9_daysGo 20 = .ok (.getfield 9, 3) := by decide +kernel
theorem dX9_daysGo_23 : decode cX9_daysGo 23 = .ok (.bipush 8, 2) := by decide +kernel
theorem dX9_daysGo_25 : decode cX9_daysGo 25 = .ok (.bipush 6, 2) := by decide +kernel
theorem dX9_daysGo_27 : decode cX9_daysGo 27 = .ok (.iload_n 3, 1) := by decide +kernel
theorem dX9_daysGo_28 : decode cX9_daysGo 28 = .ok (.imul, 1) := by decide +kernel
theorem dX9_daysGo_29 : decode cX9_daysGo 29 = .ok (.iadd, 1) := by decide +kernel
theorem dX9_daysGo_30 : decode cX9_daysGo 30 = .ok (.iconst 5, 1) := by decide +kernel
theorem dX9_daysGo_31 : decode cX9_daysGo 31 = .ok (.iadd, 1) := by decide +kernel
theorem dX9_daysGo_32 : decode cX9_daysGo 32 = .ok (.iconst 0, 1) := by decide +kernel
theorem dX9_daysGo_33 : decode cX9_daysGo 33 = .ok (.iastore, 1) := by decide +kernel
theorem dX9_daysGo_34 : decode cX9_daysGo 34 = .ok (.iinc 3 1, 3) := by decide +kernel
theorem dX9_daysGo_37 : decode cX9_daysGo 37 = .ok (.goto (-28), 3) := by decide +kernel
theorem dX9_daysGo_40 : decode cX9_daysGo 40 = .ok (.iconst 0, 1) := by decide +kernel
theorem dX9_daysGo_41 : decode cX9_daysGo 41 = .ok (.istore_n 3, 1) := by decide +kernel
theorem dX9_daysGo_42 : decode cX9_daysGo 42 = .ok (.iload_n 3, 1) := by decide +kernel
theorem dX9_daysGo_43 : decode cX9_daysGo 43 = .ok (.aload_n 0, 1) := by decide +kernel
theorem dX9_daysGo_44 : decode cX9_daysGo 44 = .ok (.getfield 9, 3) := by decide +kernel
theorem dX9_daysGo_47 : decode cX9_daysGo 47 = .ok (.bipush 6, 2) := by decide +kernel
theorem dX9_daysGo_49 : decode cX9_daysGo 49 = .ok (.iaload, 1) := by decide +kernel
theorem dX9_daysGo_50 : decode cX9_daysGo 50 = .ok (.if_icmp .ge 22, 3) := by decide +kernel
theorem dX9_daysGo_53 : decode cX9_daysGo 53 = .ok (.aload_n 0, 1) := by decide +kernel
theorem dX9_daysGo_54 : decode cX9_daysGo 54 = .ok (.iload_n 3, 1) := by decide +kernel
theorem dX9_daysGo_55 : decode cX9_daysGo 55 = .ok (.aload_n 0, 1) := by decide +kernel
theorem dX9_daysGo_56 : decode cX9_daysGo 56 = .ok (.sipush 1024, 3) := by decide +kernel
theorem dX9_daysGo_59 : decode cX9_daysGo 59 = .ok (.invokevirtual 153, 3) := by decide +kernel
theorem dX9_daysGo_62 : decode cX9_daysGo 62 = .ok (.invokevirtual 166, 3) := by decide +kernel
theorem dX9_daysGo_65 : decode cX9_daysGo 65 = .ok (.pop, 1) := by decide +kernel
theorem dX9_daysGo_66 : decode cX9_daysGo 66 = .ok (.iinc 3 1, 3) := by decide +kernel
theorem dX9_daysGo_69 : decode cX9_daysGo 69 = .ok (.goto (-27), 3) := by decide +kernel
theorem dX9_daysGo_72 : decode cX9_daysGo 72 = .ok (.aload_n 0, 1) := by decide +kernel
theorem dX9_daysGo_73 : decode cX9_daysGo 73 = .ok (.getfield 9, 3) := by decide +kernel
theorem dX9_daysGo_76 : decode cX9_daysGo 76 = .ok (.iconst 1, 1) := by decide +kernel
theorem dX9_daysGo_77 : decode cX9_daysGo 77 = .ok (.dup2, 1) := by decide +kernel
theorem dX9_daysGo_78 : decode cX9_daysGo 78 = .ok (.iaload, 1) := by decide +kernel
theorem dX9_daysGo_79 : decode cX9_daysGo 79 = .ok (.iconst 1, 1) := by decide +kernel
theorem dX9_daysGo_80 : decode cX9_daysGo 80 = .ok (.iadd, 1) := by decide +kernel
theorem dX9_daysGo_81 : decode cX9_daysGo 81 = .ok (.iastore, 1) := by decide +kernel
theorem dX9_daysGo_82 : decode cX9_daysGo 82 = .ok (.iinc 2 1, 3) := by decide +kernel
theorem dX9_daysGo_85 : decode cX9_daysGo 85 = .ok (.goto (-83), 3) := by decide +kernel
theorem dX9_daysGo_88 : decode cX9_daysGo 88 = .ok (.return_, 1) := by decide +kernel
theorem dX9_stamps_0 : decode cX9_stamps 0 = .ok (.iconst 0, 1) := by decide +kernel
theorem dX9_stamps_1 : decode cX9_stamps 1 = .ok (.istore_n 1, 1) := by decide +kernel
theorem dX9_stamps_2 : decode cX9_stamps 2 = .ok (.iconst 0, 1) := by decide +kernel
theorem dX9_stamps_3 : decode cX9_stamps 3 = .ok (.istore_n 2, 1) := by decide +kernel
theorem dX9_stamps_4 : decode cX9_stamps 4 = .ok (.iload_n 2, 1) := by decide +kernel
theorem dX9_stamps_5 : decode cX9_stamps 5 = .ok (.aload_n 0, 1) := by decide +kernel
theorem dX9_stamps_6 : decode cX9_stamps 6 = .ok (.getfield 9, 3) := by decide +kernel
theorem dX9_stamps_9 : decode cX9_stamps 9 = .ok (.iconst 5, 1) := by decide +kernel
theorem dX9_stamps_10 : decode cX9_stamps 10 = .ok (.iaload, 1) := by decide +kernel
theorem dX9_stamps_11 : decode cX9_stamps 11 = .ok (.if_icmp .ge 18, 3) := by decide +kernel
theorem dX9_stamps_14 : decode cX9_stamps 14 = .ok (.iload_n 1, 1) := by decide +kernel
theorem dX9_stamps_15 : decode cX9_stamps 15 = .ok (.aload_n 0, 1) := by decide +kernel
theorem dX9_stamps_16 : decode cX9_stamps 16 = .ok (.iload_n 2, 1) := by decide +kernel
theorem dX9_stamps_17 : decode cX9_stamps 17 = .ok (.iconst 4, 1) := by decide +kernel
theorem dX9_stamps_18 : decode cX9_stamps 18 = .ok (.invokevirtual 104, 3) := by decide +kernel
theorem dX9_stamps_21 : decode cX9_stamps 21 = .ok (.iadd, 1) := by decide +kernel
theorem dX9_stamps_22 : decode cX9_stamps 22 = .ok (.istore_n 1, 1) := by decide +kernel
theorem dX9_stamps_23 : decode cX9_stamps 23 = .ok (.iinc 2 1, 3) := by decide +kernel
theorem dX9_stamps_26 : decode cX9_stamps 26 = .ok (.goto (-22), 3) := by decide +kernel
theorem dX9_stamps_29 : decode cX9_stamps 29 = .ok (.iload_n 1, 1) := by decide +kernel
theorem dX9_stamps_30 : decode cX9_stamps 30 = .ok (.ireturn, 1) := by decide +kernel
theorem dX9_paid_0 : decode cX9_paid 0 = .ok (.iconst 0, 1) := by decide +kernel
theorem dX9_paid_1 : decode cX9_paid 1 = .ok (.istore_n 1, 1) := by decide +kernel
theorem dX9_paid_2 : decode cX9_paid 2 = .ok (.iconst 0, 1) := by decide +kernel
theorem dX9_paid_3 : decode cX9_paid 3 = .ok (.istore_n 2, 1) := by decide +kernel
theorem dX9_paid_4 : decode cX9_paid 4 = .ok (.iload_n 2, 1) := by decide +kernel
theorem dX9_paid_5 : decode cX9_paid 5 = .ok (.aload_n 0, 1) := by decide +kernel
theorem dX9_paid_6 : decode cX9_paid 6 = .ok (.getfield 9, 3) := by decide +kernel
theorem dX9_paid_9 : decode cX9_paid 9 = .ok (.bipush 6, 2) := by decide +kernel
theorem dX9_paid_11 : decode cX9_paid 11 = .ok (.iaload, 1) := by decide +kernel
theorem dX9_paid_12 : decode cX9_paid 12 = .ok (.if_icmp .ge 18, 3) := by decide +kernel
theorem dX9_paid_15 : decode cX9_paid 15 = .ok (.iload_n 1, 1) := by decide +kernel
theorem dX9_paid_16 : decode cX9_paid 16 = .ok (.aload_n 0, 1) := by decide +kernel
theorem dX9_paid_17 : decode cX9_paid 17 = .ok (.iload_n 2, 1) := by decide +kernel
theorem dX9_paid_18 : decode cX9_paid 18 = .ok (.iconst 1, 1) := by decide +kernel
theorem dX9_paid_19 : decode cX9_paid 19 = .ok (.invokevirtual 146, 3) := by decide +kernel
theorem dX9_paid_22 : decode cX9_paid 22 = .ok (.iadd, 1) := by decide +kernel
theorem dX9_paid_23 : decode cX9_paid 23 = .ok (.istore_n 1, 1) := by decide +kernel
theorem dX9_paid_24 : decode cX9_paid 24 = .ok (.iinc 2 1, 3) := by decide +kernel
theorem dX9_paid_27 : decode cX9_paid 27 = .ok (.goto (-23), 3) := by decide +kernel
theorem dX9_paid_30 : decode cX9_paid 30 = .ok (.iload_n 1, 1) := by decide +kernel
theorem dX9_paid_31 : decode cX9_paid 31 = .ok (.ireturn, 1) := by decide +kernel
theorem dX9_days_0 : decode cX9_days 0 = .ok (.iload_n 1, 1) := by decide +kernel
theorem dX9_days_1 : decode cX9_days 1 = .ok (.iconst 1, 1) := by decide +kernel
theorem dX9_days_2 : decode cX9_days 2 = .ok (.bipush 60, 2) := by decide +kernel
theorem dX9_days_4 : decode cX9_days 4 = .ok (.invokestatic 80, 3) := by decide +kernel
theorem dX9_days_7 : decode cX9_days 7 = .ok (.ifCond .ne 6, 3) := by decide +kernel
theorem dX9_days_10 : decode cX9_days 10 = .ok (.ldc 91, 2) := by decide +kernel
theorem dX9_days_12 : decode cX9_days 12 = .ok (.ireturn, 1) := by decide +kernel
theorem dX9_days_13 : decode cX9_days 13 = .ok (.aload_n 0, 1) := by decide +kernel
theorem dX9_days_14 : decode cX9_days 14 = .ok (.invokevirtual 169, 3) := by decide +kernel
theorem dX9_days_17 : decode cX9_days 17 = .ok (.istore_n 2, 1) := by decide +kernel
theorem dX9_days_18 : decode cX9_days 18 = .ok (.aload_n 0, 1) := by decide +kernel
theorem dX9_days_19 : decode cX9_days 19 = .ok (.iload_n 1, 1) := by decide +kernel
theorem dX9_days_20 : decode cX9_days 20 = .ok (.sipush 9999, 3) := by decide +kernel
theorem dX9_days_23 : decode cX9_days 23 = .ok (.aload_n 0, 1) := by decide +kernel
theorem dX9_days_24 : decode cX9_days 24 = .ok (.getfield 9, 3) := by decide +kernel
theorem dX9_days_27 : decode cX9_days 27 = .ok (.iconst 1, 1) := by decide +kernel
theorem dX9_days_28 : decode cX9_days 28 = .ok (.iaload, 1) := by decide +kernel
theorem dX9_days_29 : decode cX9_days 29 = .ok (.isub, 1) := by decide +kernel
theorem dX9_days_30 : decode cX9_days 30 = .ok (.invokestatic 111, 3) := by decide +kernel
theorem dX9_days_33 : decode cX9_days 33 = .ok (.invokevirtual 173, 3) := by decide +kernel
theorem dX9_days_36 : decode cX9_days 36 = .ok (.aload_n 0, 1) := by decide +kernel
theorem dX9_days_37 : decode cX9_days 37 = .ok (.invokevirtual 169, 3) := by decide +kernel
theorem dX9_days_40 : decode cX9_days 40 = .ok (.iload_n 2, 1) := by decide +kernel
theorem dX9_days_41 : decode cX9_days 41 = .ok (.isub, 1) := by decide +kernel
theorem dX9_days_42 : decode cX9_days 42 = .ok (.ireturn, 1) := by decide +kernel
theorem dX9_sensesOf_0 : decode cX9_sensesOf 0 = .ok (.iconst 0, 1) := by decide +kernel
theorem dX9_sensesOf_1 : decode cX9_sensesOf 1 = .ok (.istore_n 2, 1) := by decide +kernel
theorem dX9_sensesOf_2 : decode cX9_sensesOf 2 = .ok (.iconst 0, 1) := by decide +kernel
theorem dX9_sensesOf_3 : decode cX9_sensesOf 3 = .ok (.istore_n 3, 1) := by decide +kernel
theorem dX9_sensesOf_4 : decode cX9_sensesOf 4 = .ok (.iload_n 3, 1) := by decide +kernel
theorem dX9_sensesOf_5 : decode cX9_sensesOf 5 = .ok (.aload_n 0, 1) := by decide +kernel
theorem dX9_sensesOf_6 : decode cX9_sensesOf 6 = .ok (.getfield 9, 3) := by decide +kernel
theorem dX9_sensesOf_9 : decode cX9_sensesOf 9 = .ok (.iconst 5, 1) := by decide +kernel
theorem dX9_sensesOf_10 : decode cX9_sensesOf 10 = .ok (.iaload, 1) := by decide +kernel
theorem dX9_sensesOf_11 : decode cX9_sensesOf 11 = .ok (.if_icmp .ge 30, 3) := by decide +kernel
theorem dX9_sensesOf_14 : decode cX9_sensesOf 14 = .ok (.iload_n 2, 1) := by decide +kernel
theorem dX9_sensesOf_15 : decode cX9_sensesOf 15 = .ok (.iload_n 1, 1) := by decide +kernel
theorem dX9_sensesOf_16 : decode cX9_sensesOf 16 = .ok (.iload_n 3, 1) := by decide +kernel
theorem dX9_sensesOf_17 : decode cX9_sensesOf 17 = .ok (.invokestatic 160, 3) := by decide +kernel
theorem dX9_sensesOf_20 : decode cX9_sensesOf 20 = .ok (.ifCond .eq 12, 3) := by decide +kernel
theorem dX9_sensesOf_23 : decode cX9_sensesOf 23 = .ok (.aload_n 0, 1) := by decide +kernel
theorem dX9_sensesOf_24 : decode cX9_sensesOf 24 = .ok (.iload_n 3, 1) := by decide +kernel
theorem dX9_sensesOf_25 : decode cX9_sensesOf 25 = .ok (.iconst 1, 1) := by decide +kernel
theorem dX9_sensesOf_26 : decode cX9_sensesOf 26 = .ok (.invokevirtual 104, 3) := by decide +kernel
theorem dX9_sensesOf_29 : decode cX9_sensesOf 29 = .ok (.goto 4, 3) := by decide +kernel
theorem dX9_sensesOf_32 : decode cX9_sensesOf 32 = .ok (.iconst 0, 1) := by decide +kernel
theorem dX9_sensesOf_33 : decode cX9_sensesOf 33 = .ok (.ior, 1) := by decide +kernel
theorem dX9_sensesOf_34 : decode cX9_sensesOf 34 = .ok (.istore_n 2, 1) := by decide +kernel
theorem dX9_sensesOf_35 : decode cX9_sensesOf 35 = .ok (.iinc 3 1, 3) := by decide +kernel
theorem dX9_sensesOf_38 : decode cX9_sensesOf 38 = .ok (.goto (-34), 3) := by decide +kernel
theorem dX9_sensesOf_41 : decode cX9_sensesOf 41 = .ok (.iload_n 2, 1) := by decide +kernel
theorem dX9_sensesOf_42 : decode cX9_sensesOf 42 = .ok (.ireturn, 1) := by decide +kernel
theorem dX9_haveAll_0 : decode cX9_haveAll 0 = .ok (.iload_n 2, 1) := by decide +kernel
theorem dX9_haveAll_1 : decode cX9_haveAll 1 = .ok (.aload_n 0, 1) := by decide +kernel
theorem dX9_haveAll_2 : decode cX9_haveAll 2 = .ok (.iload_n 1, 1) := by decide +kernel
theorem dX9_haveAll_3 : decode cX9_haveAll 3 = .ok (.invokevirtual 177, 3) := by decide +kernel
theorem dX9_haveAll_6 : decode cX9_haveAll 6 = .ok (.iconst (-1), 1) := by decide +kernel
theorem dX9_haveAll_7 : decode cX9_haveAll 7 = .ok (.ixor, 1) := by decide +kernel
theorem dX9_haveAll_8 : decode cX9_haveAll 8 = .ok (.iand, 1) := by decide +kernel
theorem dX9_haveAll_9 : decode cX9_haveAll 9 = .ok (.ifCond .ne 7, 3) := by decide +kernel
theorem dX9_haveAll_12 : decode cX9_haveAll 12 = .ok (.iconst 1, 1) := by decide +kernel
theorem dX9_haveAll_13 : decode cX9_haveAll 13 = .ok (.goto 4, 3) := by decide +kernel
theorem dX9_haveAll_16 : decode cX9_haveAll 16 = .ok (.iconst 0, 1) := by decide +kernel
theorem dX9_haveAll_17 : decode cX9_haveAll 17 = .ok (.ireturn, 1) := by decide +kernel
theorem dX9_areSenses_0 : decode cX9_areSenses 0 = .ok (.iload_n 0, 1) := by decide +kernel
theorem dX9_areSenses_1 : decode cX9_areSenses 1 = .ok (.iconst 0, 1) := by decide +kernel
theorem dX9_areSenses_2 : decode cX9_areSenses 2 = .ok (.sipush 255, 3) := by decide +kernel
theorem dX9_areSenses_5 : decode cX9_areSenses 5 = .ok (.invokestatic 80, 3) := by decide +kernel
theorem dX9_areSenses_8 : decode cX9_areSenses 8 = .ok (.ireturn, 1) := by decide +kernel
theorem dX9_says_0 : decode cX9_says 0 = .ok (.aload_n 0, 1) := by decide +kernel
theorem dX9_says_1 : decode cX9_says 1 = .ok (.iload_n 1, 1) := by decide +kernel
theorem dX9_says_2 : decode cX9_says 2 = .ok (.invokevirtual 143, 3) := by decide +kernel
theorem dX9_says_5 : decode cX9_says 5 = .ok (.ifCond .eq 10, 3) := by decide +kernel
theorem dX9_says_8 : decode cX9_says 8 = .ok (.iload_n 2, 1) := by decide +kernel
theorem dX9_says_9 : decode cX9_says 9 = .ok (.invokestatic 180, 3) := by decide +kernel
theorem dX9_says_12 : decode cX9_says 12 = .ok (.ifCond .ne 6, 3) := by decide +kernel
theorem dX9_says_15 : decode cX9_says 15 = .ok (.ldc 91, 2) := by decide +kernel
theorem dX9_says_17 : decode cX9_says 17 = .ok (.ireturn, 1) := by decide +kernel
theorem dX9_says_18 : decode cX9_says 18 = .ok (.aload_n 0, 1) := by decide +kernel
theorem dX9_says_19 : decode cX9_says 19 = .ok (.aload_n 0, 1) := by decide +kernel
theorem dX9_says_20 : decode cX9_says 20 = .ok (.iload_n 1, 1) := by decide +kernel
theorem dX9_says_21 : decode cX9_says 21 = .ok (.iconst 0, 1) := by decide +kernel
theorem dX9_says_22 : decode cX9_says 22 = .ok (.invokevirtual 146, 3) := by decide +kernel
theorem dX9_says_25 : decode cX9_says 25 = .ok (.iload_n 2, 1) := by decide +kernel
theorem dX9_says_26 : decode cX9_says 26 = .ok (.invokevirtual 183, 3) := by decide +kernel
theorem dX9_says_29 : decode cX9_says 29 = .ok (.ifCond .eq 7, 3) := by decide +kernel
theorem dX9_says_32 : decode cX9_says 32 = .ok (.iconst 1, 1) := by decide +kernel
theorem dX9_says_33 : decode cX9_says 33 = .ok (.goto 4, 3) := by decide +kernel
theorem dX9_says_36 : decode cX9_says 36 = .ok (.iconst 0, 1) := by decide +kernel
theorem dX9_says_37 : decode cX9_says 37 = .ok (.ireturn, 1) := by decide +kernel
theorem dX9_costTogether_0 : decode cX9_costTogether 0 = .ok (.iconst 0, 1) := by decide +kernel
theorem dX9_costTogether_1 : decode cX9_costTogether 1 = .ok (.istore_n 2, 1) := by decide +kernel
theorem dX9_costTogether_2 : decode cX9_costTogether 2 = .ok (.iconst 0, 1) := by decide +kernel
theorem dX9_costTogether_3 : decode cX9_costTogether 3 = .ok (.istore_n 3, 1) := by decide +kernel
theorem dX9_costTogether_4 : decode cX9_costTogether 4 = .ok (.iload_n 3, 1) := by decide +kernel
theorem dX9_costTogether_5 : decode cX9_costTogether 5 = .ok (.aload_n 0, 1) := by decide +kernel
theorem dX9_costTogether_6 : decode cX9_costTogether 6 = .ok (.getfield 9, 3) := by decide +kernel
theorem dX9_costTogether_9 : decode cX9_costTogether 9 = .ok (.iconst 5, 1) := by decide +kernel
theorem dX9_costTogether_10 : decode cX9_costTogether 10 = .ok (.iaload, 1) := by decide +kernel
theorem dX9_costTogether_11 : decode cX9_costTogether 11 = .ok (.if_icmp .ge 30, 3) := by decide +kernel
theorem dX9_costTogether_14 : decode cX9_costTogether 14 = .ok (.iload_n 2, 1) := by decide +kernel
theorem dX9_costTogether_15 : decode cX9_costTogether 15 = .ok (.iload_n 1, 1) := by decide +kernel
theorem dX9_costTogether_16 : decode cX9_costTogether 16 = .ok (.iload_n 3, 1) := by decide +kernel
theorem dX9_costTogether_17 : decode cX9_costTogether 17 = .ok (.invokestatic 160, 3) := by decide +kernel
theorem dX9_costTogether_20 : decode cX9_costTogether 20 = .ok (.ifCond .eq 12, 3) := by decide +kernel
theorem dX9_costTogether_23 : decode cX9_costTogether 23 = .ok (.aload_n 0, 1) := by decide +kernel
theorem dX9_costTogether_24 : decode cX9_costTogether 24 = .ok (.getfield 19, 3) := by decide +kernel
theorem dX9_costTogether_27 : decode cX9_costTogether 27 = .ok (.iload_n 3, 1) := by decide +kernel
theorem dX9_costTogether_28 : decode cX9_costTogether 28 = .ok (.iaload, 1) := by decide +kernel
theorem dX9_costTogether_29 : decode cX9_costTogether 29 = .ok (.goto 4, 3) := by decide +kernel
theorem dX9_costTogether_32 : decode cX9_costTogether 32 = .ok (.iconst 0, 1) := by decide +kernel
theorem dX9_costTogether_33 : decode cX9_costTogether 33 = .ok (.iadd, 1) := by decide +kernel
theorem dX9_costTogether_34 : decode cX9_costTogether 34 = .ok (.istore_n 2, 1) := by decide +kernel
theorem dX9_costTogether_35 : decode cX9_costTogether 35 = .ok (.iinc 3 1, 3) := by decide +kernel
theorem dX9_costTogether_38 : decode cX9_costTogether 38 = .ok (.goto (-34), 3) := by decide +kernel
theorem dX9_costTogether_41 : decode cX9_costTogether 41 = .ok (.iload_n 2, 1) := by decide +kernel
theorem dX9_costTogether_42 : decode cX9_costTogether 42 = .ok (.ireturn, 1) := by decide +kernel
theorem dX9_cheapest_0 : decode cX9_cheapest 0 = .ok (.aload_n 0, 1) := by decide +kernel
theorem dX9_cheapest_1 : decode cX9_cheapest 1 = .ok (.iload_n 1, 1) := by decide +kernel
theorem dX9_cheapest_2 : decode cX9_cheapest 2 = .ok (.invokevirtual 143, 3) := by decide +kernel
theorem dX9_cheapest_5 : decode cX9_cheapest 5 = .ok (.ifCond .eq 19, 3) := by decide +kernel
theorem dX9_cheapest_8 : decode cX9_cheapest 8 = .ok (.iload_n 2, 1) := by decide +kernel
theorem dX9_cheapest_9 : decode cX9_cheapest 9 = .ok (.invokestatic 180, 3) := by decide +kernel
theorem dX9_cheapest_12 : decode cX9_cheapest 12 = .ok (.ifCond .eq 12, 3) := by decide +kernel
theorem dX9_cheapest_15 : decode cX9_cheapest 15 = .ok (.iload_n 3, 1) := by decide +kernel
theorem dX9_cheapest_16 : decode cX9_cheapest 16 = .ok (.iconst 0, 1) := by decide +kernel
theorem dX9_cheapest_17 : decode cX9_cheapest 17 = .ok (.iconst 1, 1) := by decide +kernel
theorem dX9_cheapest_18 : decode cX9_cheapest 18 = .ok (.invokestatic 80, 3) := by decide +kernel
theorem dX9_cheapest_21 : decode cX9_cheapest 21 = .ok (.ifCond .ne 6, 3) := by decide +kernel
theorem dX9_cheapest_24 : decode cX9_cheapest 24 = .ok (.ldc 91, 2) := by decide +kernel
theorem dX9_cheapest_26 : decode cX9_cheapest 26 = .ok (.ireturn, 1) := by decide +kernel
theorem dX9_cheapest_27 : decode cX9_cheapest 27 = .ok (.aload_n 0, 1) := by decide +kernel
theorem dX9_cheapest_28 : decode cX9_cheapest 28 = .ok (.iload_n 1, 1) := by decide +kernel
theorem dX9_cheapest_29 : decode cX9_cheapest 29 = .ok (.iconst 0, 1) := by decide +kernel
theorem dX9_cheapest_30 : decode cX9_cheapest 30 = .ok (.invokevirtual 146, 3) := by decide +kernel
theorem dX9_cheapest_33 : decode cX9_cheapest 33 = .ok (.istore 4, 2) := by decide +kernel
theorem dX9_cheapest_35 : decode cX9_cheapest 35 = .ok (.iconst 0, 1) := by decide +kernel
theorem dX9_cheapest_36 : decode cX9_cheapest 36 = .ok (.istore 5, 2) := by decide +kernel
theorem dX9_cheapest_38 : decode cX9_cheapest 38 = .ok (.iload 5, 2) := by decide +kernel
theorem dX9_cheapest_40 : decode cX9_cheapest 40 = .ok (.aload_n 0, 1) := by decide +kernel
theorem dX9_cheapest_41 : decode cX9_cheapest 41 = .ok (.getfield 9, 3) := by decide +kernel
theorem dX9_cheapest_44 : decode cX9_cheapest 44 = .ok (.iconst 5, 1) := by decide +kernel
theorem dX9_cheapest_45 : decode cX9_cheapest 45 = .ok (.iaload, 1) := by decide +kernel
theorem dX9_cheapest_46 : decode cX9_cheapest 46 = .ok (.if_icmp .ge 22, 3) := by decide +kernel
theorem dX9_cheapest_49 : decode cX9_cheapest 49 = .ok (.aload_n 0, 1) := by decide +kernel
theorem dX9_cheapest_50 : decode cX9_cheapest 50 = .ok (.getfield 19, 3) := by decide +kernel
theorem dX9_cheapest_53 : decode cX9_cheapest 53 = .ok (.iload 5, 2) := by decide +kernel
theorem dX9_cheapest_55 : decode cX9_cheapest 55 = .ok (.aload_n 0, 1) := by decide +kernel
theorem dX9_cheapest_56 : decode cX9_cheapest 56 = .ok (.iload 5, 2) := by decide +kernel
theorem dX9_cheapest_58 : decode cX9_cheapest 58 = .ok (.invokevirtual 128, 3) := by decide +kernel
theorem dX9_cheapest_61 : decode cX9_cheapest 61 = .ok (.iastore, 1) := by decide +kernel
theorem dX9_cheapest_62 : decode cX9_cheapest 62 = .ok (.iinc 5 1, 3) := by decide +kernel
theorem dX9_cheapest_65 : decode cX9_cheapest 65 = .ok (.goto (-27), 3) := by decide +kernel
theorem dX9_cheapest_68 : decode cX9_cheapest 68 = .ok (.iconst (-1), 1) := by decide +kernel
theorem dX9_cheapest_69 : decode cX9_cheapest 69 = .ok (.istore 5, 2) := by decide +kernel
theorem dX9_cheapest_71 : decode cX9_cheapest 71 = .ok (.iconst 0, 1) := by decide +kernel
theorem dX9_cheapest_72 : decode cX9_cheapest 72 = .ok (.istore 6, 2) := by decide +kernel
theorem dX9_cheapest_74 : decode cX9_cheapest 74 = .ok (.iconst 0, 1) := by decide +kernel
theorem dX9_cheapest_75 : decode cX9_cheapest 75 = .ok (.istore 7, 2) := by decide +kernel
theorem dX9_cheapest_77 : decode cX9_cheapest 77 = .ok (.iload 7, 2) := by decide +kernel
theorem dX9_cheapest_79 : decode cX9_cheapest 79 = .ok (.iconst 1, 1) := by decide +kernel
theorem dX9_cheapest_80 : decode cX9_cheapest 80 = .ok (.aload_n 0, 1) := by decide +kernel
theorem dX9_cheapest_81 : decode cX9_cheapest 81 = .ok (.getfield 9, 3) := by decide +kernel
theorem dX9_cheapest_84 : decode cX9_cheapest 84 = .ok (.iconst 5, 1) := by decide +kernel
theorem dX9_cheapest_85 : decode cX9_cheapest 85 = .ok (.iaload, 1) := by decide +kernel
theorem dX9_cheapest_86 : decode cX9_cheapest 86 = .ok (.ishl, 1) := by decide +kernel
theorem dX9_cheapest_87 : decode cX9_cheapest 87 = .ok (.if_icmp .ge 109, 3) := by decide +kernel
theorem dX9_cheapest_90 : decode cX9_cheapest 90 = .ok (.aload_n 0, 1) := by decide +kernel
theorem dX9_cheapest_91 : decode cX9_cheapest 91 = .ok (.iload 7, 2) := by decide +kernel
theorem dX9_cheapest_93 : decode cX9_cheapest 93 = .ok (.iload_n 2, 1) := by decide +kernel
theorem dX9_cheapest_94 : decode cX9_cheapest 94 = .ok (.invokevirtual 183, 3) := by decide +kernel
theorem dX9_cheapest_97 : decode cX9_cheapest 97 = .ok (.ifCond .eq 93, 3) := by decide +kernel
theorem dX9_cheapest_100 : decode cX9_cheapest 100 = .ok (.aload_n 0, 1) := by decide +kernel
theorem dX9_cheapest_101 : decode cX9_cheapest 101 = .ok (.iload 7, 2) := by decide +kernel
theorem dX9_cheapest_103 : decode cX9_cheapest 103 = .ok (.iload 4, 2) := by decide +kernel
theorem dX9_cheapest_105 : decode cX9_cheapest 105 = .ok (.iconst (-1), 1) := by decide +kernel
theorem dX9_cheapest_106 : decode cX9_cheapest 106 = .ok (.ixor, 1) := by decide +kernel
theorem dX9_cheapest_107 : decode cX9_cheapest 107 = .ok (.iand, 1) := by decide +kernel
theorem dX9_cheapest_108 : decode cX9_cheapest 108 = .ok (.invokevirtual 186, 3) := by decide +kernel
theorem dX9_cheapest_111 : decode cX9_cheapest 111 = .ok (.istore 8, 2) := by decide +kernel
theorem dX9_cheapest_113 : decode cX9_cheapest 113 = .ok (.iload 5, 2) := by decide +kernel
theorem dX9_cheapest_115 : decode cX9_cheapest 115 = .ok (.ifCond .lt 40, 3) := by decide +kernel
theorem dX9_cheapest_118 : decode cX9_cheapest 118 = .ok (.iload 8, 2) := by decide +kernel
theorem dX9_cheapest_120 : decode cX9_cheapest 120 = .ok (.iload 6, 2) := by decide +kernel
theorem dX9_cheapest_122 : decode cX9_cheapest 122 = .ok (.if_icmp .lt 33, 3) := by decide +kernel
theorem dX9_cheapest_125 : decode cX9_cheapest 125 = .ok (.iload 8, 2) := by decide +kernel
theorem dX9_cheapest_127 : decode cX9_cheapest 127 = .ok (.iload 6, 2) := by decide +kernel
theorem dX9_cheapest_129 : decode cX9_cheapest 129 = .ok (.if_icmp .ne 30, 3) := by decide +kernel
theorem dX9_cheapest_132 : decode cX9_cheapest 132 = .ok (.iload 7, 2) := by decide +kernel
theorem dX9_cheapest_134 : decode cX9_cheapest 134 = .ok (.iload 4, 2) := by decide +kernel
theorem dX9_cheapest_136 : decode cX9_cheapest 136 = .ok (.iconst (-1), 1) := by decide +kernel
theorem dX9_cheapest_137 : decode cX9_cheapest 137 = .ok (.ixor, 1) := by decide +kernel
theorem dX9_cheapest_138 : decode cX9_cheapest 138 = .ok (.iand, 1) := by decide +kernel
theorem dX9_cheapest_139 : decode cX9_cheapest 139 = .ok (.invokestatic 122, 3) := by decide +kernel
theorem dX9_cheapest_142 : decode cX9_cheapest 142 = .ok (.iload 5, 2) := by decide +kernel
theorem dX9_cheapest_144 : decode cX9_cheapest 144 = .ok (.iload 4, 2) := by decide +kernel
theorem dX9_cheapest_146 : decode cX9_cheapest 146 = .ok (.iconst (-1), 1) := by decide +kernel
theorem dX9_cheapest_147 : decode cX9_cheapest 147 = .ok (.ixor, 1) := by decide +kernel
theorem dX9_cheapest_148 : decode cX9_cheapest 148 = .ok (.iand, 1) := by decide +kernel
theorem dX9_cheapest_149 : decode cX9_cheapest 149 = .ok (.invokestatic 122, 3) := by decide +kernel
theorem dX9_cheapest_152 : decode cX9_cheapest 152 = .ok (.if_icmp .ge 7, 3) := by decide +kernel
theorem dX9_cheapest_155 : decode cX9_cheapest 155 = .ok (.iconst 1, 1) := by decide +kernel
theorem dX9_cheapest_156 : decode cX9_cheapest 156 = .ok (.goto 4, 3) := by decide +kernel
theorem dX9_cheapest_159 : decode cX9_cheapest 159 = .ok (.iconst 0, 1) := by decide +kernel
theorem dX9_cheapest_160 : decode cX9_cheapest 160 = .ok (.istore 9, 2) := by decide +kernel
theorem dX9_cheapest_162 : decode cX9_cheapest 162 = .ok (.iload 9, 2) := by decide +kernel
theorem dX9_cheapest_164 : decode cX9_cheapest 164 = .ok (.ifCond .eq 8, 3) := by decide +kernel
theorem dX9_cheapest_167 : decode cX9_cheapest 167 = .ok (.iload 8, 2) := by decide +kernel
theorem dX9_cheapest_169 : decode cX9_cheapest 169 = .ok (.goto 5, 3) := by decide +kernel
theorem dX9_cheapest_172 : decode cX9_cheapest 172 = .ok (.iload 6, 2) := by decide +kernel
theorem dX9_cheapest_174 : decode cX9_cheapest 174 = .ok (.istore 6, 2) := by decide +kernel
theorem dX9_cheapest_176 : decode cX9_cheapest 176 = .ok (.iload 9, 2) := by decide +kernel
theorem dX9_cheapest_178 : decode cX9_cheapest 178 = .ok (.ifCond .eq 8, 3) := by decide +kernel
theorem dX9_cheapest_181 : decode cX9_cheapest 181 = .ok (.iload 7, 2) := by decide +kernel
theorem dX9_cheapest_183 : decode cX9_cheapest 183 = .ok (.goto 5, 3) := by decide +kernel
theorem dX9_cheapest_186 : decode cX9_cheapest 186 = .ok (.iload 5, 2) := by decide +kernel
theorem dX9_cheapest_188 : decode cX9_cheapest 188 = .ok (.istore 5, 2) := by decide +kernel
theorem dX9_cheapest_190 : decode cX9_cheapest 190 = .ok (.iinc 7 1, 3) := by decide +kernel
theorem dX9_cheapest_193 : decode cX9_cheapest 193 = .ok (.goto (-116), 3) := by decide +kernel
theorem dX9_cheapest_196 : decode cX9_cheapest 196 = .ok (.iload 5, 2) := by decide +kernel
theorem dX9_cheapest_198 : decode cX9_cheapest 198 = .ok (.ifCond .ge 8, 3) := by decide +kernel
theorem dX9_cheapest_201 : decode cX9_cheapest 201 = .ok (.ldc 189, 2) := by decide +kernel
theorem dX9_cheapest_203 : decode cX9_cheapest 203 = .ok (.goto 14, 3) := by decide +kernel
theorem dX9_cheapest_206 : decode cX9_cheapest 206 = .ok (.iload_n 3, 1) := by decide +kernel
theorem dX9_cheapest_207 : decode cX9_cheapest 207 = .ok (.ifCond .ne 8, 3) := by decide +kernel
theorem dX9_cheapest_210 : decode cX9_cheapest 210 = .ok (.iload 6, 2) := by decide +kernel
theorem dX9_cheapest_212 : decode cX9_cheapest 212 = .ok (.goto 5, 3) := by decide +kernel
theorem dX9_cheapest_215 : decode cX9_cheapest 215 = .ok (.iload 5, 2) := by decide +kernel
theorem dX9_cheapest_217 : decode cX9_cheapest 217 = .ok (.ireturn, 1) := by decide +kernel
theorem dX9_fewest_0 : decode cX9_fewest 0 = .ok (.iconst (-1), 1) := by decide +kernel
theorem dX9_fewest_1 : decode cX9_fewest 1 = .ok (.istore 4, 2) := by decide +kernel
theorem dX9_fewest_3 : decode cX9_fewest 3 = .ok (.iconst 0, 1) := by decide +kernel
theorem dX9_fewest_4 : decode cX9_fewest 4 = .ok (.istore 5, 2) := by decide +kernel
theorem dX9_fewest_6 : decode cX9_fewest 6 = .ok (.iload 5, 2) := by decide +kernel
theorem dX9_fewest_8 : decode cX9_fewest 8 = .ok (.iconst 1, 1) := by decide +kernel
theorem dX9_fewest_9 : decode cX9_fewest 9 = .ok (.aload_n 0, 1) := by decide +kernel
theorem dX9_fewest_10 : decode cX9_fewest 10 = .ok (.getfield 9, 3) := by decide +kernel
theorem dX9_fewest_13 : decode cX9_fewest 13 = .ok (.iconst 5, 1) := by decide +kernel
theorem dX9_fewest_14 : decode cX9_fewest 14 = .ok (.iaload, 1) := by decide +kernel
theorem dX9_fewest_15 : decode cX9_fewest 15 = .ok (.ishl, 1) := by decide +kernel
theorem dX9_fewest_16 : decode cX9_fewest 16 = .ok (.if_icmp .ge 52, 3) := by decide +kernel
theorem dX9_fewest_19 : decode cX9_fewest 19 = .ok (.iload 5, 2) := by decide +kernel
theorem dX9_fewest_21 : decode cX9_fewest 21 = .ok (.iload_n 1, 1) := by decide +kernel
theorem dX9_fewest_22 : decode cX9_fewest 22 = .ok (.iconst (-1), 1) := by decide +kernel
theorem dX9_fewest_23 : decode cX9_fewest 23 = .ok (.ixor, 1) := by decide +kernel
theorem dX9_fewest_24 : decode cX9_fewest 24 = .ok (.iand, 1) := by decide +kernel
theorem dX9_fewest_25 : decode cX9_fewest 25 = .ok (.ifCond .ne 37, 3) := by decide +kernel
theorem dX9_fewest_28 : decode cX9_fewest 28 = .ok (.aload_n 0, 1) := by decide +kernel
theorem dX9_fewest_29 : decode cX9_fewest 29 = .ok (.iload 5, 2) := by decide +kernel
theorem dX9_fewest_31 : decode cX9_fewest 31 = .ok (.iload_n 2, 1) := by decide +kernel
theorem dX9_fewest_32 : decode cX9_fewest 32 = .ok (.ior, 1) := by decide +kernel
theorem dX9_fewest_33 : decode cX9_fewest 33 = .ok (.iload_n 3, 1) := by decide +kernel
theorem dX9_fewest_34 : decode cX9_fewest 34 = .ok (.invokevirtual 183, 3) := by decide +kernel
theorem dX9_fewest_37 : decode cX9_fewest 37 = .ok (.ifCond .eq 25, 3) := by decide +kernel
theorem dX9_fewest_40 : decode cX9_fewest 40 = .ok (.iload 4, 2) := by decide +kernel
theorem dX9_fewest_42 : decode cX9_fewest 42 = .ok (.ifCond .lt 16, 3) := by decide +kernel
theorem dX9_fewest_45 : decode cX9_fewest 45 = .ok (.iload 5, 2) := by decide +kernel
theorem dX9_fewest_47 : decode cX9_fewest 47 = .ok (.invokestatic 122, 3) := by decide +kernel
theorem dX9_fewest_50 : decode cX9_fewest 50 = .ok (.iload 4, 2) := by decide +kernel
theorem dX9_fewest_52 : decode cX9_fewest 52 = .ok (.invokestatic 122, 3) := by decide +kernel
theorem dX9_fewest_55 : decode cX9_fewest 55 = .ok (.if_icmp .ge 7, 3) := by decide +kernel
theorem dX9_fewest_58 : decode cX9_fewest 58 = .ok (.iload 5, 2) := by decide +kernel
theorem dX9_fewest_60 : decode cX9_fewest 60 = .ok (.istore 4, 2) := by decide +kernel
theorem dX9_fewest_62 : decode cX9_fewest 62 = .ok (.iinc 5 1, 3) := by decide +kernel
theorem dX9_fewest_65 : decode cX9_fewest 65 = .ok (.goto (-59), 3) := by decide +kernel
theorem dX9_fewest_68 : decode cX9_fewest 68 = .ok (.iload 4, 2) := by decide +kernel
theorem dX9_fewest_70 : decode cX9_fewest 70 = .ok (.ireturn, 1) := by decide +kernel
theorem dX9_shortest_0 : decode cX9_shortest 0 = .ok (.aload_n 0, 1) := by decide +kernel
theorem dX9_shortest_1 : decode cX9_shortest 1 = .ok (.iload_n 1, 1) := by decide +kernel
theorem dX9_shortest_2 : decode cX9_shortest 2 = .ok (.invokevirtual 143, 3) := by decide +kernel
theorem dX9_shortest_5 : decode cX9_shortest 5 = .ok (.ifCond .eq 10, 3) := by decide +kernel
theorem dX9_shortest_8 : decode cX9_shortest 8 = .ok (.iload_n 2, 1) := by decide +kernel
theorem dX9_shortest_9 : decode cX9_shortest 9 = .ok (.invokestatic 180, 3) := by decide +kernel
theorem dX9_shortest_12 : decode cX9_shortest 12 = .ok (.ifCond .ne 6, 3) := by decide +kernel
theorem dX9_shortest_15 : decode cX9_shortest 15 = .ok (.ldc 91, 2) := by decide +kernel
theorem dX9_shortest_17 : decode cX9_shortest 17 = .ok (.ireturn, 1) := by decide +kernel
theorem dX9_shortest_18 : decode cX9_shortest 18 = .ok (.aload_n 0, 1) := by decide +kernel
theorem dX9_shortest_19 : decode cX9_shortest 19 = .ok (.aload_n 0, 1) := by decide +kernel
theorem dX9_shortest_20 : decode cX9_shortest 20 = .ok (.iload_n 1, 1) := by decide +kernel
theorem dX9_shortest_21 : decode cX9_shortest 21 = .ok (.iconst 0, 1) := by decide +kernel
theorem dX9_shortest_22 : decode cX9_shortest 22 = .ok (.invokevirtual 146, 3) := by decide +kernel
theorem dX9_shortest_25 : decode cX9_shortest 25 = .ok (.iconst 0, 1) := by decide +kernel
theorem dX9_shortest_26 : decode cX9_shortest 26 = .ok (.iload_n 2, 1) := by decide +kernel
theorem dX9_shortest_27 : decode cX9_shortest 27 = .ok (.invokevirtual 190, 3) := by decide +kernel
theorem dX9_shortest_30 : decode cX9_shortest 30 = .ok (.istore_n 3, 1) := by decide +kernel
theorem dX9_shortest_31 : decode cX9_shortest 31 = .ok (.iload_n 3, 1) := by decide +kernel
theorem dX9_shortest_32 : decode cX9_shortest 32 = .ok (.ifCond .ge 8, 3) := by decide +kernel
theorem dX9_shortest_35 : decode cX9_shortest 35 = .ok (.ldc 189, 2) := by decide +kernel
theorem dX9_shortest_37 : decode cX9_shortest 37 = .ok (.goto 4, 3) := by decide +kernel
theorem dX9_shortest_40 : decode cX9_shortest 40 = .ok (.iload_n 3, 1) := by decide +kernel
theorem dX9_shortest_41 : decode cX9_shortest 41 = .ok (.ireturn, 1) := by decide +kernel
theorem dX9_nearest_0 : decode cX9_nearest 0 = .ok (.aload_n 0, 1) := by decide +kernel
theorem dX9_nearest_1 : decode cX9_nearest 1 = .ok (.iload_n 1, 1) := by decide +kernel
theorem dX9_nearest_2 : decode cX9_nearest 2 = .ok (.invokevirtual 143, 3) := by decide +kernel
theorem dX9_nearest_5 : decode cX9_nearest 5 = .ok (.ifCond .eq 20, 3) := by decide +kernel
theorem dX9_nearest_8 : decode cX9_nearest 8 = .ok (.iload_n 2, 1) := by decide +kernel
theorem dX9_nearest_9 : decode cX9_nearest 9 = .ok (.invokestatic 180, 3) := by decide +kernel
theorem dX9_nearest_12 : decode cX9_nearest 12 = .ok (.ifCond .eq 13, 3) := by decide +kernel
theorem dX9_nearest_15 : decode cX9_nearest 15 = .ok (.iload_n 3, 1) := by decide +kernel
theorem dX9_nearest_16 : decode cX9_nearest 16 = .ok (.iconst 0, 1) := by decide +kernel
theorem dX9_nearest_17 : decode cX9_nearest 17 = .ok (.bipush 10, 2) := by decide +kernel
theorem dX9_nearest_19 : decode cX9_nearest 19 = .ok (.invokestatic 80, 3) := by decide +kernel
theorem dX9_nearest_22 : decode cX9_nearest 22 = .ok (.ifCond .ne 6, 3) := by decide +kernel
theorem dX9_nearest_25 : decode cX9_nearest 25 = .ok (.ldc 91, 2) := by decide +kernel
theorem dX9_nearest_27 : decode cX9_nearest 27 = .ok (.ireturn, 1) := by decide +kernel
theorem dX9_nearest_28 : decode cX9_nearest 28 = .ok (.iconst 0, 1) := by decide +kernel
theorem dX9_nearest_29 : decode cX9_nearest 29 = .ok (.istore 4, 2) := by decide +kernel
theorem dX9_nearest_31 : decode cX9_nearest 31 = .ok (.iconst 0, 1) := by decide +kernel
theorem dX9_nearest_32 : decode cX9_nearest 32 = .ok (.istore 5, 2) := by decide +kernel
theorem dX9_nearest_34 : decode cX9_nearest 34 = .ok (.iload 5, 2) := by decide +kernel
theorem dX9_nearest_36 : decode cX9_nearest 36 = .ok (.iconst 1, 1) := by decide +kernel
theorem dX9_nearest_37 : decode cX9_nearest 37 = .ok (.aload_n 0, 1) := by decide +kernel
theorem dX9_nearest_38 : decode cX9_nearest 38 = .ok (.getfield 9, 3) := by decide +kernel
theorem dX9_nearest_41 : decode cX9_nearest 41 = .ok (.iconst 5, 1) := by decide +kernel
theorem dX9_nearest_42 : decode cX9_nearest 42 = .ok (.iaload, 1) := by decide +kernel
theorem dX9_nearest_43 : decode cX9_nearest 43 = .ok (.ishl, 1) := by decide +kernel
theorem dX9_nearest_44 : decode cX9_nearest 44 = .ok (.if_icmp .ge 50, 3) := by decide +kernel
theorem dX9_nearest_47 : decode cX9_nearest 47 = .ok (.iload 5, 2) := by decide +kernel
theorem dX9_nearest_49 : decode cX9_nearest 49 = .ok (.aload_n 0, 1) := by decide +kernel
theorem dX9_nearest_50 : decode cX9_nearest 50 = .ok (.iload_n 1, 1) := by decide +kernel
theorem dX9_nearest_51 : decode cX9_nearest 51 = .ok (.iconst 0, 1) := by decide +kernel
theorem dX9_nearest_52 : decode cX9_nearest 52 = .ok (.invokevirtual 146, 3) := by decide +kernel
theorem dX9_nearest_55 : decode cX9_nearest 55 = .ok (.iconst (-1), 1) := by decide +kernel
theorem dX9_nearest_56 : decode cX9_nearest 56 = .ok (.ixor, 1) := by decide +kernel
theorem dX9_nearest_57 : decode cX9_nearest 57 = .ok (.iand, 1) := by decide +kernel
theorem dX9_nearest_58 : decode cX9_nearest 58 = .ok (.ifCond .ne 30, 3) := by decide +kernel
theorem dX9_nearest_61 : decode cX9_nearest 61 = .ok (.iload 5, 2) := by decide +kernel
theorem dX9_nearest_63 : decode cX9_nearest 63 = .ok (.invokestatic 122, 3) := by decide +kernel
theorem dX9_nearest_66 : decode cX9_nearest 66 = .ok (.iload_n 3, 1) := by decide +kernel
theorem dX9_nearest_67 : decode cX9_nearest 67 = .ok (.if_icmp .gt 21, 3) := by decide +kernel
theorem dX9_nearest_70 : decode cX9_nearest 70 = .ok (.iload 4, 2) := by decide +kernel
theorem dX9_nearest_72 : decode cX9_nearest 72 = .ok (.aload_n 0, 1) := by decide +kernel
theorem dX9_nearest_73 : decode cX9_nearest 73 = .ok (.iload 5, 2) := by decide +kernel
theorem dX9_nearest_75 : decode cX9_nearest 75 = .ok (.invokevirtual 177, 3) := by decide +kernel
theorem dX9_nearest_78 : decode cX9_nearest 78 = .ok (.iload_n 2, 1) := by decide +kernel
theorem dX9_nearest_79 : decode cX9_nearest 79 = .ok (.iand, 1) := by decide +kernel
theorem dX9_nearest_80 : decode cX9_nearest 80 = .ok (.invokestatic 122, 3) := by decide +kernel
theorem dX9_nearest_83 : decode cX9_nearest 83 = .ok (.invokestatic 116, 3) := by decide +kernel
theorem dX9_nearest_86 : decode cX9_nearest 86 = .ok (.istore 4, 2) := by decide +kernel
theorem dX9_nearest_88 : decode cX9_nearest 88 = .ok (.iinc 5 1, 3) := by decide +kernel
theorem dX9_nearest_91 : decode cX9_nearest 91 = .ok (.goto (-57), 3) := by decide +kernel
theorem dX9_nearest_94 : decode cX9_nearest 94 = .ok (.iload 4, 2) := by decide +kernel
theorem dX9_nearest_96 : decode cX9_nearest 96 = .ok (.ireturn, 1) := by decide +kernel
theorem dX9_treaty_0 : decode cX9_treaty 0 = .ok (.iload_n 1, 1) := by decide +kernel
theorem dX9_treaty_1 : decode cX9_treaty 1 = .ok (.invokestatic 180, 3) := by decide +kernel
theorem dX9_treaty_4 : decode cX9_treaty 4 = .ok (.ifCond .ne 6, 3) := by decide +kernel
theorem dX9_treaty_7 : decode cX9_treaty 7 = .ok (.ldc 91, 2) := by decide +kernel
theorem dX9_treaty_9 : decode cX9_treaty 9 = .ok (.ireturn, 1) := by decide +kernel
theorem dX9_treaty_10 : decode cX9_treaty 10 = .ok (.iconst 0, 1) := by decide +kernel
theorem dX9_treaty_11 : decode cX9_treaty 11 = .ok (.istore_n 2, 1) := by decide +kernel
theorem dX9_treaty_12 : decode cX9_treaty 12 = .ok (.iconst 0, 1) := by decide +kernel
theorem dX9_treaty_13 : decode cX9_treaty 13 = .ok (.istore_n 3, 1) := by decide +kernel
theorem dX9_treaty_14 : decode cX9_treaty 14 = .ok (.iload_n 3, 1) := by decide +kernel
theorem dX9_treaty_15 : decode cX9_treaty 15 = .ok (.aload_n 0, 1) := by decide +kernel
theorem dX9_treaty_16 : decode cX9_treaty 16 = .ok (.getfield 9, 3) := by decide +kernel
theorem dX9_treaty_19 : decode cX9_treaty 19 = .ok (.bipush 6, 2) := by decide +kernel
theorem dX9_treaty_21 : decode cX9_treaty 21 = .ok (.iaload, 1) := by decide +kernel
theorem dX9_treaty_22 : decode cX9_treaty 22 = .ok (.if_icmp .ge 18, 3) := by decide +kernel
theorem dX9_treaty_25 : decode cX9_treaty 25 = .ok (.iload_n 2, 1) := by decide +kernel
theorem dX9_treaty_26 : decode cX9_treaty 26 = .ok (.aload_n 0, 1) := by decide +kernel
theorem dX9_treaty_27 : decode cX9_treaty 27 = .ok (.iload_n 3, 1) := by decide +kernel
theorem dX9_treaty_28 : decode cX9_treaty 28 = .ok (.iconst 0, 1) := by decide +kernel
theorem dX9_treaty_29 : decode cX9_treaty 29 = .ok (.invokevirtual 146, 3) := by decide +kernel
theorem dX9_treaty_32 : decode cX9_treaty 32 = .ok (.ior, 1) := by decide +kernel
theorem dX9_treaty_33 : decode cX9_treaty 33 = .ok (.istore_n 2, 1) := by decide +kernel
theorem dX9_treaty_34 : decode cX9_treaty 34 = .ok (.iinc 3 1, 3) := by decide +kernel
theorem dX9_treaty_37 : decode cX9_treaty 37 = .ok (.goto (-23), 3) := by decide +kernel
theorem dX9_treaty_40 : decode cX9_treaty 40 = .ok (.aload_n 0, 1) := by decide +kernel
theorem dX9_treaty_41 : decode cX9_treaty 41 = .ok (.iconst 1, 1) := by decide +kernel
theorem dX9_treaty_42 : decode cX9_treaty 42 = .ok (.aload_n 0, 1) := by decide +kernel
theorem dX9_treaty_43 : decode cX9_treaty 43 = .ok (.getfield 9, 3) := by decide +kernel
theorem dX9_treaty_46 : decode cX9_treaty 46 = .ok (.iconst 5, 1) := by decide +kernel
theorem dX9_treaty_47 : decode cX9_treaty 47 = .ok (.iaload, 1) := by decide +kernel
theorem dX9_treaty_48 : decode cX9_treaty 48 = .ok (.ishl, 1) := by decide +kernel
theorem dX9_treaty_49 : decode cX9_treaty 49 = .ok (.iconst 1, 1) := by decide +kernel
theorem dX9_treaty_50 : decode cX9_treaty 50 = .ok (.isub, 1) := by decide +kernel
theorem dX9_treaty_51 : decode cX9_treaty 51 = .ok (.iload_n 2, 1) := by decide +kernel
theorem dX9_treaty_52 : decode cX9_treaty 52 = .ok (.iconst (-1), 1) := by decide +kernel
theorem dX9_treaty_53 : decode cX9_treaty 53 = .ok (.ixor, 1) := by decide +kernel
theorem dX9_treaty_54 : decode cX9_treaty 54 = .ok (.iand, 1) := by decide +kernel
theorem dX9_treaty_55 : decode cX9_treaty 55 = .ok (.iload_n 2, 1) := by decide +kernel
theorem dX9_treaty_56 : decode cX9_treaty 56 = .ok (.iload_n 1, 1) := by decide +kernel
theorem dX9_treaty_57 : decode cX9_treaty 57 = .ok (.invokevirtual 190, 3) := by decide +kernel
theorem dX9_treaty_60 : decode cX9_treaty 60 = .ok (.istore_n 3, 1) := by decide +kernel
theorem dX9_treaty_61 : decode cX9_treaty 61 = .ok (.iload_n 3, 1) := by decide +kernel
theorem dX9_treaty_62 : decode cX9_treaty 62 = .ok (.ifCond .ge 8, 3) := by decide +kernel
theorem dX9_treaty_65 : decode cX9_treaty 65 = .ok (.ldc 189, 2) := by decide +kernel
theorem dX9_treaty_67 : decode cX9_treaty 67 = .ok (.goto 4, 3) := by decide +kernel
theorem dX9_treaty_70 : decode cX9_treaty 70 = .ok (.iload_n 3, 1) := by decide +kernel
theorem dX9_treaty_71 : decode cX9_treaty 71 = .ok (.ireturn, 1) := by decide +kernel
theorem dX9_behind_0 : decode cX9_behind 0 = .ok (.aload_n 0, 1) := by decide +kernel
theorem dX9_behind_1 : decode cX9_behind 1 = .ok (.iload_n 1, 1) := by decide +kernel
theorem dX9_behind_2 : decode cX9_behind 2 = .ok (.invokevirtual 143, 3) := by decide +kernel
theorem dX9_behind_5 : decode cX9_behind 5 = .ok (.ifCond .eq 22, 3) := by decide +kernel
theorem dX9_behind_8 : decode cX9_behind 8 = .ok (.iload_n 2, 1) := by decide +kernel
theorem dX9_behind_9 : decode cX9_behind 9 = .ok (.iconst 0, 1) := by decide +kernel
theorem dX9_behind_10 : decode cX9_behind 10 = .ok (.bipush 60, 2) := by decide +kernel
theorem dX9_behind_12 : decode cX9_behind 12 = .ok (.invokestatic 80, 3) := by decide +kernel
theorem dX9_behind_15 : decode cX9_behind 15 = .ok (.ifCond .eq 12, 3) := by decide +kernel
theorem dX9_behind_18 : decode cX9_behind 18 = .ok (.iload_n 3, 1) := by decide +kernel
theorem dX9_behind_19 : decode cX9_behind 19 = .ok (.iconst 0, 1) := by decide +kernel
theorem dX9_behind_20 : decode cX9_behind 20 = .ok (.iconst 2, 1) := by decide +kernel
theorem dX9_behind_21 : decode cX9_behind 21 = .ok (.invokestatic 80, 3) := by decide +kernel
theorem dX9_behind_24 : decode cX9_behind 24 = .ok (.ifCond .ne 6, 3) := by decide +kernel
theorem dX9_behind_27 : decode cX9_behind 27 = .ok (.ldc 91, 2) := by decide +kernel
theorem dX9_behind_29 : decode cX9_behind 29 = .ok (.ireturn, 1) := by decide +kernel
theorem dX9_behind_30 : decode cX9_behind 30 = .ok (.aload_n 0, 1) := by decide +kernel
theorem dX9_behind_31 : decode cX9_behind 31 = .ok (.getfield 9, 3) := by decide +kernel
theorem dX9_behind_34 : decode cX9_behind 34 = .ok (.aload_n 0, 1) := by decide +kernel
theorem dX9_behind_35 : decode cX9_behind 35 = .ok (.getfield 16, 3) := by decide +kernel
theorem dX9_behind_38 : decode cX9_behind 38 = .ok (.bipush 80, 2) := by decide +kernel
theorem dX9_behind_40 : decode cX9_behind 40 = .ok (.invokestatic 76, 3) := by decide +kernel
theorem dX9_behind_43 : decode cX9_behind 43 = .ok (.aload_n 0, 1) := by decide +kernel
theorem dX9_behind_44 : decode cX9_behind 44 = .ok (.iload_n 2, 1) := by decide +kernel
theorem dX9_behind_45 : decode cX9_behind 45 = .ok (.invokevirtual 173, 3) := by decide +kernel
theorem dX9_behind_48 : decode cX9_behind 48 = .ok (.aload_n 0, 1) := by decide +kernel
theorem dX9_behind_49 : decode cX9_behind 49 = .ok (.iload_n 3, 1) := by decide +kernel
theorem dX9_behind_50 : decode cX9_behind 50 = .ok (.ifCond .ne 10, 3) := by decide +kernel
theorem dX9_behind_53 : decode cX9_behind 53 = .ok (.aload_n 0, 1) := by decide +kernel
theorem dX9_behind_54 : decode cX9_behind 54 = .ok (.invokevirtual 193, 3) := by decide +kernel
theorem dX9_behind_57 : decode cX9_behind 57 = .ok (.goto 23, 3) := by decide +kernel
theorem dX9_behind_60 : decode cX9_behind 60 = .ok (.iload_n 3, 1) := by decide +kernel
theorem dX9_behind_61 : decode cX9_behind 61 = .ok (.iconst 1, 1) := by decide +kernel
theorem dX9_behind_62 : decode cX9_behind 62 = .ok (.if_icmp .ne 12, 3) := by decide +kernel
theorem dX9_behind_65 : decode cX9_behind 65 = .ok (.aload_n 0, 1) := by decide +kernel
theorem dX9_behind_66 : decode cX9_behind 66 = .ok (.iload_n 1, 1) := by decide +kernel
theorem dX9_behind_67 : decode cX9_behind 67 = .ok (.iconst 0, 1) := by decide +kernel
theorem dX9_behind_68 : decode cX9_behind 68 = .ok (.invokevirtual 146, 3) := by decide +kernel
theorem dX9_behind_71 : decode cX9_behind 71 = .ok (.goto 9, 3) := by decide +kernel
theorem dX9_behind_74 : decode cX9_behind 74 = .ok (.aload_n 0, 1) := by decide +kernel
theorem dX9_behind_75 : decode cX9_behind 75 = .ok (.getfield 9, 3) := by decide +kernel
theorem dX9_behind_78 : decode cX9_behind 78 = .ok (.iconst 4, 1) := by decide +kernel
theorem dX9_behind_79 : decode cX9_behind 79 = .ok (.iaload, 1) := by decide +kernel
theorem dX9_behind_80 : decode cX9_behind 80 = .ok (.invokevirtual 196, 3) := by decide +kernel
theorem dX9_behind_83 : decode cX9_behind 83 = .ok (.ireturn, 1) := by decide +kernel
theorem dX9_turnsBy_0 : decode cX9_turnsBy 0 = .ok (.aload_n 0, 1) := by decide +kernel
theorem dX9_turnsBy_1 : decode cX9_turnsBy 1 = .ok (.getfield 9, 3) := by decide +kernel
theorem dX9_turnsBy_4 : decode cX9_turnsBy 4 = .ok (.aload_n 0, 1) := by decide +kernel
theorem dX9_turnsBy_5 : decode cX9_turnsBy 5 = .ok (.getfield 16, 3) := by decide +kernel
theorem dX9_turnsBy_8 : decode cX9_turnsBy 8 = .ok (.bipush 80, 2) := by decide +kernel
theorem dX9_turnsBy_10 : decode cX9_turnsBy 10 = .ok (.invokestatic 76, 3) := by decide +kernel
theorem dX9_turnsBy_13 : decode cX9_turnsBy 13 = .ok (.iconst 0, 1) := by decide +kernel
theorem dX9_turnsBy_14 : decode cX9_turnsBy 14 = .ok (.istore_n 1, 1) := by decide +kernel
theorem dX9_turnsBy_15 : decode cX9_turnsBy 15 = .ok (.iload_n 1, 1) := by decide +kernel
theorem dX9_turnsBy_16 : decode cX9_turnsBy 16 = .ok (.sipush 200, 3) := by decide +kernel
theorem dX9_turnsBy_19 : decode cX9_turnsBy 19 = .ok (.if_icmp .gt 21, 3) := by decide +kernel
theorem dX9_turnsBy_22 : decode cX9_turnsBy 22 = .ok (.aload_n 0, 1) := by decide +kernel
theorem dX9_turnsBy_23 : decode cX9_turnsBy 23 = .ok (.invokevirtual 156, 3) := by decide +kernel
theorem dX9_turnsBy_26 : decode cX9_turnsBy 26 = .ok (.ifCond .ne 14, 3) := by decide +kernel
theorem dX9_turnsBy_29 : decode cX9_turnsBy 29 = .ok (.aload_n 0, 1) := by decide +kernel
theorem dX9_turnsBy_30 : decode cX9_turnsBy 30 = .ok (.iconst 1, 1) := by decide +kernel
theorem dX9_turnsBy_31 : decode cX9_turnsBy 31 = .ok (.invokevirtual 173, 3) := by decide +kernel
theorem dX9_turnsBy_34 : decode cX9_turnsBy 34 = .ok (.iinc 1 1, 3) := by decide +kernel
theorem dX9_turnsBy_37 : decode cX9_turnsBy 37 = .ok (.goto (-22), 3) := by decide +kernel
theorem dX9_turnsBy_40 : decode cX9_turnsBy 40 = .ok (.aload_n 0, 1) := by decide +kernel
theorem dX9_turnsBy_41 : decode cX9_turnsBy 41 = .ok (.iload_n 1, 1) := by decide +kernel
theorem dX9_turnsBy_42 : decode cX9_turnsBy 42 = .ok (.sipush 200, 3) := by decide +kernel
theorem dX9_turnsBy_45 : decode cX9_turnsBy 45 = .ok (.if_icmp .le 8, 3) := by decide +kernel
theorem dX9_turnsBy_48 : decode cX9_turnsBy 48 = .ok (.ldc 189, 2) := by decide +kernel
theorem dX9_turnsBy_50 : decode cX9_turnsBy 50 = .ok (.goto 4, 3) := by decide +kernel
theorem dX9_turnsBy_53 : decode cX9_turnsBy 53 = .ok (.iload_n 1, 1) := by decide +kernel
theorem dX9_turnsBy_54 : decode cX9_turnsBy 54 = .ok (.invokevirtual 196, 3) := by decide +kernel
theorem dX9_turnsBy_57 : decode cX9_turnsBy 57 = .ok (.ireturn, 1) := by decide +kernel
theorem dX9_quota_0 : decode cX9_quota 0 = .ok (.iload_n 1, 1) := by decide +kernel
theorem dX9_quota_1 : decode cX9_quota 1 = .ok (.invokestatic 199, 3) := by decide +kernel
theorem dX9_quota_4 : decode cX9_quota 4 = .ok (.ifCond .eq 20, 3) := by decide +kernel
theorem dX9_quota_7 : decode cX9_quota 7 = .ok (.aload_n 0, 1) := by decide +kernel
theorem dX9_quota_8 : decode cX9_quota 8 = .ok (.iload_n 2, 1) := by decide +kernel
theorem dX9_quota_9 : decode cX9_quota 9 = .ok (.invokevirtual 125, 3) := by decide +kernel
theorem dX9_quota_12 : decode cX9_quota 12 = .ok (.ifCond .eq 12, 3) := by decide +kernel
theorem dX9_quota_15 : decode cX9_quota 15 = .ok (.iload_n 3, 1) := by decide +kernel
theorem dX9_quota_16 : decode cX9_quota 16 = .ok (.iconst 0, 1) := by decide +kernel
theorem dX9_quota_17 : decode cX9_quota 17 = .ok (.iconst 1, 1) := by decide +kernel
theorem dX9_quota_18 : decode cX9_quota 18 = .ok (.invokestatic 80, 3) := by decide +kernel
theorem dX9_quota_21 : decode cX9_quota 21 = .ok (.ifCond .ne 6, 3) := by decide +kernel
theorem dX9_quota_24 : decode cX9_quota 24 = .ok (.ldc 91, 2) := by decide +kernel
theorem dX9_quota_26 : decode cX9_quota 26 = .ok (.ireturn, 1) := by decide +kernel
theorem dX9_quota_27 : decode cX9_quota 27 = .ok (.aload_n 0, 1) := by decide +kernel
theorem dX9_quota_28 : decode cX9_quota 28 = .ok (.getfield 55, 3) := by decide +kernel
theorem dX9_quota_31 : decode cX9_quota 31 = .ok (.iload_n 1, 1) := by decide +kernel
theorem dX9_quota_32 : decode cX9_quota 32 = .ok (.iaload, 1) := by decide +kernel
theorem dX9_quota_33 : decode cX9_quota 33 = .ok (.ifCond .ge 6, 3) := by decide +kernel
theorem dX9_quota_36 : decode cX9_quota 36 = .ok (.ldc 202, 2) := by decide +kernel
theorem dX9_quota_38 : decode cX9_quota 38 = .ok (.ireturn, 1) := by decide +kernel
theorem dX9_quota_39 : decode cX9_quota 39 = .ok (.aload_n 0, 1) := by decide +kernel
theorem dX9_quota_40 : decode cX9_quota 40 = .ok (.getfield 9, 3) := by decide +kernel
theorem dX9_quota_43 : decode cX9_quota 43 = .ok (.aload_n 0, 1) := by decide +kernel
theorem dX9_quota_44 : decode cX9_quota 44 = .ok (.getfield 16, 3) := by decide +kernel
theorem dX9_quota_47 : decode cX9_quota 47 = .ok (.bipush 80, 2) := by decide +kernel
theorem dX9_quota_49 : decode cX9_quota 49 = .ok (.invokestatic 76, 3) := by decide +kernel
theorem dX9_quota_52 : decode cX9_quota 52 = .ok (.iconst 0, 1) := by decide +kernel
theorem dX9_quota_53 : decode cX9_quota 53 = .ok (.istore 4, 2) := by decide +kernel
theorem dX9_quota_55 : decode cX9_quota 55 = .ok (.ldc2_w 203, 3) := by decide +kernel
theorem dX9_quota_58 : decode cX9_quota 58 = .ok (.lstore 5, 2) := by decide +kernel
theorem dX9_quota_60 : decode cX9_quota 60 = .ok (.iconst 0, 1) := by decide +kernel
theorem dX9_quota_61 : decode cX9_quota 61 = .ok (.istore 7, 2) := by decide +kernel
theorem dX9_quota_63 : decode cX9_quota 63 = .ok (.iload 7, 2) := by decide +kernel
theorem dX9_quota_65 : decode cX9_quota 65 = .ok (.bipush 20, 2) := by decide +kernel
theorem dX9_quota_67 : decode cX9_quota 67 = .ok (.if_icmp .gt 127, 3) := by decide +kernel
theorem dX9_quota_70 : decode cX9_quota 70 = .ok (.aload_n 0, 1) := by decide +kernel
theorem dX9_quota_71 : decode cX9_quota 71 = .ok (.getfield 9, 3) := by decide +kernel
theorem dX9_quota_74 : decode cX9_quota 74 = .ok (.bipush 8, 2) := by decide +kernel
theorem dX9_quota_76 : decode cX9_quota 76 = .ok (.bipush 6, 2) := by decide +kernel
theorem dX9_quota_78 : decode cX9_quota 78 = .ok (.iload_n 2, 1) := by decide +kernel
theorem dX9_quota_79 : decode cX9_quota 79 = .ok (.imul, 1) := by decide +kernel
theorem dX9_quota_80 : decode cX9_quota 80 = .ok (.iadd, 1) := by decide +kernel
theorem dX9_quota_81 : decode cX9_quota 81 = .ok (.iconst 3, 1) := by decide +kernel
theorem dX9_quota_82 : decode cX9_quota 82 = .ok (.iadd, 1) := by decide +kernel
theorem dX9_quota_83 : decode cX9_quota 83 = .ok (.iload 7, 2) := by decide +kernel
theorem dX9_quota_85 : decode cX9_quota 85 = .ok (.iastore, 1) := by decide +kernel
theorem dX9_quota_86 : decode cX9_quota 86 = .ok (.lconst 0, 1) := by decide +kernel
theorem dX9_quota_87 : decode cX9_quota 87 = .ok (.lstore 8, 2) := by decide +kernel
theorem dX9_quota_89 : decode cX9_quota 89 = .ok (.iconst 0, 1) := by decide +kernel
theorem dX9_quota_90 : decode cX9_quota 90 = .ok (.istore 10, 2) := by decide +kernel
theorem dX9_quota_92 : decode cX9_quota 92 = .ok (.iload 10, 2) := by decide +kernel
theorem dX9_quota_94 : decode cX9_quota 94 = .ok (.aload_n 0, 1) := by decide +kernel
theorem dX9_quota_95 : decode cX9_quota 95 = .ok (.getfield 58, 3) := by decide +kernel
theorem dX9_quota_98 : decode cX9_quota 98 = .ok (.iload_n 1, 1) := by decide +kernel
theorem dX9_quota_99 : decode cX9_quota 99 = .ok (.iaload, 1) := by decide +kernel
theorem dX9_quota_100 : decode cX9_quota 100 = .ok (.if_icmp .ge 57, 3) := by decide +kernel
theorem dX9_quota_103 : decode cX9_quota 103 = .ok (.aload_n 0, 1) := by decide +kernel
theorem dX9_quota_104 : decode cX9_quota 104 = .ok (.getfield 61, 3) := by decide +kernel
theorem dX9_quota_107 : decode cX9_quota 107 = .ok (.bipush 24, 2) := by decide +kernel
theorem dX9_quota_109 : decode cX9_quota 109 = .ok (.iload_n 1, 1) := by decide +kernel
theorem dX9_quota_110 : decode cX9_quota 110 = .ok (.imul, 1) := by decide +kernel
theorem dX9_quota_111 : decode cX9_quota 111 = .ok (.iload 10, 2) := by decide +kernel
theorem dX9_quota_113 : decode cX9_quota 113 = .ok (.iadd, 1) := by decide +kernel
theorem dX9_quota_114 : decode cX9_quota 114 = .ok (.iaload, 1) := by decide +kernel
theorem dX9_quota_115 : decode cX9_quota 115 = .ok (.istore 11, 2) := by decide +kernel
theorem dX9_quota_117 : decode cX9_quota 117 = .ok (.lload 8, 2) := by decide +kernel
theorem dX9_quota_119 : decode cX9_quota 119 = .ok (.iload 11, 2) := by decide +kernel
theorem dX9_quota_121 : decode cX9_quota 121 = .ok (.ldc 189, 2) := by decide +kernel
theorem dX9_quota_123 : decode cX9_quota 123 = .ok (.if_icmp .ne 7, 3) := by decide +kernel
theorem dX9_quota_126 : decode cX9_quota 126 = .ok (.lconst 0, 1) := by decide +kernel
theorem dX9_quota_127 : decode cX9_quota 127 = .ok (.goto 16, 3) := by decide +kernel
theorem dX9_quota_130 : decode cX9_quota 130 = .ok (.aload_n 0, 1) := by decide +kernel
theorem dX9_quota_131 : decode cX9_quota 131 = .ok (.iload_n 2, 1) := by decide +kernel
theorem dX9_quota_132 : decode cX9_quota 132 = .ok (.iconst 4, 1) := by decide +kernel
theorem dX9_quota_133 : decode cX9_quota 133 = .ok (.invokevirtual 104, 3) := by decide +kernel
theorem dX9_quota_136 : decode cX9_quota 136 = .ok (.iload 11, 2) := by decide +kernel
theorem dX9_quota_138 : decode cX9_quota 138 = .ok (.isub, 1) := by decide +kernel
theorem dX9_quota_139 : decode cX9_quota 139 = .ok (.invokestatic 205, 3) := by decide +kernel
theorem dX9_quota_142 : decode cX9_quota 142 = .ok (.i2l, 1) := by decide +kernel
theorem dX9_quota_143 : decode cX9_quota 143 = .ok (.ladd, 1) := by decide +kernel
theorem dX9_quota_144 : decode cX9_quota 144 = .ok (.lstore 8, 2) := by decide +kernel
theorem dX9_quota_146 : decode cX9_quota 146 = .ok (.aload_n 0, 1) := by decide +kernel
theorem dX9_quota_147 : decode cX9_quota 147 = .ok (.iconst 1, 1) := by decide +kernel
theorem dX9_quota_148 : decode cX9_quota 148 = .ok (.invokevirtual 173, 3) := by decide +kernel
theorem dX9_quota_151 : decode cX9_quota 151 = .ok (.iinc 10 1, 3) := by decide +kernel
theorem dX9_quota_154 : decode cX9_quota 154 = .ok (.goto (-62), 3) := by decide +kernel
theorem dX9_quota_157 : decode cX9_quota 157 = .ok (.lload 5, 2) := by decide +kernel
theorem dX9_quota_159 : decode cX9_quota 159 = .ok (.lconst 0, 1) := by decide +kernel
theorem dX9_quota_160 : decode cX9_quota 160 = .ok (.lcmp, 1) := by decide +kernel
theorem dX9_quota_161 : decode cX9_quota 161 = .ok (.ifCond .lt 11, 3) := by decide +kernel
theorem dX9_quota_164 : decode cX9_quota 164 = .ok (.lload 8, 2) := by decide +kernel
theorem dX9_quota_166 : decode cX9_quota 166 = .ok (.lload 5, 2) := by decide +kernel
theorem dX9_quota_168 : decode cX9_quota 168 = .ok (.lcmp, 1) := by decide +kernel
theorem dX9_quota_169 : decode cX9_quota 169 = .ok (.ifCond .ge 11, 3) := by decide +kernel
theorem dX9_quota_172 : decode cX9_quota 172 = .ok (.lload 8, 2) := by decide +kernel
theorem dX9_quota_174 : decode cX9_quota 174 = .ok (.lstore 5, 2) := by decide +kernel
theorem dX9_quota_176 : decode cX9_quota 176 = .ok (.iload 7, 2) := by decide +kernel
theorem dX9_quota_178 : decode cX9_quota 178 = .ok (.istore 4, 2) := by decide +kernel
theorem dX9_quota_180 : decode cX9_quota 180 = .ok (.aload_n 0, 1) := by decide +kernel
theorem dX9_quota_181 : decode cX9_quota 181 = .ok (.iload 4, 2) := by decide +kernel
theorem dX9_quota_183 : decode cX9_quota 183 = .ok (.invokevirtual 196, 3) := by decide +kernel
theorem dX9_quota_186 : decode cX9_quota 186 = .ok (.istore 4, 2) := by decide +kernel
theorem dX9_quota_188 : decode cX9_quota 188 = .ok (.iinc 7 1, 3) := by decide +kernel
theorem dX9_quota_191 : decode cX9_quota 191 = .ok (.goto (-128), 3) := by decide +kernel
theorem dX9_quota_194 : decode cX9_quota 194 = .ok (.iload_n 3, 1) := by decide +kernel
theorem dX9_quota_195 : decode cX9_quota 195 = .ok (.ifCond .ne 8, 3) := by decide +kernel
theorem dX9_quota_198 : decode cX9_quota 198 = .ok (.iload 4, 2) := by decide +kernel
theorem dX9_quota_200 : decode cX9_quota 200 = .ok (.goto 6, 3) := by decide +kernel
theorem dX9_quota_203 : decode cX9_quota 203 = .ok (.lload 5, 2) := by decide +kernel
theorem dX9_quota_205 : decode cX9_quota 205 = .ok (.l2i, 1) := by decide +kernel
theorem dX9_quota_206 : decode cX9_quota 206 = .ok (.ireturn, 1) := by decide +kernel
theorem dX9_bill_0 : decode cX9_bill 0 = .ok (.aload_n 0, 1) := by decide +kernel
theorem dX9_bill_1 : decode cX9_bill 1 = .ok (.iload_n 1, 1) := by decide +kernel
theorem dX9_bill_2 : decode cX9_bill 2 = .ok (.invokevirtual 143, 3) := by decide +kernel
theorem dX9_bill_5 : decode cX9_bill 5 = .ok (.ifCond .ne 6, 3) := by decide +kernel
theorem dX9_bill_8 : decode cX9_bill 8 = .ok (.ldc 91, 2) := by decide +kernel
theorem dX9_bill_10 : decode cX9_bill 10 = .ok (.ireturn, 1) := by decide +kernel
theorem dX9_bill_11 : decode cX9_bill 11 = .ok (.aload_n 0, 1) := by decide +kernel
theorem dX9_bill_12 : decode cX9_bill 12 = .ok (.iconst 1, 1) := by decide +kernel
theorem dX9_bill_13 : decode cX9_bill 13 = .ok (.invokevirtual 101, 3) := by decide +kernel
theorem dX9_bill_16 : decode cX9_bill 16 = .ok (.istore_n 2, 1) := by decide +kernel
theorem dX9_bill_17 : decode cX9_bill 17 = .ok (.aload_n 0, 1) := by decide +kernel
theorem dX9_bill_18 : decode cX9_bill 18 = .ok (.getfield 49, 3) := by decide +kernel
theorem dX9_bill_21 : decode cX9_bill 21 = .ok (.iconst 0, 1) := by decide +kernel
theorem dX9_bill_22 : decode cX9_bill 22 = .ok (.aload_n 0, 1) := by decide +kernel
theorem dX9_bill_23 : decode cX9_bill 23 = .ok (.iload_n 1, 1) := by decide +kernel
theorem dX9_bill_24 : decode cX9_bill 24 = .ok (.iconst 1, 1) := by decide +kernel
theorem dX9_bill_25 : decode cX9_bill 25 = .ok (.invokevirtual 146, 3) := by decide +kernel
theorem dX9_bill_28 : decode cX9_bill 28 = .ok (.iastore, 1) := by decide +kernel
theorem dX9_bill_29 : decode cX9_bill 29 = .ok (.aload_n 0, 1) := by decide +kernel
theorem dX9_bill_30 : decode cX9_bill 30 = .ok (.getfield 49, 3) := by decide +kernel
theorem dX9_bill_33 : decode cX9_bill 33 = .ok (.iconst 1, 1) := by decide +kernel
theorem dX9_bill_34 : decode cX9_bill 34 = .ok (.aload_n 0, 1) := by decide +kernel
theorem dX9_bill_35 : decode cX9_bill 35 = .ok (.iload_n 1, 1) := by decide +kernel
theorem dX9_bill_36 : decode cX9_bill 36 = .ok (.iconst 0, 1) := by decide +kernel
theorem dX9_bill_37 : decode cX9_bill 37 = .ok (.invokevirtual 146, 3) := by decide +kernel
theorem dX9_bill_40 : decode cX9_bill 40 = .ok (.invokestatic 122, 3) := by decide +kernel
theorem dX9_bill_43 : decode cX9_bill 43 = .ok (.iastore, 1) := by decide +kernel
theorem dX9_bill_44 : decode cX9_bill 44 = .ok (.iload_n 2, 1) := by decide +kernel
theorem dX9_bill_45 : decode cX9_bill 45 = .ok (.ifCond .ge 12, 3) := by decide +kernel
theorem dX9_bill_48 : decode cX9_bill 48 = .ok (.aload_n 0, 1) := by decide +kernel
theorem dX9_bill_49 : decode cX9_bill 49 = .ok (.getfield 49, 3) := by decide +kernel
theorem dX9_bill_52 : decode cX9_bill 52 = .ok (.iconst 0, 1) := by decide +kernel
theorem dX9_bill_53 : decode cX9_bill 53 = .ok (.iaload, 1) := by decide +kernel
theorem dX9_bill_54 : decode cX9_bill 54 = .ok (.goto 8, 3) := by decide +kernel
theorem dX9_bill_57 : decode cX9_bill 57 = .ok (.aload_n 0, 1) := by decide +kernel
theorem dX9_bill_58 : decode cX9_bill 58 = .ok (.iload_n 2, 1) := by decide +kernel
theorem dX9_bill_59 : decode cX9_bill 59 = .ok (.invokevirtual 108, 3) := by decide +kernel
theorem dX9_bill_62 : decode cX9_bill 62 = .ok (.ireturn, 1) := by decide +kernel
theorem dX9_fine_0 : decode cX9_fine 0 = .ok (.aload_n 0, 1) := by decide +kernel
theorem dX9_fine_1 : decode cX9_fine 1 = .ok (.iconst 2, 1) := by decide +kernel
theorem dX9_fine_2 : decode cX9_fine 2 = .ok (.invokevirtual 101, 3) := by decide +kernel
theorem dX9_fine_5 : decode cX9_fine 5 = .ok (.istore_n 1, 1) := by decide +kernel
theorem dX9_fine_6 : decode cX9_fine 6 = .ok (.aload_n 0, 1) := by decide +kernel
theorem dX9_fine_7 : decode cX9_fine 7 = .ok (.getfield 49, 3) := by decide +kernel
theorem dX9_fine_10 : decode cX9_fine 10 = .ok (.iconst 0, 1) := by decide +kernel
theorem dX9_fine_11 : decode cX9_fine 11 = .ok (.aload_n 0, 1) := by decide +kernel
theorem dX9_fine_12 : decode cX9_fine 12 = .ok (.invokevirtual 169, 3) := by decide +kernel
theorem dX9_fine_15 : decode cX9_fine 15 = .ok (.iastore, 1) := by decide +kernel
theorem dX9_fine_16 : decode cX9_fine 16 = .ok (.aload_n 0, 1) := by decide +kernel
theorem dX9_fine_17 : decode cX9_fine 17 = .ok (.getfield 49, 3) := by decide +kernel
theorem dX9_fine_20 : decode cX9_fine 20 = .ok (.iconst 1, 1) := by decide +kernel
theorem dX9_fine_21 : decode cX9_fine 21 = .ok (.aload_n 0, 1) := by decide +kernel
theorem dX9_fine_22 : decode cX9_fine 22 = .ok (.getfield 9, 3) := by decide +kernel
theorem dX9_fine_25 : decode cX9_fine 25 = .ok (.iconst 4, 1) := by decide +kernel
theorem dX9_fine_26 : decode cX9_fine 26 = .ok (.iaload, 1) := by decide +kernel
theorem dX9_fine_27 : decode cX9_fine 27 = .ok (.invokestatic 122, 3) := by decide +kernel
theorem dX9_fine_30 : decode cX9_fine 30 = .ok (.iastore, 1) := by decide +kernel
theorem dX9_fine_31 : decode cX9_fine 31 = .ok (.iload_n 1, 1) := by decide +kernel
theorem dX9_fine_32 : decode cX9_fine 32 = .ok (.ifCond .ge 12, 3) := by decide +kernel
theorem dX9_fine_35 : decode cX9_fine 35 = .ok (.aload_n 0, 1) := by decide +kernel
theorem dX9_fine_36 : decode cX9_fine 36 = .ok (.getfield 49, 3) := by decide +kernel
theorem dX9_fine_39 : decode cX9_fine 39 = .ok (.iconst 0, 1) := by decide +kernel
theorem dX9_fine_40 : decode cX9_fine 40 = .ok (.iaload, 1) := by decide +kernel
theorem dX9_fine_41 : decode cX9_fine 41 = .ok (.goto 8, 3) := by decide +kernel
theorem dX9_fine_44 : decode cX9_fine 44 = .ok (.aload_n 0, 1) := by decide +kernel
theorem dX9_fine_45 : decode cX9_fine 45 = .ok (.iload_n 1, 1) := by decide +kernel
theorem dX9_fine_46 : decode cX9_fine 46 = .ok (.invokevirtual 108, 3) := by decide +kernel
theorem dX9_fine_49 : decode cX9_fine 49 = .ok (.ireturn, 1) := by decide +kernel
theorem dX9_lays_0 : decode cX9_lays 0 = .ok (.bipush 24, 2) := by decide +kernel
theorem dX9_lays_2 : decode cX9_lays 2 = .ok (.istore_n 2, 1) := by decide +kernel
theorem dX9_lays_3 : decode cX9_lays 3 = .ok (.iload_n 2, 1) := by decide +kernel
theorem dX9_lays_4 : decode cX9_lays 4 = .ok (.ifCond .lt 35, 3) := by decide +kernel
theorem dX9_lays_7 : decode cX9_lays 7 = .ok (.aload_n 0, 1) := by decide +kernel
theorem dX9_lays_8 : decode cX9_lays 8 = .ok (.getfield 22, 3) := by decide +kernel
theorem dX9_lays_11 : decode cX9_lays 11 = .ok (.aload_n 0, 1) := by decide +kernel
theorem dX9_lays_12 : decode cX9_lays 12 = .ok (.getfield 208, 3) := by decide +kernel
theorem dX9_lays_15 : decode cX9_lays 15 = .ok (.iload_n 1, 1) := by decide +kernel
theorem dX9_lays_16 : decode cX9_lays 16 = .ok (.iload_n 2, 1) := by decide +kernel
theorem dX9_lays_17 : decode cX9_lays 17 = .ok (.ishr, 1) := by decide +kernel
theorem dX9_lays_18 : decode cX9_lays 18 = .ok (.sipush 255, 3) := by decide +kernel
theorem dX9_lays_21 : decode cX9_lays 21 = .ok (.iand, 1) := by decide +kernel
theorem dX9_lays_22 : decode cX9_lays 22 = .ok (.iastore, 1) := by decide +kernel
theorem dX9_lays_23 : decode cX9_lays 23 = .ok (.aload_n 0, 1) := by decide +kernel
theorem dX9_lays_24 : decode cX9_lays 24 = .ok (.dup, 1) := by decide +kernel
theorem dX9_lays_25 : decode cX9_lays 25 = .ok (.getfield 208, 3) := by decide +kernel
theorem dX9_lays_28 : decode cX9_lays 28 = .ok (.iconst 1, 1) := by decide +kernel
theorem dX9_lays_29 : decode cX9_lays 29 = .ok (.iadd, 1) := by decide +kernel
theorem dX9_lays_30 : decode cX9_lays 30 = .ok (.putfield 208, 3) := by decide +kernel
theorem dX9_lays_33 : decode cX9_lays 33 = .ok (.iinc 2 (-8), 3) := by decide +kernel
theorem dX9_lays_36 : decode cX9_lays 36 = .ok (.goto (-33), 3) := by decide +kernel
theorem dX9_lays_39 : decode cX9_lays 39 = .ok (.return_, 1) := by decide +kernel
theorem dX9_feed_0 : decode cX9_feed 0 = .ok (.aload_n 0, 1) := by decide +kernel
theorem dX9_feed_1 : decode cX9_feed 1 = .ok (.getfield 208, 3) := by decide +kernel
theorem dX9_feed_4 : decode cX9_feed 4 = .ok (.bipush 12, 2) := by decide +kernel
theorem dX9_feed_6 : decode cX9_feed 6 = .ok (.iadd, 1) := by decide +kernel
theorem dX9_feed_7 : decode cX9_feed 7 = .ok (.bipush 96, 2) := by decide +kernel
theorem dX9_feed_9 : decode cX9_feed 9 = .ok (.if_icmp .le 6, 3) := by decide +kernel
theorem dX9_feed_12 : decode cX9_feed 12 = .ok (.ldc 92, 2) := by decide +kernel
theorem dX9_feed_14 : decode cX9_feed 14 = .ok (.ireturn, 1) := by decide +kernel
theorem dX9_feed_15 : decode cX9_feed 15 = .ok (.aload_n 0, 1) := by decide +kernel
theorem dX9_feed_16 : decode cX9_feed 16 = .ok (.iload_n 1, 1) := by decide +kernel
theorem dX9_feed_17 : decode cX9_feed 17 = .ok (.invokevirtual 212, 3) := by decide +kernel
theorem dX9_feed_20 : decode cX9_feed 20 = .ok (.aload_n 0, 1) := by decide +kernel
theorem dX9_feed_21 : decode cX9_feed 21 = .ok (.iload_n 2, 1) := by decide +kernel
theorem dX9_feed_22 : decode cX9_feed 22 = .ok (.invokevirtual 212, 3) := by decide +kernel
theorem dX9_feed_25 : decode cX9_feed 25 = .ok (.aload_n 0, 1) := by decide +kernel
theorem dX9_feed_26 : decode cX9_feed 26 = .ok (.iload_n 3, 1) := by decide +kernel
theorem dX9_feed_27 : decode cX9_feed 27 = .ok (.invokevirtual 212, 3) := by decide +kernel
theorem dX9_feed_30 : decode cX9_feed 30 = .ok (.aload_n 0, 1) := by decide +kernel
theorem dX9_feed_31 : decode cX9_feed 31 = .ok (.getfield 208, 3) := by decide +kernel
theorem dX9_feed_34 : decode cX9_feed 34 = .ok (.ireturn, 1) := by decide +kernel
theorem dX9_trim_0 : decode cX9_trim 0 = .ok (.iload_n 1, 1) := by decide +kernel
theorem dX9_trim_1 : decode cX9_trim 1 = .ok (.iconst 0, 1) := by decide +kernel
theorem dX9_trim_2 : decode cX9_trim 2 = .ok (.aload_n 0, 1) := by decide +kernel
theorem dX9_trim_3 : decode cX9_trim 3 = .ok (.getfield 208, 3) := by decide +kernel
theorem dX9_trim_6 : decode cX9_trim 6 = .ok (.invokestatic 80, 3) := by decide +kernel
theorem dX9_trim_9 : decode cX9_trim 9 = .ok (.ifCond .ne 6, 3) := by decide +kernel
theorem dX9_trim_12 : decode cX9_trim 12 = .ok (.ldc 91, 2) := by decide +kernel
theorem dX9_trim_14 : decode cX9_trim 14 = .ok (.ireturn, 1) := by decide +kernel
theorem dX9_trim_15 : decode cX9_trim 15 = .ok (.aload_n 0, 1) := by decide +kernel
theorem dX9_trim_16 : decode cX9_trim 16 = .ok (.iload_n 1, 1) := by decide +kernel
theorem dX9_trim_17 : decode cX9_trim 17 = .ok (.putfield 208, 3) := by decide +kernel
theorem dX9_trim_20 : decode cX9_trim 20 = .ok (.iload_n 1, 1) := by decide +kernel
theorem dX9_trim_21 : decode cX9_trim 21 = .ok (.ireturn, 1) := by decide +kernel
theorem dX9_byteAt_0 : decode cX9_byteAt 0 = .ok (.iload_n 1, 1) := by decide +kernel
theorem dX9_byteAt_1 : decode cX9_byteAt 1 = .ok (.aload_n 0, 1) := by decide +kernel
theorem dX9_byteAt_2 : decode cX9_byteAt 2 = .ok (.getfield 208, 3) := by decide +kernel
theorem dX9_byteAt_5 : decode cX9_byteAt 5 = .ok (.if_icmp .ge 12, 3) := by decide +kernel
theorem dX9_byteAt_8 : decode cX9_byteAt 8 = .ok (.aload_n 0, 1) := by decide +kernel
theorem dX9_byteAt_9 : decode cX9_byteAt 9 = .ok (.getfield 22, 3) := by decide +kernel
theorem dX9_byteAt_12 : decode cX9_byteAt 12 = .ok (.iload_n 1, 1) := by decide +kernel
theorem dX9_byteAt_13 : decode cX9_byteAt 13 = .ok (.iaload, 1) := by decide +kernel
theorem dX9_byteAt_14 : decode cX9_byteAt 14 = .ok (.goto 4, 3) := by decide +kernel
theorem dX9_byteAt_17 : decode cX9_byteAt 17 = .ok (.iconst (-1), 1) := by decide +kernel
theorem dX9_byteAt_18 : decode cX9_byteAt 18 = .ok (.ireturn, 1) := by decide +kernel
theorem dX9_sortOf_0 : decode cX9_sortOf 0 = .ok (.iload_n 0, 1) := by decide +kernel
theorem dX9_sortOf_1 : decode cX9_sortOf 1 = .ok (.ifCond .ge 7, 3) := by decide +kernel
theorem dX9_sortOf_4 : decode cX9_sortOf 4 = .ok (.iconst 0, 1) := by decide +kernel
theorem dX9_sortOf_5 : decode cX9_sortOf 5 = .ok (.goto 34, 3) := by decide +kernel
theorem dX9_sortOf_8 : decode cX9_sortOf 8 = .ok (.iload_n 0, 1) := by decide +kernel
theorem dX9_sortOf_9 : decode cX9_sortOf 9 = .ok (.bipush 97, 2) := by decide +kernel
theorem dX9_sortOf_11 : decode cX9_sortOf 11 = .ok (.bipush 122, 2) := by decide +kernel
theorem dX9_sortOf_13 : decode cX9_sortOf 13 = .ok (.invokestatic 80, 3) := by decide +kernel
theorem dX9_sortOf_16 : decode cX9_sortOf 16 = .ok (.ifCond .eq 7, 3) := by decide +kernel
theorem dX9_sortOf_19 : decode cX9_sortOf 19 = .ok (.iconst 1, 1) := by decide +kernel
theorem dX9_sortOf_20 : decode cX9_sortOf 20 = .ok (.goto 19, 3) := by decide +kernel
theorem dX9_sortOf_23 : decode cX9_sortOf 23 = .ok (.iload_n 0, 1) := by decide +kernel
theorem dX9_sortOf_24 : decode cX9_sortOf 24 = .ok (.bipush 48, 2) := by decide +kernel
theorem dX9_sortOf_26 : decode cX9_sortOf 26 = .ok (.bipush 57, 2) := by decide +kernel
theorem dX9_sortOf_28 : decode cX9_sortOf 28 = .ok (.invokestatic 80, 3) := by decide +kernel
theorem dX9_sortOf_31 : decode cX9_sortOf 31 = .ok (.ifCond .eq 7, 3) := by decide +kernel
theorem dX9_sortOf_34 : decode cX9_sortOf 34 = .ok (.iconst 2, 1) := by decide +kernel
theorem dX9_sortOf_35 : decode cX9_sortOf 35 = .ok (.goto 4, 3) := by decide +kernel
theorem dX9_sortOf_38 : decode cX9_sortOf 38 = .ok (.iconst 3, 1) := by decide +kernel
theorem dX9_sortOf_39 : decode cX9_sortOf 39 = .ok (.ireturn, 1) := by decide +kernel
theorem dX9_isRow_0 : decode cX9_isRow 0 = .ok (.iload_n 0, 1) := by decide +kernel
theorem dX9_isRow_1 : decode cX9_isRow 1 = .ok (.iconst 1, 1) := by decide +kernel
theorem dX9_isRow_2 : decode cX9_isRow 2 = .ok (.if_icmp .eq 8, 3) := by decide +kernel
theorem dX9_isRow_5 : decode cX9_isRow 5 = .ok (.iload_n 0, 1) := by decide +kernel
theorem dX9_isRow_6 : decode cX9_isRow 6 = .ok (.iconst 2, 1) := by decide +kernel
theorem dX9_isRow_7 : decode cX9_isRow 7 = .ok (.if_icmp .ne 7, 3) := by decide +kernel
theorem dX9_isRow_10 : decode cX9_isRow 10 = .ok (.iconst 1, 1) := by decide +kernel
theorem dX9_isRow_11 : decode cX9_isRow 11 = .ok (.goto 4, 3) := by decide +kernel
theorem dX9_isRow_14 : decode cX9_isRow 14 = .ok (.iconst 0, 1) := by decide +kernel
theorem dX9_isRow_15 : decode cX9_isRow 15 = .ok (.ireturn, 1) := by decide +kernel
theorem dX9_next_0 : decode cX9_next 0 = .ok (.aload_n 0, 1) := by decide +kernel
theorem dX9_next_1 : decode cX9_next 1 = .ok (.getfield 215, 3) := by decide +kernel
theorem dX9_next_4 : decode cX9_next 4 = .ok (.istore_n 1, 1) := by decide +kernel
theorem dX9_next_5 : decode cX9_next 5 = .ok (.aload_n 0, 1) := by decide +kernel
theorem dX9_next_6 : decode cX9_next 6 = .ok (.aload_n 0, 1) := by decide +kernel
theorem dX9_next_7 : decode cX9_next 7 = .ok (.getfield 218, 3) := by decide +kernel
theorem dX9_next_10 : decode cX9_next 10 = .ok (.putfield 221, 3) := by decide +kernel
theorem dX9_next_13 : decode cX9_next 13 = .ok (.aload_n 0, 1) := by decide +kernel
theorem dX9_next_14 : decode cX9_next 14 = .ok (.aload_n 0, 1) := by decide +kernel
theorem dX9_next_15 : decode cX9_next 15 = .ok (.getfield 221, 3) := by decide +kernel
theorem dX9_next_18 : decode cX9_next 18 = .ok (.invokevirtual 224, 3) := by decide +kernel
theorem dX9_next_21 : decode cX9_next 21 = .ok (.bipush 32, 2) := by decide +kernel
theorem dX9_next_23 : decode cX9_next 23 = .ok (.if_icmp .ne 16, 3) := by decide +kernel
theorem dX9_next_26 : decode cX9_next 26 = .ok (.aload_n 0, 1) := by decide +kernel
theorem dX9_next_27 : decode cX9_next 27 = .ok (.dup, 1) := by decide +kernel
theorem dX9_next_28 : decode cX9_next 28 = .ok (.getfield 221, 3) := by decide +kernel
theorem dX9_next_31 : decode cX9_next 31 = .ok (.iconst 1, 1) := by decide +kernel
theorem dX9_next_32 : decode cX9_next 32 = .ok (.iadd, 1) := by decide +kernel
theorem dX9_next_33 : decode cX9_next 33 = .ok (.putfield 221, 3) := by decide +kernel
theorem dX9_next_36 : decode cX9_next 36 = .ok (.goto (-23), 3) := by decide +kernel
theorem dX9_next_39 : decode cX9_next 39 = .ok (.aload_n 0, 1) := by decide +kernel
theorem dX9_next_40 : decode cX9_next 40 = .ok (.getfield 221, 3) := by decide +kernel
theorem dX9_next_43 : decode cX9_next 43 = .ok (.aload_n 0, 1) := by decide +kernel
theorem dX9_next_44 : decode cX9_next 44 = .ok (.getfield 218, 3) := by decide +kernel
theorem dX9_next_47 : decode cX9_next 47 = .ok (.if_icmp .ne 14, 3) := by decide +kernel
theorem dX9_next_50 : decode cX9_next 50 = .ok (.iload_n 1, 1) := by decide +kernel
theorem dX9_next_51 : decode cX9_next 51 = .ok (.invokestatic 227, 3) := by decide +kernel
theorem dX9_next_54 : decode cX9_next 54 = .ok (.ifCond .eq 7, 3) := by decide +kernel
theorem dX9_next_57 : decode cX9_next 57 = .ok (.iconst 1, 1) := by decide +kernel
theorem dX9_next_58 : decode cX9_next 58 = .ok (.goto 4, 3) := by decide +kernel
theorem dX9_next_61 : decode cX9_next 61 = .ok (.iconst 0, 1) := by decide +kernel
theorem dX9_next_62 : decode cX9_next 62 = .ok (.istore_n 2, 1) := by decide +kernel
theorem dX9_next_63 : decode cX9_next 63 = .ok (.aload_n 0, 1) := by decide +kernel
theorem dX9_next_64 : decode cX9_next 64 = .ok (.aload_n 0, 1) := by decide +kernel
theorem dX9_next_65 : decode cX9_next 65 = .ok (.aload_n 0, 1) := by decide +kernel
theorem dX9_next_66 : decode cX9_next 66 = .ok (.getfield 221, 3) := by decide +kernel
theorem dX9_next_69 : decode cX9_next 69 = .ok (.invokevirtual 224, 3) := by decide +kernel
theorem dX9_next_72 : decode cX9_next 72 = .ok (.invokestatic 230, 3) := by decide +kernel
theorem dX9_next_75 : decode cX9_next 75 = .ok (.putfield 215, 3) := by decide +kernel
theorem dX9_next_78 : decode cX9_next 78 = .ok (.aload_n 0, 1) := by decide +kernel
theorem dX9_next_79 : decode cX9_next 79 = .ok (.aload_n 0, 1) := by decide +kernel
theorem dX9_next_80 : decode cX9_next 80 = .ok (.getfield 215, 3) := by decide +kernel
theorem dX9_next_83 : decode cX9_next 83 = .ok (.ifCond .ne 10, 3) := by decide +kernel
theorem dX9_next_86 : decode cX9_next 86 = .ok (.aload_n 0, 1) := by decide +kernel
theorem dX9_next_87 : decode cX9_next 87 = .ok (.getfield 221, 3) := by decide +kernel
theorem dX9_next_90 : decode cX9_next 90 = .ok (.goto 9, 3) := by decide +kernel
theorem dX9_next_93 : decode cX9_next 93 = .ok (.aload_n 0, 1) := by decide +kernel
theorem dX9_next_94 : decode cX9_next 94 = .ok (.getfield 221, 3) := by decide +kernel
theorem dX9_next_97 : decode cX9_next 97 = .ok (.iconst 1, 1) := by decide +kernel
theorem dX9_next_98 : decode cX9_next 98 = .ok (.iadd, 1) := by decide +kernel
theorem dX9_next_99 : decode cX9_next 99 = .ok (.putfield 218, 3) := by decide +kernel
theorem dX9_next_102 : decode cX9_next 102 = .ok (.aload_n 0, 1) := by decide +kernel
theorem dX9_next_103 : decode cX9_next 103 = .ok (.getfield 215, 3) := by decide +kernel
theorem dX9_next_106 : decode cX9_next 106 = .ok (.invokestatic 227, 3) := by decide +kernel
theorem dX9_next_109 : decode cX9_next 109 = .ok (.ifCond .eq 34, 3) := by decide +kernel
theorem dX9_next_112 : decode cX9_next 112 = .ok (.aload_n 0, 1) := by decide +kernel
theorem dX9_next_113 : decode cX9_next 113 = .ok (.aload_n 0, 1) := by decide +kernel
theorem dX9_next_114 : decode cX9_next 114 = .ok (.getfield 218, 3) := by decide +kernel
theorem dX9_next_117 : decode cX9_next 117 = .ok (.invokevirtual 224, 3) := by decide +kernel
theorem dX9_next_120 : decode cX9_next 120 = .ok (.invokestatic 230, 3) := by decide +kernel
theorem dX9_next_123 : decode cX9_next 123 = .ok (.aload_n 0, 1) := by decide +kernel
theorem dX9_next_124 : decode cX9_next 124 = .ok (.getfield 215, 3) := by decide +kernel
theorem dX9_next_127 : decode cX9_next 127 = .ok (.if_icmp .ne 16, 3) := by decide +kernel
theorem dX9_next_130 : decode cX9_next 130 = .ok (.aload_n 0, 1) := by decide +kernel
theorem dX9_next_131 : decode cX9_next 131 = .ok (.dup, 1) := by decide +kernel
theorem dX9_next_132 : decode cX9_next 132 = .ok (.getfield 218, 3) := by decide +kernel
theorem dX9_next_135 : decode cX9_next 135 = .ok (.iconst 1, 1) := by decide +kernel
theorem dX9_next_136 : decode cX9_next 136 = .ok (.iadd, 1) := by decide +kernel
theorem dX9_next_137 : decode cX9_next 137 = .ok (.putfield 218, 3) := by decide +kernel
theorem dX9_next_140 : decode cX9_next 140 = .ok (.goto (-38), 3) := by decide +kernel
theorem dX9_next_143 : decode cX9_next 143 = .ok (.aload_n 0, 1) := by decide +kernel
theorem dX9_next_144 : decode cX9_next 144 = .ok (.iload_n 2, 1) := by decide +kernel
theorem dX9_next_145 : decode cX9_next 145 = .ok (.ifCond .eq 17, 3) := by decide +kernel
theorem dX9_next_148 : decode cX9_next 148 = .ok (.aload_n 0, 1) := by decide +kernel
theorem dX9_next_149 : decode cX9_next 149 = .ok (.getfield 215, 3) := by decide +kernel
theorem dX9_next_152 : decode cX9_next 152 = .ok (.invokestatic 227, 3) := by decide +kernel
theorem dX9_next_155 : decode cX9_next 155 = .ok (.ifCond .eq 7, 3) := by decide +kernel
theorem dX9_next_158 : decode cX9_next 158 = .ok (.iconst 4, 1) := by decide +kernel
theorem dX9_next_159 : decode cX9_next 159 = .ok (.goto 7, 3) := by decide +kernel
theorem dX9_next_162 : decode cX9_next 162 = .ok (.aload_n 0, 1) := by decide +kernel
theorem dX9_next_163 : decode cX9_next 163 = .ok (.getfield 215, 3) := by decide +kernel
theorem dX9_next_166 : decode cX9_next 166 = .ok (.putfield 215, 3) := by decide +kernel
theorem dX9_next_169 : decode cX9_next 169 = .ok (.return_, 1) := by decide +kernel
theorem dX9_must_0 : decode cX9_must 0 = .ok (.aload_n 0, 1) := by decide +kernel
theorem dX9_must_1 : decode cX9_must 1 = .ok (.aload_n 0, 1) := by decide +kernel
theorem dX9_must_2 : decode cX9_must 2 = .ok (.getfield 233, 3) := by decide +kernel
theorem dX9_must_5 : decode cX9_must 5 = .ok (.ifCond .ne 7, 3) := by decide +kernel
theorem dX9_must_8 : decode cX9_must 8 = .ok (.iload_n 1, 1) := by decide +kernel
theorem dX9_must_9 : decode cX9_must 9 = .ok (.ifCond .ne 7, 3) := by decide +kernel
theorem dX9_must_12 : decode cX9_must 12 = .ok (.iconst 1, 1) := by decide +kernel
theorem dX9_must_13 : decode cX9_must 13 = .ok (.goto 4, 3) := by decide +kernel
theorem dX9_must_16 : decode cX9_must 16 = .ok (.iconst 0, 1) := by decide +kernel
theorem dX9_must_17 : decode cX9_must 17 = .ok (.putfield 233, 3) := by decide +kernel
theorem dX9_must_20 : decode cX9_must 20 = .ok (.aload_n 0, 1) := by decide +kernel
theorem dX9_must_21 : decode cX9_must 21 = .ok (.getfield 233, 3) := by decide +kernel
theorem dX9_must_24 : decode cX9_must 24 = .ok (.ifCond .ne 7, 3) := by decide +kernel
theorem dX9_must_27 : decode cX9_must 27 = .ok (.aload_n 0, 1) := by decide +kernel
theorem dX9_must_28 : decode cX9_must 28 = .ok (.invokevirtual 237, 3) := by decide +kernel
theorem dX9_must_31 : decode cX9_must 31 = .ok (.return_, 1) := by decide +kernel
theorem dX9_isSign_0 : decode cX9_isSign 0 = .ok (.aload_n 0, 1) := by decide +kernel
theorem dX9_isSign_1 : decode cX9_isSign 1 = .ok (.getfield 233, 3) := by decide +kernel
theorem dX9_isSign_4 : decode cX9_isSign 4 = .ok (.ifCond .ne 28, 3) := by decide +kernel
theorem dX9_isSign_7 : decode cX9_isSign 7 = .ok (.aload_n 0, 1) := by decide +kernel
theorem dX9_isSign_8 : decode cX9_isSign 8 = .ok (.getfield 215, 3) := by decide +kernel
theorem dX9_isSign_11 : decode cX9_isSign 11 = .ok (.iconst 3, 1) := by decide +kernel
theorem dX9_isSign_12 : decode cX9_isSign 12 = .ok (.if_icmp .ne 20, 3) := by decide +kernel
theorem dX9_isSign_15 : decode cX9_isSign 15 = .ok (.aload_n 0, 1) := by decide +kernel
theorem dX9_isSign_16 : decode cX9_isSign 16 = .ok (.getfield 22, 3) := by decide +kernel
theorem dX9_isSign_19 : decode cX9_isSign 19 = .ok (.aload_n 0, 1) := by decide +kernel
theorem dX9_isSign_20 : decode cX9_isSign 20 = .ok (.getfield 221, 3) := by decide +kernel
theorem dX9_isSign_23 : decode cX9_isSign 23 = .ok (.iaload, 1) := by decide +kernel
theorem dX9_isSign_24 : decode cX9_isSign 24 = .ok (.iload_n 1, 1) := by decide +kernel
theorem dX9_isSign_25 : decode cX9_isSign 25 = .ok (.if_icmp .ne 7, 3) := by decide +kernel
theorem dX9_isSign_28 : decode cX9_isSign 28 = .ok (.iconst 1, 1) := by decide +kernel
theorem dX9_isSign_29 : decode cX9_isSign 29 = .ok (.goto 4, 3) := by decide +kernel
theorem dX9_isSign_32 : decode cX9_isSign 32 = .ok (.iconst 0, 1) := by decide +kernel
theorem dX9_isSign_33 : decode cX9_isSign 33 = .ok (.ireturn, 1) := by decide +kernel
theorem dX9_step_0 : decode cX9_step 0 = .ok (.aload_n 0, 1) := by decide +kernel
theorem dX9_step_1 : decode cX9_step 1 = .ok (.getfield 233, 3) := by decide +kernel
theorem dX9_step_4 : decode cX9_step 4 = .ok (.ifCond .ne 23, 3) := by decide +kernel
theorem dX9_step_7 : decode cX9_step 7 = .ok (.aload_n 0, 1) := by decide +kernel
theorem dX9_step_8 : decode cX9_step 8 = .ok (.getfield 46, 3) := by decide +kernel
theorem dX9_step_11 : decode cX9_step 11 = .ok (.aload_n 0, 1) := by decide +kernel
theorem dX9_step_12 : decode cX9_step 12 = .ok (.getfield 240, 3) := by decide +kernel
theorem dX9_step_15 : decode cX9_step 15 = .ok (.iload_n 1, 1) := by decide +kernel
theorem dX9_step_16 : decode cX9_step 16 = .ok (.iastore, 1) := by decide +kernel
theorem dX9_step_17 : decode cX9_step 17 = .ok (.aload_n 0, 1) := by decide +kernel
theorem dX9_step_18 : decode cX9_step 18 = .ok (.dup, 1) := by decide +kernel
theorem dX9_step_19 : decode cX9_step 19 = .ok (.getfield 240, 3) := by decide +kernel
theorem dX9_step_22 : decode cX9_step 22 = .ok (.iconst 1, 1) := by decide +kernel
theorem dX9_step_23 : decode cX9_step 23 = .ok (.iadd, 1) := by decide +kernel
theorem dX9_step_24 : decode cX9_step 24 = .ok (.putfield 240, 3) := by decide +kernel
theorem dX9_step_27 : decode cX9_step 27 = .ok (.return_, 1) := by decide +kernel
theorem dX9_spells_0 : decode cX9_spells 0 = .ok (.aload_n 0, 1) := by decide +kernel
theorem dX9_spells_1 : decode cX9_spells 1 = .ok (.getfield 215, 3) := by decide +kernel
theorem dX9_spells_4 : decode cX9_spells 4 = .ok (.iconst 1, 1) := by decide +kernel
theorem dX9_spells_5 : decode cX9_spells 5 = .ok (.if_icmp .ne 23, 3) := by decide +kernel
theorem dX9_spells_8 : decode cX9_spells 8 = .ok (.aload_n 0, 1) := by decide +kernel
theorem dX9_spells_9 : decode cX9_spells 9 = .ok (.getfield 218, 3) := by decide +kernel
theorem dX9_spells_12 : decode cX9_spells 12 = .ok (.aload_n 0, 1) := by decide +kernel
theorem dX9_spells_13 : decode cX9_spells 13 = .ok (.getfield 221, 3) := by decide +kernel
theorem dX9_spells_16 : decode cX9_spells 16 = .ok (.isub, 1) := by decide +kernel
theorem dX9_spells_17 : decode cX9_spells 17 = .ok (.aload_n 1, 1) := by decide +kernel
theorem dX9_spells_18 : decode cX9_spells 18 = .ok (.invokevirtual 243, 3) := by decide +kernel
theorem dX9_spells_21 : decode cX9_spells 21 = .ok (.if_icmp .ne 7, 3) := by decide +kernel
theorem dX9_spells_24 : decode cX9_spells 24 = .ok (.iconst 1, 1) := by decide +kernel
theorem dX9_spells_25 : decode cX9_spells 25 = .ok (.goto 4, 3) := by decide +kernel
theorem dX9_spells_28 : decode cX9_spells 28 = .ok (.iconst 0, 1) := by decide +kernel
theorem dX9_spells_29 : decode cX9_spells 29 = .ok (.istore_n 2, 1) := by decide +kernel
theorem dX9_spells_30 : decode cX9_spells 30 = .ok (.iconst 0, 1) := by decide +kernel
theorem dX9_spells_31 : decode cX9_spells 31 = .ok (.istore_n 3, 1) := by decide +kernel
theorem dX9_spells_32 : decode cX9_spells 32 = .ok (.iload_n 3, 1) := by decide +kernel
theorem dX9_spells_33 : decode cX9_spells 33 = .ok (.aload_n 1, 1) := by decide +kernel
theorem dX9_spells_34 : decode cX9_spells 34 = .ok (.invokevirtual 243, 3) := by decide +kernel
theorem dX9_spells_37 : decode cX9_spells 37 = .ok (.if_icmp .ge 38, 3) := by decide +kernel
theorem dX9_spells_40 : decode cX9_spells 40 = .ok (.iload_n 2, 1) := by decide +kernel
theorem dX9_spells_41 : decode cX9_spells 41 = .ok (.ifCond .eq 34, 3) := by decide +kernel
theorem dX9_spells_44 : decode cX9_spells 44 = .ok (.aload_n 0, 1) := by decide +kernel
theorem dX9_spells_45 : decode cX9_spells 45 = .ok (.getfield 22, 3) := by decide +kernel
theorem dX9_spells_48 : decode cX9_spells 48 = .ok (.aload_n 0, 1) := by decide +kernel
theorem dX9_spells_49 : decode cX9_spells 49 = .ok (.getfield 221, 3) := by decide +kernel
theorem dX9_spells_52 : decode cX9_spells 52 = .ok (.iload_n 3, 1) := by decide +kernel
theorem dX9_spells_53 : decode cX9_spells 53 = .ok (.iadd, 1) := by decide +kernel
theorem dX9_spells_54 : decode cX9_spells 54 = .ok (.iaload, 1) := by decide +kernel
theorem dX9_spells_55 : decode cX9_spells 55 = .ok (.aload_n 1, 1) := by decide +kernel
theorem dX9_spells_56 : decode cX9_spells 56 = .ok (.iload_n 3, 1) := by decide +kernel
theorem dX9_spells_57 : decode cX9_spells 57 = .ok (.invokevirtual 246, 3) := by decide +kernel
theorem dX9_spells_60 : decode cX9_spells 60 = .ok (.if_icmp .ne 7, 3) := by decide +kernel
theorem dX9_spells_63 : decode cX9_spells 63 = .ok (.iconst 1, 1) := by decide +kernel
theorem dX9_spells_64 : decode cX9_spells 64 = .ok (.goto 4, 3) := by decide +kernel
theorem dX9_spells_67 : decode cX9_spells 67 = .ok (.iconst 0, 1) := by decide +kernel
theorem dX9_spells_68 : decode cX9_spells 68 = .ok (.istore_n 2, 1) := by decide +kernel
theorem dX9_spells_69 : decode cX9_spells 69 = .ok (.iinc 3 1, 3) := by decide +kernel
theorem dX9_spells_72 : decode cX9_spells 72 = .ok (.goto (-40), 3) := by decide +kernel
theorem dX9_spells_75 : decode cX9_spells 75 = .ok (.iload_n 2, 1) := by decide +kernel
theorem dX9_spells_76 : decode cX9_spells 76 = .ok (.ireturn, 1) := by decide +kernel
theorem dX9_readPiece_0 : decode cX9_readPiece 0 = .ok (.aload_n 0, 1) := by decide +kernel
theorem dX9_readPiece_1 : decode cX9_readPiece 1 = .ok (.bipush 33, 2) := by decide +kernel
theorem dX9_readPiece_3 : decode cX9_readPiece 3 = .ok (.invokevirtual 250, 3) := by decide +kernel
theorem dX9_readPiece_6 : decode cX9_readPiece 6 = .ok (.ifCond .eq 54, 3) := by decide +kernel
theorem dX9_readPiece_9 : decode cX9_readPiece 9 = .ok (.aload_n 0, 1) := by decide +kernel
theorem dX9_readPiece_10 : decode cX9_readPiece 10 = .ok (.aload_n 0, 1) := by decide +kernel
theorem dX9_readPiece_11 : decode cX9_readPiece 11 = .ok (.getfield 253, 3) := by decide +kernel
theorem dX9_readPiece_14 : decode cX9_readPiece 14 = .ok (.bipush 8, 2) := by decide +kernel
theorem dX9_readPiece_16 : decode cX9_readPiece 16 = .ok (.if_icmp .ge 7, 3) := by decide +kernel
theorem dX9_readPiece_19 : decode cX9_readPiece 19 = .ok (.iconst 1, 1) := by decide +kernel
theorem dX9_readPiece_20 : decode cX9_readPiece 20 = .ok (.goto 4, 3) := by decide +kernel
theorem dX9_readPiece_23 : decode cX9_readPiece 23 = .ok (.iconst 0, 1) := by decide +kernel
theorem dX9_readPiece_24 : decode cX9_readPiece 24 = .ok (.invokevirtual 256, 3) := by decide +kernel
theorem dX9_readPiece_27 : decode cX9_readPiece 27 = .ok (.aload_n 0, 1) := by decide +kernel
theorem dX9_readPiece_28 : decode cX9_readPiece 28 = .ok (.dup, 1) := by decide +kernel
theorem dX9_readPiece_29 : decode cX9_readPiece 29 = .ok (.getfield 253, 3) := by decide +kernel
theorem dX9_readPiece_32 : decode cX9_readPiece 32 = .ok (.iconst 1, 1) := by decide +kernel
theorem dX9_readPiece_33 : decode cX9_readPiece 33 = .ok (.iadd, 1) := by decide +kernel
theorem dX9_readPiece_34 : decode cX9_readPiece 34 = .ok (.putfield 253, 3) := by decide +kernel
theorem dX9_readPiece_37 : decode cX9_readPiece 37 = .ok (.aload_n 0, 1) := by decide +kernel
theorem dX9_readPiece_38 : decode cX9_readPiece 38 = .ok (.invokevirtual 260, 3) := by decide +kernel
theorem dX9_readPiece_41 : decode cX9_readPiece 41 = .ok (.aload_n 0, 1) := by decide +kernel
theorem dX9_readPiece_42 : decode cX9_readPiece 42 = .ok (.dup, 1) := by decide +kernel
theorem dX9_readPiece_43 : decode cX9_readPiece 43 = .ok (.getfield 253, 3) := by decide +kernel
theorem dX9_readPiece_46 : decode cX9_readPiece 46 = .ok (.iconst 1, 1) := by decide +kernel
theorem dX9_readPiece_47 : decode cX9_readPiece 47 = .ok (.isub, 1) := by decide +kernel
theorem dX9_readPiece_48 : decode cX9_readPiece 48 = .ok (.putfield 253, 3) := by decide +kernel
theorem dX9_readPiece_51 : decode cX9_readPiece 51 = .ok (.aload_n 0, 1) := by decide +kernel
theorem dX9_readPiece_52 : decode cX9_readPiece 52 = .ok (.bipush (-29), 2) := by decide +kernel
theorem dX9_readPiece_54 : decode cX9_readPiece 54 = .ok (.invokevirtual 263, 3) := by decide +kernel
theorem dX9_readPiece_57 : decode cX9_readPiece 57 = .ok (.goto 71, 3) := by decide +kernel
theorem dX9_readPiece_60 : decode cX9_readPiece 60 = .ok (.aload_n 0, 1) := by decide +kernel
theorem dX9_readPiece_61 : decode cX9_readPiece 61 = .ok (.bipush 40, 2) := by decide +kernel
theorem dX9_readPiece_63 : decode cX9_readPiece 63 = .ok (.invokevirtual 250, 3) := by decide +kernel
theorem dX9_readPiece_66 : decode cX9_readPiece 66 = .ok (.ifCond .eq 58, 3) := by decide +kernel
theorem dX9_readPiece_69 : decode cX9_readPiece 69 = .ok (.aload_n 0, 1) := by decide +kernel
theorem dX9_readPiece_70 : decode cX9_readPiece 70 = .ok (.aload_n 0, 1) := by decide +kernel
theorem dX9_readPiece_71 : decode cX9_readPiece 71 = .ok (.getfield 266, 3) := by decide +kernel
theorem dX9_readPiece_74 : decode cX9_readPiece 74 = .ok (.bipush 8, 2) := by decide +kernel
theorem dX9_readPiece_76 : decode cX9_readPiece 76 = .ok (.if_icmp .ge 7, 3) := by decide +kernel
theorem dX9_readPiece_79 : decode cX9_readPiece 79 = .ok (.iconst 1, 1) := by decide +kernel
theorem dX9_readPiece_80 : decode cX9_readPiece 80 = .ok (.goto 4, 3) := by decide +kernel
theorem dX9_readPiece_83 : decode cX9_readPiece 83 = .ok (.iconst 0, 1) := by decide +kernel
theorem dX9_readPiece_84 : decode cX9_readPiece 84 = .ok (.invokevirtual 256, 3) := by decide +kernel
theorem dX9_readPiece_87 : decode cX9_readPiece 87 = .ok (.aload_n 0, 1) := by decide +kernel
theorem dX9_readPiece_88 : decode cX9_readPiece 88 = .ok (.dup, 1) := by decide +kernel
theorem dX9_readPiece_89 : decode cX9_readPiece 89 = .ok (.getfield 266, 3) := by decide +kernel
theorem dX9_readPiece_92 : decode cX9_readPiece 92 = .ok (.iconst 1, 1) := by decide +kernel
theorem dX9_readPiece_93 : decode cX9_readPiece 93 = .ok (.iadd, 1) := by decide +kernel
theorem dX9_readPiece_94 : decode cX9_readPiece 94 = .ok (.putfield 266, 3) := by decide +kernel
theorem dX9_readPiece_97 : decode cX9_readPiece 97 = .ok (.aload_n 0, 1) := by decide +kernel
theorem dX9_readPiece_98 : decode cX9_readPiece 98 = .ok (.invokevirtual 269, 3) := by decide +kernel
theorem dX9_readPiece_101 : decode cX9_readPiece 101 = .ok (.aload_n 0, 1) := by decide +kernel
theorem dX9_readPiece_102 : decode cX9_readPiece 102 = .ok (.aload_n 0, 1) := by decide +kernel
theorem dX9_readPiece_103 : decode cX9_readPiece 103 = .ok (.bipush 41, 2) := by decide +kernel
theorem dX9_readPiece_105 : decode cX9_readPiece 105 = .ok (.invokevirtual 250, 3) := by decide +kernel
theorem dX9_readPiece_108 : decode cX9_readPiece 108 = .ok (.invokevirtual 256, 3) := by decide +kernel
theorem dX9_readPiece_111 : decode cX9_readPiece 111 = .ok (.aload_n 0, 1) := by decide +kernel
theorem dX9_readPiece_112 : decode cX9_readPiece 112 = .ok (.dup, 1) := by decide +kernel
theorem dX9_readPiece_113 : decode cX9_readPiece 113 = .ok (.getfield 266, 3) := by decide +kernel
theorem dX9_readPiece_116 : decode cX9_readPiece 116 = .ok (.iconst 1, 1) := by decide +kernel
theorem dX9_readPiece_117 : decode cX9_readPiece 117 = .ok (.isub, 1) := by decide +kernel
theorem dX9_readPiece_118 : decode cX9_readPiece 118 = .ok (.putfield 266, 3) := by decide +kernel
theorem dX9_readPiece_121 : decode cX9_readPiece 121 = .ok (.goto 7, 3) := by decide +kernel
theorem dX9_readPiece_124 : decode cX9_readPiece 124 = .ok (.aload_n 0, 1) := by decide +kernel
theorem dX9_readPiece_125 : decode cX9_readPiece 125 = .ok (.invokevirtual 272, 3) := by decide +kernel
theorem dX9_readPiece_128 : decode cX9_readPiece 128 = .ok (.return_, 1) := by decide +kernel
theorem dX9_readLeaf_0 : decode cX9_readLeaf 0 = .ok (.iconst (-1), 1) := by decide +kernel
theorem dX9_readLeaf_1 : decode cX9_readLeaf 1 = .ok (.istore_n 1, 1) := by decide +kernel
theorem dX9_readLeaf_2 : decode cX9_readLeaf 2 = .ok (.aload_n 0, 1) := by decide +kernel
theorem dX9_readLeaf_3 : decode cX9_readLeaf 3 = .ok (.getfield 215, 3) := by decide +kernel
theorem dX9_readLeaf_6 : decode cX9_readLeaf 6 = .ok (.iconst 2, 1) := by decide +kernel
theorem dX9_readLeaf_7 : decode cX9_readLeaf 7 = .ok (.if_icmp .ne 52, 3) := by decide +kernel
theorem dX9_readLeaf_10 : decode cX9_readLeaf 10 = .ok (.aload_n 0, 1) := by decide +kernel
theorem dX9_readLeaf_11 : decode cX9_readLeaf 11 = .ok (.getfield 218, 3) := by decide +kernel
theorem dX9_readLeaf_14 : decode cX9_readLeaf 14 = .ok (.aload_n 0, 1) := by decide +kernel
theorem dX9_readLeaf_15 : decode cX9_readLeaf 15 = .ok (.getfield 221, 3) := by decide +kernel
theorem dX9_readLeaf_18 : decode cX9_readLeaf 18 = .ok (.isub, 1) := by decide +kernel
theorem dX9_readLeaf_19 : decode cX9_readLeaf 19 = .ok (.iconst 4, 1) := by decide +kernel
theorem dX9_readLeaf_20 : decode cX9_readLeaf 20 = .ok (.if_icmp .gt 39, 3) := by decide +kernel
theorem dX9_readLeaf_23 : decode cX9_readLeaf 23 = .ok (.iconst 0, 1) := by decide +kernel
theorem dX9_readLeaf_24 : decode cX9_readLeaf 24 = .ok (.istore_n 1, 1) := by decide +kernel
theorem dX9_readLeaf_25 : decode cX9_readLeaf 25 = .ok (.aload_n 0, 1) := by decide +kernel
theorem dX9_readLeaf_26 : decode cX9_readLeaf 26 = .ok (.getfield 221, 3) := by decide +kernel
theorem dX9_readLeaf_29 : decode cX9_readLeaf 29 = .ok (.istore_n 2, 1) := by decide +kernel
theorem dX9_readLeaf_30 : decode cX9_readLeaf 30 = .ok (.iload_n 2, 1) := by decide +kernel
theorem dX9_readLeaf_31 : decode cX9_readLeaf 31 = .ok (.aload_n 0, 1) := by decide +kernel
theorem dX9_readLeaf_32 : decode cX9_readLeaf 32 = .ok (.getfield 218, 3) := by decide +kernel
theorem dX9_readLeaf_35 : decode cX9_readLeaf 35 = .ok (.if_icmp .ge 24, 3) := by decide +kernel
theorem dX9_readLeaf_38 : decode cX9_readLeaf 38 = .ok (.bipush 10, 2) := by decide +kernel
theorem dX9_readLeaf_40 : decode cX9_readLeaf 40 = .ok (.iload_n 1, 1) := by decide +kernel
theorem dX9_readLeaf_41 : decode cX9_readLeaf 41 = .ok (.imul, 1) := by decide +kernel
theorem dX9_readLeaf_42 : decode cX9_readLeaf 42 = .ok (.aload_n 0, 1) := by decide +kernel
theorem dX9_readLeaf_43 : decode cX9_readLeaf 43 = .ok (.getfield 22, 3) := by decide +kernel
theorem dX9_readLeaf_46 : decode cX9_readLeaf 46 = .ok (.iload_n 2, 1) := by decide +kernel
theorem dX9_readLeaf_47 : decode cX9_readLeaf 47 = .ok (.iaload, 1) := by decide +kernel
theorem dX9_readLeaf_48 : decode cX9_readLeaf 48 = .ok (.iadd, 1) := by decide +kernel
theorem dX9_readLeaf_49 : decode cX9_readLeaf 49 = .ok (.bipush 48, 2) := by decide +kernel
theorem dX9_readLeaf_51 : decode cX9_readLeaf 51 = .ok (.isub, 1) := by decide +kernel
theorem dX9_readLeaf_52 : decode cX9_readLeaf 52 = .ok (.istore_n 1, 1) := by decide +kernel
theorem dX9_readLeaf_53 : decode cX9_readLeaf 53 = .ok (.iinc 2 1, 3) := by decide +kernel
theorem dX9_readLeaf_56 : decode cX9_readLeaf 56 = .ok (.goto (-26), 3) := by decide +kernel
theorem dX9_readLeaf_59 : decode cX9_readLeaf 59 = .ok (.iconst (-1), 1) := by decide +kernel
theorem dX9_readLeaf_60 : decode cX9_readLeaf 60 = .ok (.istore_n 2, 1) := by decide +kernel
theorem dX9_readLeaf_61 : decode cX9_readLeaf 61 = .ok (.iconst 0, 1) := by decide +kernel
theorem dX9_readLeaf_62 : decode cX9_readLeaf 62 = .ok (.istore_n 3, 1) := by decide +kernel
theorem dX9_readLeaf_63 : decode cX9_readLeaf 63 = .ok (.iload_n 3, 1) := by decide +kernel
theorem dX9_readLeaf_64 : decode cX9_readLeaf 64 = .ok (.aload_n 0, 1) := by decide +kernel
theorem dX9_readLeaf_65 : decode cX9_readLeaf 65 = .ok (.getfield 43, 3) := by decide +kernel
theorem dX9_readLeaf_68 : decode cX9_readLeaf 68 = .ok (.aload_n 0, 1) := by decide +kernel
theorem dX9_readLeaf_69 : decode cX9_readLeaf 69 = .ok (.getfield 275, 3) := by decide +kernel
theorem dX9_readLeaf_72 : decode cX9_readLeaf 72 = .ok (.aaload, 1) := by decide +kernel
theorem dX9_readLeaf_73 : decode cX9_readLeaf 73 = .ok (.invokevirtual 243, 3) := by decide +kernel
theorem dX9_readLeaf_76 : decode cX9_readLeaf 76 = .ok (.if_icmp .ge 61, 3) := by decide +kernel
theorem dX9_readLeaf_79 : decode cX9_readLeaf 79 = .ok (.aload_n 0, 1) := by decide +kernel
theorem dX9_readLeaf_80 : decode cX9_readLeaf 80 = .ok (.getfield 215, 3) := by decide +kernel
theorem dX9_readLeaf_83 : decode cX9_readLeaf 83 = .ok (.iconst 1, 1) := by decide +kernel
theorem dX9_readLeaf_84 : decode cX9_readLeaf 84 = .ok (.if_icmp .ne 53, 3) := by decide +kernel
theorem dX9_readLeaf_87 : decode cX9_readLeaf 87 = .ok (.aload_n 0, 1) := by decide +kernel
theorem dX9_readLeaf_88 : decode cX9_readLeaf 88 = .ok (.getfield 218, 3) := by decide +kernel
theorem dX9_readLeaf_91 : decode cX9_readLeaf 91 = .ok (.aload_n 0, 1) := by decide +kernel
theorem dX9_readLeaf_92 : decode cX9_readLeaf 92 = .ok (.getfield 221, 3) := by decide +kernel
theorem dX9_readLeaf_95 : decode cX9_readLeaf 95 = .ok (.iconst 1, 1) := by decide +kernel
theorem dX9_readLeaf_96 : decode cX9_readLeaf 96 = .ok (.iadd, 1) := by decide +kernel
theorem dX9_readLeaf_97 : decode cX9_readLeaf 97 = .ok (.if_icmp .ne 40, 3) := by decide +kernel
theorem dX9_readLeaf_100 : decode cX9_readLeaf 100 = .ok (.aload_n 0, 1) := by decide +kernel
theorem dX9_readLeaf_101 : decode cX9_readLeaf 101 = .ok (.getfield 22, 3) := by decide +kernel
theorem dX9_readLeaf_104 : decode cX9_readLeaf 104 = .ok (.aload_n 0, 1) := by decide +kernel
theorem dX9_readLeaf_105 : decode cX9_readLeaf 105 = .ok (.getfield 221, 3) := by decide +kernel
theorem dX9_readLeaf_108 : decode cX9_readLeaf 108 = .ok (.iaload, 1) := by decide +kernel
theorem dX9_readLeaf_109 : decode cX9_readLeaf 109 = .ok (.aload_n 0, 1) := by decide +kernel
theorem dX9_readLeaf_110 : decode cX9_readLeaf 110 = .ok (.getfield 43, 3) := by decide +kernel
theorem dX9_readLeaf_113 : decode cX9_readLeaf 113 = .ok (.aload_n 0, 1) := by decide +kernel
theorem dX9_readLeaf_114 : decode cX9_readLeaf 114 = .ok (.getfield 275, 3) := by decide +kernel
theorem dX9_readLeaf_117 : decode cX9_readLeaf 117 = .ok (.aaload, 1) := by decide +kernel
theorem dX9_readLeaf_118 : decode cX9_readLeaf 118 = .ok (.iload_n 3, 1) := by decide +kernel
theorem dX9_readLeaf_119 : decode cX9_readLeaf 119 = .ok (.invokevirtual 246, 3) := by decide +kernel
theorem dX9_readLeaf_122 : decode cX9_readLeaf 122 = .ok (.if_icmp .ne 7, 3) := by decide +kernel
theorem dX9_readLeaf_125 : decode cX9_readLeaf 125 = .ok (.iload_n 3, 1) := by decide +kernel
theorem dX9_readLeaf_126 : decode cX9_readLeaf 126 = .ok (.goto 4, 3) := by decide +kernel
theorem dX9_readLeaf_129 : decode cX9_readLeaf 129 = .ok (.iload_n 2, 1) := by decide +kernel
theorem dX9_readLeaf_130 : decode cX9_readLeaf 130 = .ok (.istore_n 2, 1) := by decide +kernel
theorem dX9_readLeaf_131 : decode cX9_readLeaf 131 = .ok (.iinc 3 1, 3) := by decide +kernel
theorem dX9_readLeaf_134 : decode cX9_readLeaf 134 = .ok (.goto (-71), 3) := by decide +kernel
theorem dX9_readLeaf_137 : decode cX9_readLeaf 137 = .ok (.aload_n 0, 1) := by decide +kernel
theorem dX9_readLeaf_138 : decode cX9_readLeaf 138 = .ok (.dup, 1) := by decide +kernel
theorem dX9_readLeaf_139 : decode cX9_readLeaf 139 = .ok (.getfield 278, 3) := by decide +kernel
theorem dX9_readLeaf_142 : decode cX9_readLeaf 142 = .ok (.iconst 1, 1) := by decide +kernel
theorem dX9_readLeaf_143 : decode cX9_readLeaf 143 = .ok (.iadd, 1) := by decide +kernel
theorem dX9_readLeaf_144 : decode cX9_readLeaf 144 = .ok (.putfield 278, 3) := by decide +kernel
theorem dX9_readLeaf_147 : decode cX9_readLeaf 147 = .ok (.aload_n 0, 1) := by decide +kernel
theorem dX9_readLeaf_148 : decode cX9_readLeaf 148 = .ok (.iload_n 1, 1) := by decide +kernel
theorem dX9_readLeaf_149 : decode cX9_readLeaf 149 = .ok (.ifCond .ge 7, 3) := by decide +kernel
theorem dX9_readLeaf_152 : decode cX9_readLeaf 152 = .ok (.iload_n 2, 1) := by decide +kernel
theorem dX9_readLeaf_153 : decode cX9_readLeaf 153 = .ok (.ifCond .lt 7, 3) := by decide +kernel
theorem dX9_readLeaf_156 : decode cX9_readLeaf 156 = .ok (.iconst 1, 1) := by decide +kernel
theorem dX9_readLeaf_157 : decode cX9_readLeaf 157 = .ok (.goto 4, 3) := by decide +kernel
theorem dX9_readLeaf_160 : decode cX9_readLeaf 160 = .ok (.iconst 0, 1) := by decide +kernel
theorem dX9_readLeaf_161 : decode cX9_readLeaf 161 = .ok (.invokevirtual 256, 3) := by decide +kernel
theorem dX9_readLeaf_164 : decode cX9_readLeaf 164 = .ok (.aload_n 0, 1) := by decide +kernel
theorem dX9_readLeaf_165 : decode cX9_readLeaf 165 = .ok (.iload_n 1, 1) := by decide +kernel
theorem dX9_readLeaf_166 : decode cX9_readLeaf 166 = .ok (.ifCond .lt 7, 3) := by decide +kernel
theorem dX9_readLeaf_169 : decode cX9_readLeaf 169 = .ok (.iload_n 1, 1) := by decide +kernel
theorem dX9_readLeaf_170 : decode cX9_readLeaf 170 = .ok (.goto 7, 3) := by decide +kernel
theorem dX9_readLeaf_173 : decode cX9_readLeaf 173 = .ok (.bipush (-10), 2) := by decide +kernel
theorem dX9_readLeaf_175 : decode cX9_readLeaf 175 = .ok (.iload_n 2, 1) := by decide +kernel
theorem dX9_readLeaf_176 : decode cX9_readLeaf 176 = .ok (.iadd, 1) := by decide +kernel
theorem dX9_readLeaf_177 : decode cX9_readLeaf 177 = .ok (.invokevirtual 263, 3) := by decide +kernel
theorem dX9_readLeaf_180 : decode cX9_readLeaf 180 = .ok (.return_, 1) := by decide +kernel
theorem dX9_readTerm_0 : decode cX9_readTerm 0 = .ok (.aload_n 0, 1) := by decide +kernel
theorem dX9_readTerm_1 : decode cX9_readTerm 1 = .ok (.invokevirtual 260, 3) := by decide +kernel
theorem dX9_readTerm_4 : decode cX9_readTerm 4 = .ok (.aload_n 0, 1) := by decide +kernel
theorem dX9_readTerm_5 : decode cX9_readTerm 5 = .ok (.bipush 42, 2) := by decide +kernel
theorem dX9_readTerm_7 : decode cX9_readTerm 7 = .ok (.invokevirtual 250, 3) := by decide +kernel
theorem dX9_readTerm_10 : decode cX9_readTerm 10 = .ok (.ifCond .ne 12, 3) := by decide +kernel
theorem dX9_readTerm_13 : decode cX9_readTerm 13 = .ok (.aload_n 0, 1) := by decide +kernel
theorem dX9_readTerm_14 : decode cX9_readTerm 14 = .ok (.bipush 47, 2) := by decide +kernel
theorem dX9_readTerm_16 : decode cX9_readTerm 16 = .ok (.invokevirtual 250, 3) := by decide +kernel
theorem dX9_readTerm_19 : decode cX9_readTerm 19 = .ok (.ifCond .eq 42, 3) := by decide +kernel
theorem dX9_readTerm_22 : decode cX9_readTerm 22 = .ok (.aload_n 0, 1) := by decide +kernel
theorem dX9_readTerm_23 : decode cX9_readTerm 23 = .ok (.getfield 22, 3) := by decide +kernel
theorem dX9_readTerm_26 : decode cX9_readTerm 26 = .ok (.aload_n 0, 1) := by decide +kernel
theorem dX9_readTerm_27 : decode cX9_readTerm 27 = .ok (.getfield 221, 3) := by decide +kernel
theorem dX9_readTerm_30 : decode cX9_readTerm 30 = .ok (.iaload, 1) := by decide +kernel
theorem dX9_readTerm_31 : decode cX9_readTerm 31 = .ok (.bipush 42, 2) := by decide +kernel
theorem dX9_readTerm_33 : decode cX9_readTerm 33 = .ok (.if_icmp .ne 8, 3) := by decide +kernel
theorem dX9_readTerm_36 : decode cX9_readTerm 36 = .ok (.bipush (-27), 2) := by decide +kernel
theorem dX9_readTerm_38 : decode cX9_readTerm 38 = .ok (.goto 5, 3) := by decide +kernel
theorem dX9_readTerm_41 : decode cX9_readTerm 41 = .ok (.bipush (-28), 2) := by decide +kernel
theorem dX9_readTerm_43 : decode cX9_readTerm 43 = .ok (.istore_n 1, 1) := by decide +kernel
theorem dX9_readTerm_44 : decode cX9_readTerm 44 = .ok (.aload_n 0, 1) := by decide +kernel
theorem dX9_readTerm_45 : decode cX9_readTerm 45 = .ok (.iconst 1, 1) := by decide +kernel
theorem dX9_readTerm_46 : decode cX9_readTerm 46 = .ok (.invokevirtual 256, 3) := by decide +kernel
theorem dX9_readTerm_49 : decode cX9_readTerm 49 = .ok (.aload_n 0, 1) := by decide +kernel
theorem dX9_readTerm_50 : decode cX9_readTerm 50 = .ok (.invokevirtual 260, 3) := by decide +kernel
theorem dX9_readTerm_53 : decode cX9_readTerm 53 = .ok (.aload_n 0, 1) := by decide +kernel
