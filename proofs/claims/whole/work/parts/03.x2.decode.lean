theorem dX6_make_13 : decode cX6_make 13 = .ok (.iload_n 3, 1) := by decide +kernel
theorem dX6_make_14 : decode cX6_make 14 = .ok (.ifCond .lt 9, 3) := by decide +kernel
theorem dX6_make_17 : decode cX6_make 17 = .ok (.iload_n 3, 1) := by decide +kernel
theorem dX6_make_18 : decode cX6_make 18 = .ok (.bipush 8, 2) := by decide +kernel
theorem dX6_make_20 : decode cX6_make 20 = .ok (.if_icmp .le 13, 3) := by decide +kernel
theorem dX6_make_23 : decode cX6_make 23 = .ok (.new 24, 3) := by decide +kernel
theorem dX6_make_26 : decode cX6_make 26 = .ok (.dup, 1) := by decide +kernel
theorem dX6_make_27 : decode cX6_make 27 = .ok (.ldc 26, 2) := by decide +kernel
theorem dX6_make_29 : decode cX6_make 29 = .ok (.invokespecial 28, 3) := by decide +kernel
theorem dX6_make_32 : decode cX6_make 32 = .ok (.athrow, 1) := by decide +kernel
theorem dX6_make_33 : decode cX6_make 33 = .ok (.aload_n 0, 1) := by decide +kernel
theorem dX6_make_34 : decode cX6_make 34 = .ok (.iload_n 2, 1) := by decide +kernel
theorem dX6_make_35 : decode cX6_make 35 = .ok (.invokevirtual 31, 3) := by decide +kernel
theorem dX6_make_38 : decode cX6_make 38 = .ok (.astore 4, 2) := by decide +kernel
theorem dX6_make_40 : decode cX6_make 40 = .ok (.aload 4, 2) := by decide +kernel
theorem dX6_make_42 : decode cX6_make 42 = .ok (.ifnonnull 11, 3) := by decide +kernel
theorem dX6_make_45 : decode cX6_make 45 = .ok (.iload_n 2, 1) := by decide +kernel
theorem dX6_make_46 : decode cX6_make 46 = .ok (.iconst (-1), 1) := by decide +kernel
theorem dX6_make_47 : decode cX6_make 47 = .ok (.if_icmp .eq 25, 3) := by decide +kernel
theorem dX6_make_50 : decode cX6_make 50 = .ok (.goto 12, 3) := by decide +kernel
theorem dX6_make_53 : decode cX6_make 53 = .ok (.aload 4, 2) := by decide +kernel
theorem dX6_make_55 : decode cX6_make 55 = .ok (.getfield 35, 3) := by decide +kernel
theorem dX6_make_58 : decode cX6_make 58 = .ok (.iload_n 1, 1) := by decide +kernel
theorem dX6_make_59 : decode cX6_make 59 = .ok (.if_icmp .ge 13, 3) := by decide +kernel
theorem dX6_make_62 : decode cX6_make 62 = .ok (.new 24, 3) := by decide +kernel
theorem dX6_make_65 : decode cX6_make 65 = .ok (.dup, 1) := by decide +kernel
theorem dX6_make_66 : decode cX6_make 66 = .ok (.ldc 38, 2) := by decide +kernel
theorem dX6_make_68 : decode cX6_make 68 = .ok (.invokespecial 28, 3) := by decide +kernel
theorem dX6_make_71 : decode cX6_make 71 = .ok (.athrow, 1) := by decide +kernel
theorem dX6_make_72 : decode cX6_make 72 = .ok (.aload_n 0, 1) := by decide +kernel
theorem dX6_make_73 : decode cX6_make 73 = .ok (.getfield 15, 3) := by decide +kernel
theorem dX6_make_76 : decode cX6_make 76 = .ok (.istore 5, 2) := by decide +kernel
theorem dX6_make_78 : decode cX6_make 78 = .ok (.iload 5, 2) := by decide +kernel
theorem dX6_make_80 : decode cX6_make 80 = .ok (.ifCond .lt 13, 3) := by decide +kernel
theorem dX6_make_83 : decode cX6_make 83 = .ok (.iload 5, 2) := by decide +kernel
theorem dX6_make_85 : decode cX6_make 85 = .ok (.aload_n 0, 1) := by decide +kernel
theorem dX6_make_86 : decode cX6_make 86 = .ok (.getfield 11, 3) := by decide +kernel
theorem dX6_make_89 : decode cX6_make 89 = .ok (.arraylength, 1) := by decide +kernel
theorem dX6_make_90 : decode cX6_make 90 = .ok (.if_icmp .lt 5, 3) := by decide +kernel
theorem dX6_make_93 : decode cX6_make 93 = .ok (.iconst (-1), 1) := by decide +kernel
theorem dX6_make_94 : decode cX6_make 94 = .ok (.ireturn, 1) := by decide +kernel
theorem dX6_make_95 : decode cX6_make 95 = .ok (.aload_n 0, 1) := by decide +kernel
theorem dX6_make_96 : decode cX6_make 96 = .ok (.getfield 11, 3) := by decide +kernel
theorem dX6_make_99 : decode cX6_make 99 = .ok (.iload 5, 2) := by decide +kernel
theorem dX6_make_101 : decode cX6_make 101 = .ok (.new 9, 3) := by decide +kernel
theorem dX6_make_104 : decode cX6_make 104 = .ok (.dup, 1) := by decide +kernel
theorem dX6_make_105 : decode cX6_make 105 = .ok (.iload 5, 2) := by decide +kernel
theorem dX6_make_107 : decode cX6_make 107 = .ok (.iload_n 1, 1) := by decide +kernel
theorem dX6_make_108 : decode cX6_make 108 = .ok (.aload 4, 2) := by decide +kernel
theorem dX6_make_110 : decode cX6_make 110 = .ok (.iload_n 3, 1) := by decide +kernel
theorem dX6_make_111 : decode cX6_make 111 = .ok (.invokespecial 40, 3) := by decide +kernel
theorem dX6_make_114 : decode cX6_make 114 = .ok (.aastore, 1) := by decide +kernel
theorem dX6_make_115 : decode cX6_make 115 = .ok (.aload_n 0, 1) := by decide +kernel
theorem dX6_make_116 : decode cX6_make 116 = .ok (.iload 5, 2) := by decide +kernel
theorem dX6_make_118 : decode cX6_make 118 = .ok (.iconst 1, 1) := by decide +kernel
theorem dX6_make_119 : decode cX6_make 119 = .ok (.iadd, 1) := by decide +kernel
theorem dX6_make_120 : decode cX6_make 120 = .ok (.putfield 15, 3) := by decide +kernel
theorem dX6_make_123 : decode cX6_make 123 = .ok (.iload 5, 2) := by decide +kernel
theorem dX6_make_125 : decode cX6_make 125 = .ok (.ireturn, 1) := by decide +kernel
theorem dX6_add_0 : decode cX6_add 0 = .ok (.aload_n 0, 1) := by decide +kernel
theorem dX6_add_1 : decode cX6_add 1 = .ok (.iload_n 1, 1) := by decide +kernel
theorem dX6_add_2 : decode cX6_add 2 = .ok (.invokevirtual 43, 3) := by decide +kernel
theorem dX6_add_5 : decode cX6_add 5 = .ok (.astore 4, 2) := by decide +kernel
theorem dX6_add_7 : decode cX6_add 7 = .ok (.aload 4, 2) := by decide +kernel
theorem dX6_add_9 : decode cX6_add 9 = .ok (.iload_n 2, 1) := by decide +kernel
theorem dX6_add_10 : decode cX6_add 10 = .ok (.invokevirtual 46, 3) := by decide +kernel
theorem dX6_add_13 : decode cX6_add 13 = .ok (.ifCond .eq 16, 3) := by decide +kernel
theorem dX6_add_16 : decode cX6_add 16 = .ok (.aload 4, 2) := by decide +kernel
theorem dX6_add_18 : decode cX6_add 18 = .ok (.iload_n 3, 1) := by decide +kernel
theorem dX6_add_19 : decode cX6_add 19 = .ok (.invokevirtual 46, 3) := by decide +kernel
theorem dX6_add_22 : decode cX6_add 22 = .ok (.ifCond .eq 7, 3) := by decide +kernel
theorem dX6_add_25 : decode cX6_add 25 = .ok (.iload_n 3, 1) := by decide +kernel
theorem dX6_add_26 : decode cX6_add 26 = .ok (.ifCond .gt 13, 3) := by decide +kernel
theorem dX6_add_29 : decode cX6_add 29 = .ok (.new 24, 3) := by decide +kernel
theorem dX6_add_32 : decode cX6_add 32 = .ok (.dup, 1) := by decide +kernel
theorem dX6_add_33 : decode cX6_add 33 = .ok (.ldc 49, 2) := by decide +kernel
theorem dX6_add_35 : decode cX6_add 35 = .ok (.invokespecial 28, 3) := by decide +kernel
theorem dX6_add_38 : decode cX6_add 38 = .ok (.athrow, 1) := by decide +kernel
theorem dX6_add_39 : decode cX6_add 39 = .ok (.aload_n 0, 1) := by decide +kernel
theorem dX6_add_40 : decode cX6_add 40 = .ok (.invokevirtual 51, 3) := by decide +kernel
theorem dX6_add_43 : decode cX6_add 43 = .ok (.ifCond .eq 6, 3) := by decide +kernel
theorem dX6_add_46 : decode cX6_add 46 = .ok (.bipush (-2), 2) := by decide +kernel
theorem dX6_add_48 : decode cX6_add 48 = .ok (.ireturn, 1) := by decide +kernel
theorem dX6_add_49 : decode cX6_add 49 = .ok (.iload_n 2, 1) := by decide +kernel
theorem dX6_add_50 : decode cX6_add 50 = .ok (.ifCond .lt 19, 3) := by decide +kernel
theorem dX6_add_53 : decode cX6_add 53 = .ok (.iload_n 2, 1) := by decide +kernel
theorem dX6_add_54 : decode cX6_add 54 = .ok (.i2l, 1) := by decide +kernel
theorem dX6_add_55 : decode cX6_add 55 = .ok (.iload_n 3, 1) := by decide +kernel
theorem dX6_add_56 : decode cX6_add 56 = .ok (.i2l, 1) := by decide +kernel
theorem dX6_add_57 : decode cX6_add 57 = .ok (.ladd, 1) := by decide +kernel
theorem dX6_add_58 : decode cX6_add 58 = .ok (.ldc2_w 55, 3) := by decide +kernel
theorem dX6_add_61 : decode cX6_add 61 = .ok (.lcmp, 1) := by decide +kernel
theorem dX6_add_62 : decode cX6_add 62 = .ok (.ifCond .gt 7, 3) := by decide +kernel
theorem dX6_add_65 : decode cX6_add 65 = .ok (.iconst 1, 1) := by decide +kernel
theorem dX6_add_66 : decode cX6_add 66 = .ok (.goto 4, 3) := by decide +kernel
theorem dX6_add_69 : decode cX6_add 69 = .ok (.iconst 0, 1) := by decide +kernel
theorem dX6_add_70 : decode cX6_add 70 = .ok (.istore 5, 2) := by decide +kernel
theorem dX6_add_72 : decode cX6_add 72 = .ok (.aload 4, 2) := by decide +kernel
theorem dX6_add_74 : decode cX6_add 74 = .ok (.getfield 57, 3) := by decide +kernel
theorem dX6_add_77 : decode cX6_add 77 = .ok (.ifnonnull 18, 3) := by decide +kernel
theorem dX6_add_80 : decode cX6_add 80 = .ok (.iload 5, 2) := by decide +kernel
theorem dX6_add_82 : decode cX6_add 82 = .ok (.ifCond .eq 13, 3) := by decide +kernel
theorem dX6_add_85 : decode cX6_add 85 = .ok (.aload 4, 2) := by decide +kernel
theorem dX6_add_87 : decode cX6_add 87 = .ok (.iload_n 2, 1) := by decide +kernel
theorem dX6_add_88 : decode cX6_add 88 = .ok (.iload_n 3, 1) := by decide +kernel
theorem dX6_add_89 : decode cX6_add 89 = .ok (.invokevirtual 60, 3) := by decide +kernel
theorem dX6_add_92 : decode cX6_add 92 = .ok (.ifCond .eq 5, 3) := by decide +kernel
theorem dX6_add_95 : decode cX6_add 95 = .ok (.iconst (-1), 1) := by decide +kernel
theorem dX6_add_96 : decode cX6_add 96 = .ok (.ireturn, 1) := by decide +kernel
theorem dX6_add_97 : decode cX6_add 97 = .ok (.aload 4, 2) := by decide +kernel
theorem dX6_add_99 : decode cX6_add 99 = .ok (.iload_n 2, 1) := by decide +kernel
theorem dX6_add_100 : decode cX6_add 100 = .ok (.iload_n 3, 1) := by decide +kernel
theorem dX6_add_101 : decode cX6_add 101 = .ok (.invokevirtual 64, 3) := by decide +kernel
theorem dX6_add_104 : decode cX6_add 104 = .ok (.pop, 1) := by decide +kernel
theorem dX6_add_105 : decode cX6_add 105 = .ok (.iconst 0, 1) := by decide +kernel
theorem dX6_add_106 : decode cX6_add 106 = .ok (.ireturn, 1) := by decide +kernel
theorem dX6_take_0 : decode cX6_take 0 = .ok (.aload_n 0, 1) := by decide +kernel
theorem dX6_take_1 : decode cX6_take 1 = .ok (.iload_n 1, 1) := by decide +kernel
theorem dX6_take_2 : decode cX6_take 2 = .ok (.invokevirtual 43, 3) := by decide +kernel
theorem dX6_take_5 : decode cX6_take 5 = .ok (.astore 5, 2) := by decide +kernel
theorem dX6_take_7 : decode cX6_take 7 = .ok (.iload_n 2, 1) := by decide +kernel
theorem dX6_take_8 : decode cX6_take 8 = .ok (.ifCond .le 20, 3) := by decide +kernel
theorem dX6_take_11 : decode cX6_take 11 = .ok (.iload_n 3, 1) := by decide +kernel
theorem dX6_take_12 : decode cX6_take 12 = .ok (.ifCond .lt 16, 3) := by decide +kernel
theorem dX6_take_15 : decode cX6_take 15 = .ok (.iload_n 3, 1) := by decide +kernel
theorem dX6_take_16 : decode cX6_take 16 = .ok (.iconst 2, 1) := by decide +kernel
theorem dX6_take_17 : decode cX6_take 17 = .ok (.if_icmp .gt 11, 3) := by decide +kernel
theorem dX6_take_20 : decode cX6_take 20 = .ok (.iload 4, 2) := by decide +kernel
theorem dX6_take_22 : decode cX6_take 22 = .ok (.invokestatic 68, 3) := by decide +kernel
theorem dX6_take_25 : decode cX6_take 25 = .ok (.ifCond .ne 13, 3) := by decide +kernel
theorem dX6_take_28 : decode cX6_take 28 = .ok (.new 24, 3) := by decide +kernel
theorem dX6_take_31 : decode cX6_take 31 = .ok (.dup, 1) := by decide +kernel
theorem dX6_take_32 : decode cX6_take 32 = .ok (.ldc 71, 2) := by decide +kernel
theorem dX6_take_34 : decode cX6_take 34 = .ok (.invokespecial 28, 3) := by decide +kernel
theorem dX6_take_37 : decode cX6_take 37 = .ok (.athrow, 1) := by decide +kernel
theorem dX6_take_38 : decode cX6_take 38 = .ok (.aload_n 0, 1) := by decide +kernel
theorem dX6_take_39 : decode cX6_take 39 = .ok (.invokevirtual 51, 3) := by decide +kernel
theorem dX6_take_42 : decode cX6_take 42 = .ok (.ifCond .eq 6, 3) := by decide +kernel
theorem dX6_take_45 : decode cX6_take 45 = .ok (.bipush (-2), 2) := by decide +kernel
theorem dX6_take_47 : decode cX6_take 47 = .ok (.ireturn, 1) := by decide +kernel
theorem dX6_take_48 : decode cX6_take 48 = .ok (.aload 5, 2) := by decide +kernel
theorem dX6_take_50 : decode cX6_take 50 = .ok (.iload_n 2, 1) := by decide +kernel
theorem dX6_take_51 : decode cX6_take 51 = .ok (.invokevirtual 73, 3) := by decide +kernel
theorem dX6_take_54 : decode cX6_take 54 = .ok (.lstore 6, 2) := by decide +kernel
theorem dX6_take_56 : decode cX6_take 56 = .ok (.aload 5, 2) := by decide +kernel
theorem dX6_take_58 : decode cX6_take 58 = .ok (.lload 6, 2) := by decide +kernel
theorem dX6_take_60 : decode cX6_take 60 = .ok (.invokevirtual 77, 3) := by decide +kernel
theorem dX6_take_63 : decode cX6_take 63 = .ok (.astore 8, 2) := by decide +kernel
theorem dX6_take_65 : decode cX6_take 65 = .ok (.aload 8, 2) := by decide +kernel
theorem dX6_take_67 : decode cX6_take 67 = .ok (.ifnull 33, 3) := by decide +kernel
theorem dX6_take_70 : decode cX6_take 70 = .ok (.aload 5, 2) := by decide +kernel
theorem dX6_take_72 : decode cX6_take 72 = .ok (.aload 8, 2) := by decide +kernel
theorem dX6_take_74 : decode cX6_take 74 = .ok (.iload 4, 2) := by decide +kernel
theorem dX6_take_76 : decode cX6_take 76 = .ok (.invokestatic 81, 3) := by decide +kernel
theorem dX6_take_79 : decode cX6_take 79 = .ok (.istore 9, 2) := by decide +kernel
theorem dX6_take_81 : decode cX6_take 81 = .ok (.iload 9, 2) := by decide +kernel
theorem dX6_take_83 : decode cX6_take 83 = .ok (.iconst (-1), 1) := by decide +kernel
theorem dX6_take_84 : decode cX6_take 84 = .ok (.if_icmp .eq 8, 3) := by decide +kernel
theorem dX6_take_87 : decode cX6_take 87 = .ok (.iload 9, 2) := by decide +kernel
theorem dX6_take_89 : decode cX6_take 89 = .ok (.goto 10, 3) := by decide +kernel
theorem dX6_take_92 : decode cX6_take 92 = .ok (.aload 5, 2) := by decide +kernel
theorem dX6_take_94 : decode cX6_take 94 = .ok (.aload 8, 2) := by decide +kernel
theorem dX6_take_96 : decode cX6_take 96 = .ok (.invokestatic 85, 3) := by decide +kernel
theorem dX6_take_99 : decode cX6_take 99 = .ok (.ireturn, 1) := by decide +kernel
theorem dX6_take_100 : decode cX6_take 100 = .ok (.aload 5, 2) := by decide +kernel
theorem dX6_take_102 : decode cX6_take 102 = .ok (.lload 6, 2) := by decide +kernel
theorem dX6_take_104 : decode cX6_take 104 = .ok (.iload_n 3, 1) := by decide +kernel
theorem dX6_take_105 : decode cX6_take 105 = .ok (.iconst 1, 1) := by decide +kernel
theorem dX6_take_106 : decode cX6_take 106 = .ok (.iconst 0, 1) := by decide +kernel
theorem dX6_take_107 : decode cX6_take 107 = .ok (.invokestatic 89, 3) := by decide +kernel
theorem dX6_take_110 : decode cX6_take 110 = .ok (.astore 9, 2) := by decide +kernel
theorem dX6_take_112 : decode cX6_take 112 = .ok (.aload 9, 2) := by decide +kernel
theorem dX6_take_114 : decode cX6_take 114 = .ok (.ifnonnull 7, 3) := by decide +kernel
theorem dX6_take_117 : decode cX6_take 117 = .ok (.iconst (-1), 1) := by decide +kernel
theorem dX6_take_118 : decode cX6_take 118 = .ok (.goto 8, 3) := by decide +kernel
theorem dX6_take_121 : decode cX6_take 121 = .ok (.aload 9, 2) := by decide +kernel
theorem dX6_take_123 : decode cX6_take 123 = .ok (.getfield 93, 3) := by decide +kernel
theorem dX6_take_126 : decode cX6_take 126 = .ok (.ireturn, 1) := by decide +kernel
theorem dX6_give_0 : decode cX6_give 0 = .ok (.aload_n 0, 1) := by decide +kernel
theorem dX6_give_1 : decode cX6_give 1 = .ok (.iload_n 1, 1) := by decide +kernel
theorem dX6_give_2 : decode cX6_give 2 = .ok (.invokevirtual 43, 3) := by decide +kernel
theorem dX6_give_5 : decode cX6_give 5 = .ok (.astore 5, 2) := by decide +kernel
theorem dX6_give_7 : decode cX6_give 7 = .ok (.iload_n 3, 1) := by decide +kernel
theorem dX6_give_8 : decode cX6_give 8 = .ok (.ifCond .le 11, 3) := by decide +kernel
theorem dX6_give_11 : decode cX6_give 11 = .ok (.iload 4, 2) := by decide +kernel
theorem dX6_give_13 : decode cX6_give 13 = .ok (.invokestatic 68, 3) := by decide +kernel
theorem dX6_give_16 : decode cX6_give 16 = .ok (.ifCond .ne 13, 3) := by decide +kernel
theorem dX6_give_19 : decode cX6_give 19 = .ok (.new 24, 3) := by decide +kernel
theorem dX6_give_22 : decode cX6_give 22 = .ok (.dup, 1) := by decide +kernel
theorem dX6_give_23 : decode cX6_give 23 = .ok (.ldc 98, 2) := by decide +kernel
theorem dX6_give_25 : decode cX6_give 25 = .ok (.invokespecial 28, 3) := by decide +kernel
theorem dX6_give_28 : decode cX6_give 28 = .ok (.athrow, 1) := by decide +kernel
theorem dX6_give_29 : decode cX6_give 29 = .ok (.aload 5, 2) := by decide +kernel
theorem dX6_give_31 : decode cX6_give 31 = .ok (.iload_n 3, 1) := by decide +kernel
theorem dX6_give_32 : decode cX6_give 32 = .ok (.invokevirtual 73, 3) := by decide +kernel
theorem dX6_give_35 : decode cX6_give 35 = .ok (.lstore 6, 2) := by decide +kernel
theorem dX6_give_37 : decode cX6_give 37 = .ok (.aload 5, 2) := by decide +kernel
theorem dX6_give_39 : decode cX6_give 39 = .ok (.lload 6, 2) := by decide +kernel
theorem dX6_give_41 : decode cX6_give 41 = .ok (.invokevirtual 77, 3) := by decide +kernel
theorem dX6_give_44 : decode cX6_give 44 = .ok (.astore 8, 2) := by decide +kernel
theorem dX6_give_46 : decode cX6_give 46 = .ok (.aload 8, 2) := by decide +kernel
theorem dX6_give_48 : decode cX6_give 48 = .ok (.ifnonnull 15, 3) := by decide +kernel
theorem dX6_give_51 : decode cX6_give 51 = .ok (.aload 5, 2) := by decide +kernel
theorem dX6_give_53 : decode cX6_give 53 = .ok (.iload_n 2, 1) := by decide +kernel
theorem dX6_give_54 : decode cX6_give 54 = .ok (.lload 6, 2) := by decide +kernel
theorem dX6_give_56 : decode cX6_give 56 = .ok (.iconst 1, 1) := by decide +kernel
theorem dX6_give_57 : decode cX6_give 57 = .ok (.invokestatic 100, 3) := by decide +kernel
theorem dX6_give_60 : decode cX6_give 60 = .ok (.goto 13, 3) := by decide +kernel
theorem dX6_give_63 : decode cX6_give 63 = .ok (.aload 5, 2) := by decide +kernel
theorem dX6_give_65 : decode cX6_give 65 = .ok (.aload 8, 2) := by decide +kernel
theorem dX6_give_67 : decode cX6_give 67 = .ok (.iload_n 2, 1) := by decide +kernel
theorem dX6_give_68 : decode cX6_give 68 = .ok (.iload 4, 2) := by decide +kernel
theorem dX6_give_70 : decode cX6_give 70 = .ok (.invokestatic 104, 3) := by decide +kernel
theorem dX6_give_73 : decode cX6_give 73 = .ok (.istore 9, 2) := by decide +kernel
theorem dX6_give_75 : decode cX6_give 75 = .ok (.iload 9, 2) := by decide +kernel
theorem dX6_give_77 : decode cX6_give 77 = .ok (.ifCond .ne 13, 3) := by decide +kernel
theorem dX6_give_80 : decode cX6_give 80 = .ok (.new 24, 3) := by decide +kernel
theorem dX6_give_83 : decode cX6_give 83 = .ok (.dup, 1) := by decide +kernel
theorem dX6_give_84 : decode cX6_give 84 = .ok (.ldc 108, 2) := by decide +kernel
theorem dX6_give_86 : decode cX6_give 86 = .ok (.invokespecial 28, 3) := by decide +kernel
theorem dX6_give_89 : decode cX6_give 89 = .ok (.athrow, 1) := by decide +kernel
theorem dX6_give_90 : decode cX6_give 90 = .ok (.iconst 0, 1) := by decide +kernel
theorem dX6_give_91 : decode cX6_give 91 = .ok (.ireturn, 1) := by decide +kernel
theorem dX6_takeWithin_0 : decode cX6_takeWithin 0 = .ok (.aload_n 0, 1) := by decide +kernel
theorem dX6_takeWithin_1 : decode cX6_takeWithin 1 = .ok (.iload_n 1, 1) := by decide +kernel
theorem dX6_takeWithin_2 : decode cX6_takeWithin 2 = .ok (.invokevirtual 43, 3) := by decide +kernel
theorem dX6_takeWithin_5 : decode cX6_takeWithin 5 = .ok (.astore 6, 2) := by decide +kernel
theorem dX6_takeWithin_7 : decode cX6_takeWithin 7 = .ok (.iload_n 2, 1) := by decide +kernel
theorem dX6_takeWithin_8 : decode cX6_takeWithin 8 = .ok (.ifCond .le 27, 3) := by decide +kernel
theorem dX6_takeWithin_11 : decode cX6_takeWithin 11 = .ok (.aload 6, 2) := by decide +kernel
theorem dX6_takeWithin_13 : decode cX6_takeWithin 13 = .ok (.iload_n 3, 1) := by decide +kernel
theorem dX6_takeWithin_14 : decode cX6_takeWithin 14 = .ok (.invokevirtual 110, 3) := by decide +kernel
theorem dX6_takeWithin_17 : decode cX6_takeWithin 17 = .ok (.ifCond .eq 18, 3) := by decide +kernel
theorem dX6_takeWithin_20 : decode cX6_takeWithin 20 = .ok (.iload 5, 2) := by decide +kernel
theorem dX6_takeWithin_22 : decode cX6_takeWithin 22 = .ok (.ifCond .eq 23, 3) := by decide +kernel
theorem dX6_takeWithin_25 : decode cX6_takeWithin 25 = .ok (.aload 6, 2) := by decide +kernel
theorem dX6_takeWithin_27 : decode cX6_takeWithin 27 = .ok (.iload 5, 2) := by decide +kernel
theorem dX6_takeWithin_29 : decode cX6_takeWithin 29 = .ok (.invokevirtual 110, 3) := by decide +kernel
theorem dX6_takeWithin_32 : decode cX6_takeWithin 32 = .ok (.ifCond .ne 13, 3) := by decide +kernel
theorem dX6_takeWithin_35 : decode cX6_takeWithin 35 = .ok (.new 24, 3) := by decide +kernel
theorem dX6_takeWithin_38 : decode cX6_takeWithin 38 = .ok (.dup, 1) := by decide +kernel
theorem dX6_takeWithin_39 : decode cX6_takeWithin 39 = .ok (.ldc 113, 2) := by decide +kernel
theorem dX6_takeWithin_41 : decode cX6_takeWithin 41 = .ok (.invokespecial 28, 3) := by decide +kernel
theorem dX6_takeWithin_44 : decode cX6_takeWithin 44 = .ok (.athrow, 1) := by decide +kernel
theorem dX6_takeWithin_45 : decode cX6_takeWithin 45 = .ok (.iload 4, 2) := by decide +kernel
theorem dX6_takeWithin_47 : decode cX6_takeWithin 47 = .ok (.ifCond .lt 19, 3) := by decide +kernel
theorem dX6_takeWithin_50 : decode cX6_takeWithin 50 = .ok (.iload 4, 2) := by decide +kernel
theorem dX6_takeWithin_52 : decode cX6_takeWithin 52 = .ok (.iload_n 3, 1) := by decide +kernel
theorem dX6_takeWithin_53 : decode cX6_takeWithin 53 = .ok (.if_icmp .ge 13, 3) := by decide +kernel
theorem dX6_takeWithin_56 : decode cX6_takeWithin 56 = .ok (.aload 6, 2) := by decide +kernel
theorem dX6_takeWithin_58 : decode cX6_takeWithin 58 = .ok (.iload 4, 2) := by decide +kernel
theorem dX6_takeWithin_60 : decode cX6_takeWithin 60 = .ok (.invokevirtual 46, 3) := by decide +kernel
theorem dX6_takeWithin_63 : decode cX6_takeWithin 63 = .ok (.ifCond .ne 13, 3) := by decide +kernel
theorem dX6_takeWithin_66 : decode cX6_takeWithin 66 = .ok (.new 24, 3) := by decide +kernel
theorem dX6_takeWithin_69 : decode cX6_takeWithin 69 = .ok (.dup, 1) := by decide +kernel
theorem dX6_takeWithin_70 : decode cX6_takeWithin 70 = .ok (.ldc 115, 2) := by decide +kernel
theorem dX6_takeWithin_72 : decode cX6_takeWithin 72 = .ok (.invokespecial 28, 3) := by decide +kernel
theorem dX6_takeWithin_75 : decode cX6_takeWithin 75 = .ok (.athrow, 1) := by decide +kernel
theorem dX6_takeWithin_76 : decode cX6_takeWithin 76 = .ok (.aload_n 0, 1) := by decide +kernel
theorem dX6_takeWithin_77 : decode cX6_takeWithin 77 = .ok (.invokevirtual 51, 3) := by decide +kernel
theorem dX6_takeWithin_80 : decode cX6_takeWithin 80 = .ok (.ifCond .eq 6, 3) := by decide +kernel
theorem dX6_takeWithin_83 : decode cX6_takeWithin 83 = .ok (.bipush (-2), 2) := by decide +kernel
theorem dX6_takeWithin_85 : decode cX6_takeWithin 85 = .ok (.ireturn, 1) := by decide +kernel
theorem dX6_takeWithin_86 : decode cX6_takeWithin 86 = .ok (.new 117, 3) := by decide +kernel
theorem dX6_takeWithin_89 : decode cX6_takeWithin 89 = .ok (.dup, 1) := by decide +kernel
theorem dX6_takeWithin_90 : decode cX6_takeWithin 90 = .ok (.aload 6, 2) := by decide +kernel
theorem dX6_takeWithin_92 : decode cX6_takeWithin 92 = .ok (.iload_n 2, 1) := by decide +kernel
theorem dX6_takeWithin_93 : decode cX6_takeWithin 93 = .ok (.iload_n 3, 1) := by decide +kernel
theorem dX6_takeWithin_94 : decode cX6_takeWithin 94 = .ok (.iload 4, 2) := by decide +kernel
theorem dX6_takeWithin_96 : decode cX6_takeWithin 96 = .ok (.iload 5, 2) := by decide +kernel
theorem dX6_takeWithin_98 : decode cX6_takeWithin 98 = .ok (.invokespecial 119, 3) := by decide +kernel
theorem dX6_takeWithin_101 : decode cX6_takeWithin 101 = .ok (.astore 7, 2) := by decide +kernel
theorem dX6_takeWithin_103 : decode cX6_takeWithin 103 = .ok (.aload 6, 2) := by decide +kernel
theorem dX6_takeWithin_105 : decode cX6_takeWithin 105 = .ok (.aload 7, 2) := by decide +kernel
theorem dX6_takeWithin_107 : decode cX6_takeWithin 107 = .ok (.invokevirtual 122, 3) := by decide +kernel
theorem dX6_takeWithin_110 : decode cX6_takeWithin 110 = .ok (.astore 8, 2) := by decide +kernel
theorem dX6_takeWithin_112 : decode cX6_takeWithin 112 = .ok (.aload 8, 2) := by decide +kernel
theorem dX6_takeWithin_114 : decode cX6_takeWithin 114 = .ok (.ifnonnull 20, 3) := by decide +kernel
theorem dX6_takeWithin_117 : decode cX6_takeWithin 117 = .ok (.aload 6, 2) := by decide +kernel
theorem dX6_takeWithin_119 : decode cX6_takeWithin 119 = .ok (.invokestatic 126, 3) := by decide +kernel
theorem dX6_takeWithin_122 : decode cX6_takeWithin 122 = .ok (.ifCond .le 12, 3) := by decide +kernel
theorem dX6_takeWithin_125 : decode cX6_takeWithin 125 = .ok (.aload 6, 2) := by decide +kernel
theorem dX6_takeWithin_127 : decode cX6_takeWithin 127 = .ok (.aload 7, 2) := by decide +kernel
theorem dX6_takeWithin_129 : decode cX6_takeWithin 129 = .ok (.invokevirtual 122, 3) := by decide +kernel
theorem dX6_takeWithin_132 : decode cX6_takeWithin 132 = .ok (.astore 8, 2) := by decide +kernel
theorem dX6_takeWithin_134 : decode cX6_takeWithin 134 = .ok (.aload 8, 2) := by decide +kernel
theorem dX6_takeWithin_136 : decode cX6_takeWithin 136 = .ok (.ifnonnull 5, 3) := by decide +kernel
theorem dX6_takeWithin_139 : decode cX6_takeWithin 139 = .ok (.iconst (-1), 1) := by decide +kernel
theorem dX6_takeWithin_140 : decode cX6_takeWithin 140 = .ok (.ireturn, 1) := by decide +kernel
theorem dX6_takeWithin_141 : decode cX6_takeWithin 141 = .ok (.aload 6, 2) := by decide +kernel
theorem dX6_takeWithin_143 : decode cX6_takeWithin 143 = .ok (.aload 8, 2) := by decide +kernel
theorem dX6_takeWithin_145 : decode cX6_takeWithin 145 = .ok (.aload 7, 2) := by decide +kernel
theorem dX6_takeWithin_147 : decode cX6_takeWithin 147 = .ok (.aload 8, 2) := by decide +kernel
theorem dX6_takeWithin_149 : decode cX6_takeWithin 149 = .ok (.invokevirtual 130, 3) := by decide +kernel
theorem dX6_takeWithin_152 : decode cX6_takeWithin 152 = .ok (.l2i, 1) := by decide +kernel
theorem dX6_takeWithin_153 : decode cX6_takeWithin 153 = .ok (.aload 7, 2) := by decide +kernel
theorem dX6_takeWithin_155 : decode cX6_takeWithin 155 = .ok (.getfield 134, 3) := by decide +kernel
theorem dX6_takeWithin_158 : decode cX6_takeWithin 158 = .ok (.l2i, 1) := by decide +kernel
theorem dX6_takeWithin_159 : decode cX6_takeWithin 159 = .ok (.invokevirtual 138, 3) := by decide +kernel
theorem dX6_takeWithin_162 : decode cX6_takeWithin 162 = .ok (.getfield 93, 3) := by decide +kernel
theorem dX6_takeWithin_165 : decode cX6_takeWithin 165 = .ok (.ireturn, 1) := by decide +kernel
theorem dX6_giveWithin_0 : decode cX6_giveWithin 0 = .ok (.aload_n 0, 1) := by decide +kernel
theorem dX6_giveWithin_1 : decode cX6_giveWithin 1 = .ok (.iload_n 1, 1) := by decide +kernel
theorem dX6_giveWithin_2 : decode cX6_giveWithin 2 = .ok (.invokevirtual 43, 3) := by decide +kernel
theorem dX6_giveWithin_5 : decode cX6_giveWithin 5 = .ok (.astore 4, 2) := by decide +kernel
theorem dX6_giveWithin_7 : decode cX6_giveWithin 7 = .ok (.iload_n 3, 1) := by decide +kernel
theorem dX6_giveWithin_8 : decode cX6_giveWithin 8 = .ok (.ifCond .le 19, 3) := by decide +kernel
theorem dX6_giveWithin_11 : decode cX6_giveWithin 11 = .ok (.aload 4, 2) := by decide +kernel
theorem dX6_giveWithin_13 : decode cX6_giveWithin 13 = .ok (.iload_n 2, 1) := by decide +kernel
theorem dX6_giveWithin_14 : decode cX6_giveWithin 14 = .ok (.aload 4, 2) := by decide +kernel
theorem dX6_giveWithin_16 : decode cX6_giveWithin 16 = .ok (.iload_n 3, 1) := by decide +kernel
theorem dX6_giveWithin_17 : decode cX6_giveWithin 17 = .ok (.invokevirtual 73, 3) := by decide +kernel
theorem dX6_giveWithin_20 : decode cX6_giveWithin 20 = .ok (.iconst 4, 1) := by decide +kernel
theorem dX6_giveWithin_21 : decode cX6_giveWithin 21 = .ok (.invokestatic 100, 3) := by decide +kernel
theorem dX6_giveWithin_24 : decode cX6_giveWithin 24 = .ok (.ifCond .ne 13, 3) := by decide +kernel
theorem dX6_giveWithin_27 : decode cX6_giveWithin 27 = .ok (.new 24, 3) := by decide +kernel
theorem dX6_giveWithin_30 : decode cX6_giveWithin 30 = .ok (.dup, 1) := by decide +kernel
theorem dX6_giveWithin_31 : decode cX6_giveWithin 31 = .ok (.ldc 142, 2) := by decide +kernel
theorem dX6_giveWithin_33 : decode cX6_giveWithin 33 = .ok (.invokespecial 28, 3) := by decide +kernel
theorem dX6_giveWithin_36 : decode cX6_giveWithin 36 = .ok (.athrow, 1) := by decide +kernel
theorem dX6_giveWithin_37 : decode cX6_giveWithin 37 = .ok (.iconst 0, 1) := by decide +kernel
theorem dX6_giveWithin_38 : decode cX6_giveWithin 38 = .ok (.ireturn, 1) := by decide +kernel
theorem dX6_bounds_0 : decode cX6_bounds 0 = .ok (.aload_n 0, 1) := by decide +kernel
theorem dX6_bounds_1 : decode cX6_bounds 1 = .ok (.iload_n 1, 1) := by decide +kernel
theorem dX6_bounds_2 : decode cX6_bounds 2 = .ok (.invokevirtual 43, 3) := by decide +kernel
theorem dX6_bounds_5 : decode cX6_bounds 5 = .ok (.astore 4, 2) := by decide +kernel
theorem dX6_bounds_7 : decode cX6_bounds 7 = .ok (.iload_n 2, 1) := by decide +kernel
theorem dX6_bounds_8 : decode cX6_bounds 8 = .ok (.ifCond .lt 14, 3) := by decide +kernel
theorem dX6_bounds_11 : decode cX6_bounds 11 = .ok (.iload_n 3, 1) := by decide +kernel
theorem dX6_bounds_12 : decode cX6_bounds 12 = .ok (.iload_n 2, 1) := by decide +kernel
theorem dX6_bounds_13 : decode cX6_bounds 13 = .ok (.if_icmp .lt 9, 3) := by decide +kernel
theorem dX6_bounds_16 : decode cX6_bounds 16 = .ok (.iload_n 3, 1) := by decide +kernel
theorem dX6_bounds_17 : decode cX6_bounds 17 = .ok (.ldc 144, 2) := by decide +kernel
theorem dX6_bounds_19 : decode cX6_bounds 19 = .ok (.if_icmp .le 13, 3) := by decide +kernel
theorem dX6_bounds_22 : decode cX6_bounds 22 = .ok (.new 24, 3) := by decide +kernel
theorem dX6_bounds_25 : decode cX6_bounds 25 = .ok (.dup, 1) := by decide +kernel
theorem dX6_bounds_26 : decode cX6_bounds 26 = .ok (.ldc 145, 2) := by decide +kernel
theorem dX6_bounds_28 : decode cX6_bounds 28 = .ok (.invokespecial 28, 3) := by decide +kernel
theorem dX6_bounds_31 : decode cX6_bounds 31 = .ok (.athrow, 1) := by decide +kernel
theorem dX6_bounds_32 : decode cX6_bounds 32 = .ok (.aload 4, 2) := by decide +kernel
theorem dX6_bounds_34 : decode cX6_bounds 34 = .ok (.iload_n 2, 1) := by decide +kernel
theorem dX6_bounds_35 : decode cX6_bounds 35 = .ok (.putfield 147, 3) := by decide +kernel
theorem dX6_bounds_38 : decode cX6_bounds 38 = .ok (.aload 4, 2) := by decide +kernel
theorem dX6_bounds_40 : decode cX6_bounds 40 = .ok (.iload_n 3, 1) := by decide +kernel
theorem dX6_bounds_41 : decode cX6_bounds 41 = .ok (.putfield 150, 3) := by decide +kernel
theorem dX6_bounds_44 : decode cX6_bounds 44 = .ok (.return_, 1) := by decide +kernel
theorem dX6_purge_0 : decode cX6_purge 0 = .ok (.aload_n 0, 1) := by decide +kernel
theorem dX6_purge_1 : decode cX6_purge 1 = .ok (.iload_n 1, 1) := by decide +kernel
theorem dX6_purge_2 : decode cX6_purge 2 = .ok (.invokevirtual 43, 3) := by decide +kernel
theorem dX6_purge_5 : decode cX6_purge 5 = .ok (.invokestatic 126, 3) := by decide +kernel
theorem dX6_purge_8 : decode cX6_purge 8 = .ok (.ireturn, 1) := by decide +kernel
theorem dX6_tags_0 : decode cX6_tags 0 = .ok (.aload_n 0, 1) := by decide +kernel
theorem dX6_tags_1 : decode cX6_tags 1 = .ok (.invokevirtual 153, 3) := by decide +kernel
theorem dX6_tags_4 : decode cX6_tags 4 = .ok (.ireturn, 1) := by decide +kernel
theorem dX6_count_0 : decode cX6_count 0 = .ok (.aload_n 0, 1) := by decide +kernel
theorem dX6_count_1 : decode cX6_count 1 = .ok (.iload_n 1, 1) := by decide +kernel
theorem dX6_count_2 : decode cX6_count 2 = .ok (.invokevirtual 43, 3) := by decide +kernel
theorem dX6_count_5 : decode cX6_count 5 = .ok (.astore_n 3, 1) := by decide +kernel
theorem dX6_count_6 : decode cX6_count 6 = .ok (.iload_n 2, 1) := by decide +kernel
theorem dX6_count_7 : decode cX6_count 7 = .ok (.tableswitch 190 0 14 #[73, 78, 97, 102, 107, 112, 118, 124, 141, 147, 153, 159, 164, 180, 185], 73) := by decide +kernel
theorem dX6_count_80 : decode cX6_count 80 = .ok (.aload_n 3, 1) := by decide +kernel
theorem dX6_count_81 : decode cX6_count 81 = .ok (.getfield 35, 3) := by decide +kernel
theorem dX6_count_84 : decode cX6_count 84 = .ok (.ireturn, 1) := by decide +kernel
theorem dX6_count_85 : decode cX6_count 85 = .ok (.aload_n 3, 1) := by decide +kernel
theorem dX6_count_86 : decode cX6_count 86 = .ok (.getfield 57, 3) := by decide +kernel
theorem dX6_count_89 : decode cX6_count 89 = .ok (.ifnonnull 7, 3) := by decide +kernel
theorem dX6_count_92 : decode cX6_count 92 = .ok (.iconst (-1), 1) := by decide +kernel
theorem dX6_count_93 : decode cX6_count 93 = .ok (.goto 10, 3) := by decide +kernel
theorem dX6_count_96 : decode cX6_count 96 = .ok (.aload_n 3, 1) := by decide +kernel
theorem dX6_count_97 : decode cX6_count 97 = .ok (.getfield 57, 3) := by decide +kernel
theorem dX6_count_100 : decode cX6_count 100 = .ok (.getfield 157, 3) := by decide +kernel
theorem dX6_count_103 : decode cX6_count 103 = .ok (.ireturn, 1) := by decide +kernel
theorem dX6_count_104 : decode cX6_count 104 = .ok (.aload_n 3, 1) := by decide +kernel
theorem dX6_count_105 : decode cX6_count 105 = .ok (.getfield 160, 3) := by decide +kernel
theorem dX6_count_108 : decode cX6_count 108 = .ok (.ireturn, 1) := by decide +kernel
theorem dX6_count_109 : decode cX6_count 109 = .ok (.aload_n 3, 1) := by decide +kernel
theorem dX6_count_110 : decode cX6_count 110 = .ok (.getfield 163, 3) := by decide +kernel
theorem dX6_count_113 : decode cX6_count 113 = .ok (.ireturn, 1) := by decide +kernel
theorem dX6_count_114 : decode cX6_count 114 = .ok (.aload_n 3, 1) := by decide +kernel
theorem dX6_count_115 : decode cX6_count 115 = .ok (.getfield 166, 3) := by decide +kernel
theorem dX6_count_118 : decode cX6_count 118 = .ok (.ireturn, 1) := by decide +kernel
theorem dX6_count_119 : decode cX6_count 119 = .ok (.aload_n 3, 1) := by decide +kernel
theorem dX6_count_120 : decode cX6_count 120 = .ok (.iconst 0, 1) := by decide +kernel
theorem dX6_count_121 : decode cX6_count 121 = .ok (.invokevirtual 169, 3) := by decide +kernel
theorem dX6_count_124 : decode cX6_count 124 = .ok (.ireturn, 1) := by decide +kernel
theorem dX6_count_125 : decode cX6_count 125 = .ok (.aload_n 3, 1) := by decide +kernel
theorem dX6_count_126 : decode cX6_count 126 = .ok (.iconst 0, 1) := by decide +kernel
theorem dX6_count_127 : decode cX6_count 127 = .ok (.invokevirtual 173, 3) := by decide +kernel
theorem dX6_count_130 : decode cX6_count 130 = .ok (.ireturn, 1) := by decide +kernel
theorem dX6_count_131 : decode cX6_count 131 = .ok (.aload_n 3, 1) := by decide +kernel
theorem dX6_count_132 : decode cX6_count 132 = .ok (.iconst 1, 1) := by decide +kernel
theorem dX6_count_133 : decode cX6_count 133 = .ok (.invokevirtual 173, 3) := by decide +kernel
theorem dX6_count_136 : decode cX6_count 136 = .ok (.aload_n 3, 1) := by decide +kernel
theorem dX6_count_137 : decode cX6_count 137 = .ok (.iconst 4, 1) := by decide +kernel
theorem dX6_count_138 : decode cX6_count 138 = .ok (.invokevirtual 173, 3) := by decide +kernel
theorem dX6_count_141 : decode cX6_count 141 = .ok (.iadd, 1) := by decide +kernel
theorem dX6_count_142 : decode cX6_count 142 = .ok (.aload_n 3, 1) := by decide +kernel
theorem dX6_count_143 : decode cX6_count 143 = .ok (.invokevirtual 176, 3) := by decide +kernel
theorem dX6_count_146 : decode cX6_count 146 = .ok (.iadd, 1) := by decide +kernel
theorem dX6_count_147 : decode cX6_count 147 = .ok (.ireturn, 1) := by decide +kernel
theorem dX6_count_148 : decode cX6_count 148 = .ok (.aload_n 3, 1) := by decide +kernel
theorem dX6_count_149 : decode cX6_count 149 = .ok (.iconst 3, 1) := by decide +kernel
theorem dX6_count_150 : decode cX6_count 150 = .ok (.invokevirtual 173, 3) := by decide +kernel
theorem dX6_count_153 : decode cX6_count 153 = .ok (.ireturn, 1) := by decide +kernel
theorem dX6_count_154 : decode cX6_count 154 = .ok (.aload_n 3, 1) := by decide +kernel
theorem dX6_count_155 : decode cX6_count 155 = .ok (.iconst 2, 1) := by decide +kernel
theorem dX6_count_156 : decode cX6_count 156 = .ok (.invokevirtual 173, 3) := by decide +kernel
theorem dX6_count_159 : decode cX6_count 159 = .ok (.ireturn, 1) := by decide +kernel
theorem dX6_count_160 : decode cX6_count 160 = .ok (.aload_n 3, 1) := by decide +kernel
theorem dX6_count_161 : decode cX6_count 161 = .ok (.iconst 2, 1) := by decide +kernel
theorem dX6_count_162 : decode cX6_count 162 = .ok (.invokevirtual 169, 3) := by decide +kernel
theorem dX6_count_165 : decode cX6_count 165 = .ok (.ireturn, 1) := by decide +kernel
theorem dX6_count_166 : decode cX6_count 166 = .ok (.aload_n 3, 1) := by decide +kernel
theorem dX6_count_167 : decode cX6_count 167 = .ok (.getfield 179, 3) := by decide +kernel
theorem dX6_count_170 : decode cX6_count 170 = .ok (.ireturn, 1) := by decide +kernel
theorem dX6_count_171 : decode cX6_count 171 = .ok (.aload_n 3, 1) := by decide +kernel
theorem dX6_count_172 : decode cX6_count 172 = .ok (.getfield 57, 3) := by decide +kernel
theorem dX6_count_175 : decode cX6_count 175 = .ok (.ifnonnull 7, 3) := by decide +kernel
theorem dX6_count_178 : decode cX6_count 178 = .ok (.iconst 0, 1) := by decide +kernel
theorem dX6_count_179 : decode cX6_count 179 = .ok (.goto 7, 3) := by decide +kernel
theorem dX6_count_182 : decode cX6_count 182 = .ok (.aload_n 3, 1) := by decide +kernel
theorem dX6_count_183 : decode cX6_count 183 = .ok (.getfield 163, 3) := by decide +kernel
theorem dX6_count_186 : decode cX6_count 186 = .ok (.ireturn, 1) := by decide +kernel
theorem dX6_count_187 : decode cX6_count 187 = .ok (.aload_n 3, 1) := by decide +kernel
theorem dX6_count_188 : decode cX6_count 188 = .ok (.getfield 182, 3) := by decide +kernel
theorem dX6_count_191 : decode cX6_count 191 = .ok (.ireturn, 1) := by decide +kernel
theorem dX6_count_192 : decode cX6_count 192 = .ok (.aload_n 3, 1) := by decide +kernel
theorem dX6_count_193 : decode cX6_count 193 = .ok (.getfield 185, 3) := by decide +kernel
theorem dX6_count_196 : decode cX6_count 196 = .ok (.ireturn, 1) := by decide +kernel
theorem dX6_count_197 : decode cX6_count 197 = .ok (.new 188, 3) := by decide +kernel
theorem dX6_count_200 : decode cX6_count 200 = .ok (.dup, 1) := by decide +kernel
theorem dX6_count_201 : decode cX6_count 201 = .ok (.ldc 190, 2) := by decide +kernel
theorem dX6_count_203 : decode cX6_count 203 = .ok (.invokespecial 192, 3) := by decide +kernel
theorem dX6_count_206 : decode cX6_count 206 = .ok (.athrow, 1) := by decide +kernel
theorem dX6_segment_0 : decode cX6_segment 0 = .ok (.aload_n 0, 1) := by decide +kernel
theorem dX6_segment_1 : decode cX6_segment 1 = .ok (.iload_n 1, 1) := by decide +kernel
theorem dX6_segment_2 : decode cX6_segment 2 = .ok (.invokevirtual 43, 3) := by decide +kernel
theorem dX6_segment_5 : decode cX6_segment 5 = .ok (.astore 4, 2) := by decide +kernel
theorem dX6_segment_7 : decode cX6_segment 7 = .ok (.aload 4, 2) := by decide +kernel
theorem dX6_segment_9 : decode cX6_segment 9 = .ok (.iload_n 2, 1) := by decide +kernel
theorem dX6_segment_10 : decode cX6_segment 10 = .ok (.invokevirtual 193, 3) := by decide +kernel
theorem dX6_segment_13 : decode cX6_segment 13 = .ok (.astore 5, 2) := by decide +kernel
theorem dX6_segment_15 : decode cX6_segment 15 = .ok (.aload 5, 2) := by decide +kernel
theorem dX6_segment_17 : decode cX6_segment 17 = .ok (.ifnonnull 13, 3) := by decide +kernel
theorem dX6_segment_20 : decode cX6_segment 20 = .ok (.new 188, 3) := by decide +kernel
theorem dX6_segment_23 : decode cX6_segment 23 = .ok (.dup, 1) := by decide +kernel
theorem dX6_segment_24 : decode cX6_segment 24 = .ok (.ldc 197, 2) := by decide +kernel
theorem dX6_segment_26 : decode cX6_segment 26 = .ok (.invokespecial 192, 3) := by decide +kernel
theorem dX6_segment_29 : decode cX6_segment 29 = .ok (.athrow, 1) := by decide +kernel
theorem dX6_segment_30 : decode cX6_segment 30 = .ok (.iload_n 3, 1) := by decide +kernel
theorem dX6_segment_31 : decode cX6_segment 31 = .ok (.tableswitch 132 0 7 #[45, 51, 57, 63, 86, 106, 112, 118], 45) := by decide +kernel
theorem dX6_segment_76 : decode cX6_segment 76 = .ok (.aload 5, 2) := by decide +kernel
theorem dX6_segment_78 : decode cX6_segment 78 = .ok (.getfield 93, 3) := by decide +kernel
theorem dX6_segment_81 : decode cX6_segment 81 = .ok (.ireturn, 1) := by decide +kernel
theorem dX6_segment_82 : decode cX6_segment 82 = .ok (.aload 5, 2) := by decide +kernel
theorem dX6_segment_84 : decode cX6_segment 84 = .ok (.getfield 199, 3) := by decide +kernel
theorem dX6_segment_87 : decode cX6_segment 87 = .ok (.ireturn, 1) := by decide +kernel
theorem dX6_segment_88 : decode cX6_segment 88 = .ok (.aload 5, 2) := by decide +kernel
theorem dX6_segment_90 : decode cX6_segment 90 = .ok (.getfield 201, 3) := by decide +kernel
theorem dX6_segment_93 : decode cX6_segment 93 = .ok (.ireturn, 1) := by decide +kernel
theorem dX6_segment_94 : decode cX6_segment 94 = .ok (.aload 5, 2) := by decide +kernel
theorem dX6_segment_96 : decode cX6_segment 96 = .ok (.getfield 201, 3) := by decide +kernel
theorem dX6_segment_99 : decode cX6_segment 99 = .ok (.ifCond .ne 16, 3) := by decide +kernel
theorem dX6_segment_102 : decode cX6_segment 102 = .ok (.aload 4, 2) := by decide +kernel
theorem dX6_segment_104 : decode cX6_segment 104 = .ok (.aload 5, 2) := by decide +kernel
theorem dX6_segment_106 : decode cX6_segment 106 = .ok (.getfield 199, 3) := by decide +kernel
theorem dX6_segment_109 : decode cX6_segment 109 = .ok (.invokevirtual 204, 3) := by decide +kernel
theorem dX6_segment_112 : decode cX6_segment 112 = .ok (.goto 4, 3) := by decide +kernel
theorem dX6_segment_115 : decode cX6_segment 115 = .ok (.iconst (-1), 1) := by decide +kernel
theorem dX6_segment_116 : decode cX6_segment 116 = .ok (.ireturn, 1) := by decide +kernel
theorem dX6_segment_117 : decode cX6_segment 117 = .ok (.aload 5, 2) := by decide +kernel
theorem dX6_segment_119 : decode cX6_segment 119 = .ok (.getfield 201, 3) := by decide +kernel
theorem dX6_segment_122 : decode cX6_segment 122 = .ok (.ifCond .ne 13, 3) := by decide +kernel
theorem dX6_segment_125 : decode cX6_segment 125 = .ok (.aload 4, 2) := by decide +kernel
theorem dX6_segment_127 : decode cX6_segment 127 = .ok (.aload 5, 2) := by decide +kernel
theorem dX6_segment_129 : decode cX6_segment 129 = .ok (.invokevirtual 207, 3) := by decide +kernel
theorem dX6_segment_132 : decode cX6_segment 132 = .ok (.goto 4, 3) := by decide +kernel
theorem dX6_segment_135 : decode cX6_segment 135 = .ok (.iconst (-1), 1) := by decide +kernel
theorem dX6_segment_136 : decode cX6_segment 136 = .ok (.ireturn, 1) := by decide +kernel
theorem dX6_segment_137 : decode cX6_segment 137 = .ok (.aload 5, 2) := by decide +kernel
theorem dX6_segment_139 : decode cX6_segment 139 = .ok (.getfield 211, 3) := by decide +kernel
theorem dX6_segment_142 : decode cX6_segment 142 = .ok (.ireturn, 1) := by decide +kernel
theorem dX6_segment_143 : decode cX6_segment 143 = .ok (.aload 5, 2) := by decide +kernel
theorem dX6_segment_145 : decode cX6_segment 145 = .ok (.getfield 214, 3) := by decide +kernel
theorem dX6_segment_148 : decode cX6_segment 148 = .ok (.ireturn, 1) := by decide +kernel
theorem dX6_segment_149 : decode cX6_segment 149 = .ok (.aload 4, 2) := by decide +kernel
theorem dX6_segment_151 : decode cX6_segment 151 = .ok (.getfield 57, 3) := by decide +kernel
theorem dX6_segment_154 : decode cX6_segment 154 = .ok (.ifnonnull 7, 3) := by decide +kernel
theorem dX6_segment_157 : decode cX6_segment 157 = .ok (.iconst 0, 1) := by decide +kernel
theorem dX6_segment_158 : decode cX6_segment 158 = .ok (.goto 4, 3) := by decide +kernel
theorem dX6_segment_161 : decode cX6_segment 161 = .ok (.iconst 1, 1) := by decide +kernel
theorem dX6_segment_162 : decode cX6_segment 162 = .ok (.ireturn, 1) := by decide +kernel
theorem dX6_segment_163 : decode cX6_segment 163 = .ok (.new 188, 3) := by decide +kernel
theorem dX6_segment_166 : decode cX6_segment 166 = .ok (.dup, 1) := by decide +kernel
theorem dX6_segment_167 : decode cX6_segment 167 = .ok (.ldc 217, 2) := by decide +kernel
theorem dX6_segment_169 : decode cX6_segment 169 = .ok (.invokespecial 192, 3) := by decide +kernel
theorem dX6_segment_172 : decode cX6_segment 172 = .ok (.athrow, 1) := by decide +kernel
theorem dX6_cache_0 : decode cX6_cache 0 = .ok (.aload_n 0, 1) := by decide +kernel
theorem dX6_cache_1 : decode cX6_cache 1 = .ok (.iload_n 1, 1) := by decide +kernel
theorem dX6_cache_2 : decode cX6_cache 2 = .ok (.invokevirtual 43, 3) := by decide +kernel
theorem dX6_cache_5 : decode cX6_cache 5 = .ok (.astore 4, 2) := by decide +kernel
theorem dX6_cache_7 : decode cX6_cache 7 = .ok (.aload 4, 2) := by decide +kernel
theorem dX6_cache_9 : decode cX6_cache 9 = .ok (.iload_n 2, 1) := by decide +kernel
theorem dX6_cache_10 : decode cX6_cache 10 = .ok (.invokevirtual 219, 3) := by decide +kernel
theorem dX6_cache_13 : decode cX6_cache 13 = .ok (.astore 5, 2) := by decide +kernel
theorem dX6_cache_15 : decode cX6_cache 15 = .ok (.aload 5, 2) := by decide +kernel
theorem dX6_cache_17 : decode cX6_cache 17 = .ok (.ifnonnull 13, 3) := by decide +kernel
theorem dX6_cache_20 : decode cX6_cache 20 = .ok (.new 188, 3) := by decide +kernel
theorem dX6_cache_23 : decode cX6_cache 23 = .ok (.dup, 1) := by decide +kernel
theorem dX6_cache_24 : decode cX6_cache 24 = .ok (.ldc 223, 2) := by decide +kernel
theorem dX6_cache_26 : decode cX6_cache 26 = .ok (.invokespecial 192, 3) := by decide +kernel
theorem dX6_cache_29 : decode cX6_cache 29 = .ok (.athrow, 1) := by decide +kernel
theorem dX6_cache_30 : decode cX6_cache 30 = .ok (.iload_n 3, 1) := by decide +kernel
theorem dX6_cache_31 : decode cX6_cache 31 = .ok (.tableswitch 160 0 9 #[53, 61, 73, 85, 97, 109, 120, 128, 136, 148], 53) := by decide +kernel
theorem dX6_cache_84 : decode cX6_cache 84 = .ok (.aload 4, 2) := by decide +kernel
theorem dX6_cache_86 : decode cX6_cache 86 = .ok (.aload 5, 2) := by decide +kernel
theorem dX6_cache_88 : decode cX6_cache 88 = .ok (.invokevirtual 225, 3) := by decide +kernel
theorem dX6_cache_91 : decode cX6_cache 91 = .ok (.ireturn, 1) := by decide +kernel
theorem dX6_cache_92 : decode cX6_cache 92 = .ok (.aload 5, 2) := by decide +kernel
theorem dX6_cache_94 : decode cX6_cache 94 = .ok (.getfield 229, 3) := by decide +kernel
theorem dX6_cache_97 : decode cX6_cache 97 = .ok (.getfield 235, 3) := by decide +kernel
theorem dX6_cache_100 : decode cX6_cache 100 = .ok (.getfield 241, 3) := by decide +kernel
theorem dX6_cache_103 : decode cX6_cache 103 = .ok (.ireturn, 1) := by decide +kernel
theorem dX6_cache_104 : decode cX6_cache 104 = .ok (.aload 5, 2) := by decide +kernel
theorem dX6_cache_106 : decode cX6_cache 106 = .ok (.getfield 229, 3) := by decide +kernel
theorem dX6_cache_109 : decode cX6_cache 109 = .ok (.getfield 246, 3) := by decide +kernel
theorem dX6_cache_112 : decode cX6_cache 112 = .ok (.getfield 241, 3) := by decide +kernel
theorem dX6_cache_115 : decode cX6_cache 115 = .ok (.ireturn, 1) := by decide +kernel
theorem dX6_cache_116 : decode cX6_cache 116 = .ok (.aload 5, 2) := by decide +kernel
theorem dX6_cache_118 : decode cX6_cache 118 = .ok (.getfield 249, 3) := by decide +kernel
theorem dX6_cache_121 : decode cX6_cache 121 = .ok (.getfield 235, 3) := by decide +kernel
theorem dX6_cache_124 : decode cX6_cache 124 = .ok (.getfield 241, 3) := by decide +kernel
theorem dX6_cache_127 : decode cX6_cache 127 = .ok (.ireturn, 1) := by decide +kernel
theorem dX6_cache_128 : decode cX6_cache 128 = .ok (.aload 5, 2) := by decide +kernel
theorem dX6_cache_130 : decode cX6_cache 130 = .ok (.getfield 249, 3) := by decide +kernel
theorem dX6_cache_133 : decode cX6_cache 133 = .ok (.getfield 246, 3) := by decide +kernel
theorem dX6_cache_136 : decode cX6_cache 136 = .ok (.getfield 241, 3) := by decide +kernel
theorem dX6_cache_139 : decode cX6_cache 139 = .ok (.ireturn, 1) := by decide +kernel
theorem dX6_cache_140 : decode cX6_cache 140 = .ok (.aload 5, 2) := by decide +kernel
theorem dX6_cache_142 : decode cX6_cache 142 = .ok (.getfield 252, 3) := by decide +kernel
theorem dX6_cache_145 : decode cX6_cache 145 = .ok (.getfield 241, 3) := by decide +kernel
theorem dX6_cache_148 : decode cX6_cache 148 = .ok (.iconst 3, 1) := by decide +kernel
theorem dX6_cache_149 : decode cX6_cache 149 = .ok (.idiv, 1) := by decide +kernel
theorem dX6_cache_150 : decode cX6_cache 150 = .ok (.ireturn, 1) := by decide +kernel
theorem dX6_cache_151 : decode cX6_cache 151 = .ok (.aload 4, 2) := by decide +kernel
theorem dX6_cache_153 : decode cX6_cache 153 = .ok (.aload 5, 2) := by decide +kernel
theorem dX6_cache_155 : decode cX6_cache 155 = .ok (.invokevirtual 255, 3) := by decide +kernel
theorem dX6_cache_158 : decode cX6_cache 158 = .ok (.ireturn, 1) := by decide +kernel
theorem dX6_cache_159 : decode cX6_cache 159 = .ok (.aload 4, 2) := by decide +kernel
theorem dX6_cache_161 : decode cX6_cache 161 = .ok (.aload 5, 2) := by decide +kernel
theorem dX6_cache_163 : decode cX6_cache 163 = .ok (.invokevirtual 258, 3) := by decide +kernel
theorem dX6_cache_166 : decode cX6_cache 166 = .ok (.ireturn, 1) := by decide +kernel
theorem dX6_cache_167 : decode cX6_cache 167 = .ok (.aload 5, 2) := by decide +kernel
theorem dX6_cache_169 : decode cX6_cache 169 = .ok (.getfield 229, 3) := by decide +kernel
theorem dX6_cache_172 : decode cX6_cache 172 = .ok (.getfield 235, 3) := by decide +kernel
theorem dX6_cache_175 : decode cX6_cache 175 = .ok (.invokevirtual 261, 3) := by decide +kernel
theorem dX6_cache_178 : decode cX6_cache 178 = .ok (.ireturn, 1) := by decide +kernel
theorem dX6_cache_179 : decode cX6_cache 179 = .ok (.aload 5, 2) := by decide +kernel
theorem dX6_cache_181 : decode cX6_cache 181 = .ok (.getfield 249, 3) := by decide +kernel
theorem dX6_cache_184 : decode cX6_cache 184 = .ok (.getfield 235, 3) := by decide +kernel
theorem dX6_cache_187 : decode cX6_cache 187 = .ok (.invokevirtual 261, 3) := by decide +kernel
theorem dX6_cache_190 : decode cX6_cache 190 = .ok (.ireturn, 1) := by decide +kernel
theorem dX6_cache_191 : decode cX6_cache 191 = .ok (.new 188, 3) := by decide +kernel
theorem dX6_cache_194 : decode cX6_cache 194 = .ok (.dup, 1) := by decide +kernel
theorem dX6_cache_195 : decode cX6_cache 195 = .ok (.ldc_w 264, 3) := by decide +kernel
theorem dX6_cache_198 : decode cX6_cache 198 = .ok (.invokespecial 192, 3) := by decide +kernel
theorem dX6_cache_201 : decode cX6_cache 201 = .ok (.athrow, 1) := by decide +kernel
theorem dX6_where_0 : decode cX6_where 0 = .ok (.aload_n 0, 1) := by decide +kernel
theorem dX6_where_1 : decode cX6_where 1 = .ok (.iload_n 1, 1) := by decide +kernel
theorem dX6_where_2 : decode cX6_where 2 = .ok (.invokevirtual 43, 3) := by decide +kernel
theorem dX6_where_5 : decode cX6_where 5 = .ok (.iload_n 2, 1) := by decide +kernel
theorem dX6_where_6 : decode cX6_where 6 = .ok (.invokevirtual 266, 3) := by decide +kernel
theorem dX6_where_9 : decode cX6_where 9 = .ok (.astore_n 3, 1) := by decide +kernel
theorem dX6_where_10 : decode cX6_where 10 = .ok (.aload_n 3, 1) := by decide +kernel
theorem dX6_where_11 : decode cX6_where 11 = .ok (.ifnonnull 5, 3) := by decide +kernel
theorem dX6_where_14 : decode cX6_where 14 = .ok (.iconst (-1), 1) := by decide +kernel
theorem dX6_where_15 : decode cX6_where 15 = .ok (.ireturn, 1) := by decide +kernel
theorem dX6_where_16 : decode cX6_where 16 = .ok (.aload_n 3, 1) := by decide +kernel
theorem dX6_where_17 : decode cX6_where 17 = .ok (.getfield 201, 3) := by decide +kernel
theorem dX6_where_20 : decode cX6_where 20 = .ok (.iconst 2, 1) := by decide +kernel
theorem dX6_where_21 : decode cX6_where 21 = .ok (.if_icmp .ne 19, 3) := by decide +kernel
theorem dX6_where_24 : decode cX6_where 24 = .ok (.aload_n 3, 1) := by decide +kernel
theorem dX6_where_25 : decode cX6_where 25 = .ok (.aload_n 3, 1) := by decide +kernel
theorem dX6_where_26 : decode cX6_where 26 = .ok (.iload_n 2, 1) := by decide +kernel
theorem dX6_where_27 : decode cX6_where 27 = .ok (.invokevirtual 269, 3) := by decide +kernel
theorem dX6_where_30 : decode cX6_where 30 = .ok (.invokevirtual 272, 3) := by decide +kernel
theorem dX6_where_33 : decode cX6_where 33 = .ok (.ifCond .eq 7, 3) := by decide +kernel
theorem dX6_where_36 : decode cX6_where 36 = .ok (.iconst 1, 1) := by decide +kernel
theorem dX6_where_37 : decode cX6_where 37 = .ok (.goto 7, 3) := by decide +kernel
theorem dX6_where_40 : decode cX6_where 40 = .ok (.aload_n 3, 1) := by decide +kernel
theorem dX6_where_41 : decode cX6_where 41 = .ok (.getfield 201, 3) := by decide +kernel
theorem dX6_where_44 : decode cX6_where 44 = .ok (.ireturn, 1) := by decide +kernel
theorem dX6_isPowerOfTwo_0 : decode cX6_isPowerOfTwo 0 = .ok (.iload_n 0, 1) := by decide +kernel
theorem dX6_isPowerOfTwo_1 : decode cX6_isPowerOfTwo 1 = .ok (.ifCond .le 15, 3) := by decide +kernel
theorem dX6_isPowerOfTwo_4 : decode cX6_isPowerOfTwo 4 = .ok (.iload_n 0, 1) := by decide +kernel
theorem dX6_isPowerOfTwo_5 : decode cX6_isPowerOfTwo 5 = .ok (.iload_n 0, 1) := by decide +kernel
theorem dX6_isPowerOfTwo_6 : decode cX6_isPowerOfTwo 6 = .ok (.iconst 1, 1) := by decide +kernel
theorem dX6_isPowerOfTwo_7 : decode cX6_isPowerOfTwo 7 = .ok (.isub, 1) := by decide +kernel
theorem dX6_isPowerOfTwo_8 : decode cX6_isPowerOfTwo 8 = .ok (.iand, 1) := by decide +kernel
theorem dX6_isPowerOfTwo_9 : decode cX6_isPowerOfTwo 9 = .ok (.ifCond .ne 7, 3) := by decide +kernel
theorem dX6_isPowerOfTwo_12 : decode cX6_isPowerOfTwo 12 = .ok (.iconst 1, 1) := by decide +kernel
theorem dX6_isPowerOfTwo_13 : decode cX6_isPowerOfTwo 13 = .ok (.goto 4, 3) := by decide +kernel
theorem dX6_isPowerOfTwo_16 : decode cX6_isPowerOfTwo 16 = .ok (.iconst 0, 1) := by decide +kernel
theorem dX6_isPowerOfTwo_17 : decode cX6_isPowerOfTwo 17 = .ok (.ireturn, 1) := by decide +kernel
theorem dX6_isDesk_0 : decode cX6_isDesk 0 = .ok (.iload_n 0, 1) := by decide +kernel
theorem dX6_isDesk_1 : decode cX6_isDesk 1 = .ok (.ifCond .eq 8, 3) := by decide +kernel
theorem dX6_isDesk_4 : decode cX6_isDesk 4 = .ok (.iload_n 0, 1) := by decide +kernel
theorem dX6_isDesk_5 : decode cX6_isDesk 5 = .ok (.iconst 1, 1) := by decide +kernel
theorem dX6_isDesk_6 : decode cX6_isDesk 6 = .ok (.if_icmp .ne 7, 3) := by decide +kernel
theorem dX6_isDesk_9 : decode cX6_isDesk 9 = .ok (.iconst 1, 1) := by decide +kernel
theorem dX6_isDesk_10 : decode cX6_isDesk 10 = .ok (.goto 4, 3) := by decide +kernel
theorem dX6_isDesk_13 : decode cX6_isDesk 13 = .ok (.iconst 0, 1) := by decide +kernel
theorem dX6_isDesk_14 : decode cX6_isDesk 14 = .ok (.ireturn, 1) := by decide +kernel
theorem dX6_arenaOrNull_0 : decode cX6_arenaOrNull 0 = .ok (.iload_n 1, 1) := by decide +kernel
theorem dX6_arenaOrNull_1 : decode cX6_arenaOrNull 1 = .ok (.ifCond .lt 21, 3) := by decide +kernel
theorem dX6_arenaOrNull_4 : decode cX6_arenaOrNull 4 = .ok (.iload_n 1, 1) := by decide +kernel
theorem dX6_arenaOrNull_5 : decode cX6_arenaOrNull 5 = .ok (.aload_n 0, 1) := by decide +kernel
theorem dX6_arenaOrNull_6 : decode cX6_arenaOrNull 6 = .ok (.getfield 11, 3) := by decide +kernel
theorem dX6_arenaOrNull_9 : decode cX6_arenaOrNull 9 = .ok (.arraylength, 1) := by decide +kernel
theorem dX6_arenaOrNull_10 : decode cX6_arenaOrNull 10 = .ok (.if_icmp .ge 12, 3) := by decide +kernel
theorem dX6_arenaOrNull_13 : decode cX6_arenaOrNull 13 = .ok (.aload_n 0, 1) := by decide +kernel
theorem dX6_arenaOrNull_14 : decode cX6_arenaOrNull 14 = .ok (.getfield 11, 3) := by decide +kernel
theorem dX6_arenaOrNull_17 : decode cX6_arenaOrNull 17 = .ok (.iload_n 1, 1) := by decide +kernel
theorem dX6_arenaOrNull_18 : decode cX6_arenaOrNull 18 = .ok (.aaload, 1) := by decide +kernel
theorem dX6_arenaOrNull_19 : decode cX6_arenaOrNull 19 = .ok (.goto 4, 3) := by decide +kernel
theorem dX6_arenaOrNull_22 : decode cX6_arenaOrNull 22 = .ok (.aconst_null, 1) := by decide +kernel
theorem dX6_arenaOrNull_23 : decode cX6_arenaOrNull 23 = .ok (.areturn, 1) := by decide +kernel
theorem dX6_arenaAt_0 : decode cX6_arenaAt 0 = .ok (.aload_n 0, 1) := by decide +kernel
theorem dX6_arenaAt_1 : decode cX6_arenaAt 1 = .ok (.iload_n 1, 1) := by decide +kernel
theorem dX6_arenaAt_2 : decode cX6_arenaAt 2 = .ok (.invokevirtual 31, 3) := by decide +kernel
theorem dX6_arenaAt_5 : decode cX6_arenaAt 5 = .ok (.astore_n 2, 1) := by decide +kernel
theorem dX6_arenaAt_6 : decode cX6_arenaAt 6 = .ok (.aload_n 2, 1) := by decide +kernel
theorem dX6_arenaAt_7 : decode cX6_arenaAt 7 = .ok (.ifnonnull 14, 3) := by decide +kernel
theorem dX6_arenaAt_10 : decode cX6_arenaAt 10 = .ok (.new 275, 3) := by decide +kernel
theorem dX6_arenaAt_13 : decode cX6_arenaAt 13 = .ok (.dup, 1) := by decide +kernel
theorem dX6_arenaAt_14 : decode cX6_arenaAt 14 = .ok (.ldc_w 277, 3) := by decide +kernel
theorem dX6_arenaAt_17 : decode cX6_arenaAt 17 = .ok (.invokespecial 279, 3) := by decide +kernel
theorem dX6_arenaAt_20 : decode cX6_arenaAt 20 = .ok (.athrow, 1) := by decide +kernel
theorem dX6_arenaAt_21 : decode cX6_arenaAt 21 = .ok (.aload_n 2, 1) := by decide +kernel
theorem dX6_arenaAt_22 : decode cX6_arenaAt 22 = .ok (.areturn, 1) := by decide +kernel
theorem dX6_tagsLeft_0 : decode cX6_tagsLeft 0 = .ok (.sipush 600, 3) := by decide +kernel
theorem dX6_tagsLeft_3 : decode cX6_tagsLeft 3 = .ok (.istore_n 1, 1) := by decide +kernel
theorem dX6_tagsLeft_4 : decode cX6_tagsLeft 4 = .ok (.iconst 0, 1) := by decide +kernel
theorem dX6_tagsLeft_5 : decode cX6_tagsLeft 5 = .ok (.istore_n 2, 1) := by decide +kernel
theorem dX6_tagsLeft_6 : decode cX6_tagsLeft 6 = .ok (.iload_n 2, 1) := by decide +kernel
theorem dX6_tagsLeft_7 : decode cX6_tagsLeft 7 = .ok (.aload_n 0, 1) := by decide +kernel
theorem dX6_tagsLeft_8 : decode cX6_tagsLeft 8 = .ok (.getfield 11, 3) := by decide +kernel
theorem dX6_tagsLeft_11 : decode cX6_tagsLeft 11 = .ok (.arraylength, 1) := by decide +kernel
theorem dX6_tagsLeft_12 : decode cX6_tagsLeft 12 = .ok (.if_icmp .ge 32, 3) := by decide +kernel
theorem dX6_tagsLeft_15 : decode cX6_tagsLeft 15 = .ok (.aload_n 0, 1) := by decide +kernel
theorem dX6_tagsLeft_16 : decode cX6_tagsLeft 16 = .ok (.getfield 11, 3) := by decide +kernel
theorem dX6_tagsLeft_19 : decode cX6_tagsLeft 19 = .ok (.iload_n 2, 1) := by decide +kernel
theorem dX6_tagsLeft_20 : decode cX6_tagsLeft 20 = .ok (.aaload, 1) := by decide +kernel
theorem dX6_tagsLeft_21 : decode cX6_tagsLeft 21 = .ok (.astore_n 3, 1) := by decide +kernel
theorem dX6_tagsLeft_22 : decode cX6_tagsLeft 22 = .ok (.aload_n 3, 1) := by decide +kernel
theorem dX6_tagsLeft_23 : decode cX6_tagsLeft 23 = .ok (.ifnull 15, 3) := by decide +kernel
theorem dX6_tagsLeft_26 : decode cX6_tagsLeft 26 = .ok (.iload_n 1, 1) := by decide +kernel
theorem dX6_tagsLeft_27 : decode cX6_tagsLeft 27 = .ok (.aload_n 3, 1) := by decide +kernel
theorem dX6_tagsLeft_28 : decode cX6_tagsLeft 28 = .ok (.getfield 163, 3) := by decide +kernel
theorem dX6_tagsLeft_31 : decode cX6_tagsLeft 31 = .ok (.aload_n 3, 1) := by decide +kernel
theorem dX6_tagsLeft_32 : decode cX6_tagsLeft 32 = .ok (.getfield 166, 3) := by decide +kernel
theorem dX6_tagsLeft_35 : decode cX6_tagsLeft 35 = .ok (.iadd, 1) := by decide +kernel
theorem dX6_tagsLeft_36 : decode cX6_tagsLeft 36 = .ok (.isub, 1) := by decide +kernel
theorem dX6_tagsLeft_37 : decode cX6_tagsLeft 37 = .ok (.istore_n 1, 1) := by decide +kernel
theorem dX6_tagsLeft_38 : decode cX6_tagsLeft 38 = .ok (.iinc 2 1, 3) := by decide +kernel
theorem dX6_tagsLeft_41 : decode cX6_tagsLeft 41 = .ok (.goto (-35), 3) := by decide +kernel
theorem dX6_tagsLeft_44 : decode cX6_tagsLeft 44 = .ok (.iload_n 1, 1) := by decide +kernel
theorem dX6_tagsLeft_45 : decode cX6_tagsLeft 45 = .ok (.ireturn, 1) := by decide +kernel
theorem dX6_isFull_0 : decode cX6_isFull 0 = .ok (.aload_n 0, 1) := by decide +kernel
theorem dX6_isFull_1 : decode cX6_isFull 1 = .ok (.invokevirtual 153, 3) := by decide +kernel
theorem dX6_isFull_4 : decode cX6_isFull 4 = .ok (.bipush 40, 2) := by decide +kernel
theorem dX6_isFull_6 : decode cX6_isFull 6 = .ok (.if_icmp .ge 7, 3) := by decide +kernel
theorem dX6_isFull_9 : decode cX6_isFull 9 = .ok (.iconst 1, 1) := by decide +kernel
theorem dX6_isFull_10 : decode cX6_isFull 10 = .ok (.goto 4, 3) := by decide +kernel
theorem dX6_isFull_13 : decode cX6_isFull 13 = .ok (.iconst 0, 1) := by decide +kernel
theorem dX6_isFull_14 : decode cX6_isFull 14 = .ok (.ireturn, 1) := by decide +kernel
theorem dX6_obtain_0 : decode cX6_obtain 0 = .ok (.aconst_null, 1) := by decide +kernel
theorem dX6_obtain_1 : decode cX6_obtain 1 = .ok (.astore 6, 2) := by decide +kernel
theorem dX6_obtain_3 : decode cX6_obtain 3 = .ok (.lload_n 1, 1) := by decide +kernel
theorem dX6_obtain_4 : decode cX6_obtain 4 = .ok (.ldc2_w 55, 3) := by decide +kernel
theorem dX6_obtain_7 : decode cX6_obtain 7 = .ok (.lcmp, 1) := by decide +kernel
theorem dX6_obtain_8 : decode cX6_obtain 8 = .ok (.ifCond .gt 59, 3) := by decide +kernel
theorem dX6_obtain_11 : decode cX6_obtain 11 = .ok (.iload 5, 2) := by decide +kernel
theorem dX6_obtain_13 : decode cX6_obtain 13 = .ok (.bipush 8, 2) := by decide +kernel
theorem dX6_obtain_15 : decode cX6_obtain 15 = .ok (.if_icmp .ge 52, 3) := by decide +kernel
theorem dX6_obtain_18 : decode cX6_obtain 18 = .ok (.lload_n 1, 1) := by decide +kernel
theorem dX6_obtain_19 : decode cX6_obtain 19 = .ok (.l2i, 1) := by decide +kernel
theorem dX6_obtain_20 : decode cX6_obtain 20 = .ok (.istore 7, 2) := by decide +kernel
theorem dX6_obtain_22 : decode cX6_obtain 22 = .ok (.aload_n 0, 1) := by decide +kernel
theorem dX6_obtain_23 : decode cX6_obtain 23 = .ok (.iload 7, 2) := by decide +kernel
theorem dX6_obtain_25 : decode cX6_obtain 25 = .ok (.iload_n 3, 1) := by decide +kernel
theorem dX6_obtain_26 : decode cX6_obtain 26 = .ok (.invokevirtual 280, 3) := by decide +kernel
theorem dX6_obtain_29 : decode cX6_obtain 29 = .ok (.astore 6, 2) := by decide +kernel
theorem dX6_obtain_31 : decode cX6_obtain 31 = .ok (.aload 6, 2) := by decide +kernel
theorem dX6_obtain_33 : decode cX6_obtain 33 = .ok (.ifnonnull 13, 3) := by decide +kernel
theorem dX6_obtain_36 : decode cX6_obtain 36 = .ok (.aload_n 0, 1) := by decide +kernel
theorem dX6_obtain_37 : decode cX6_obtain 37 = .ok (.iload 7, 2) := by decide +kernel
theorem dX6_obtain_39 : decode cX6_obtain 39 = .ok (.iload 5, 2) := by decide +kernel
theorem dX6_obtain_41 : decode cX6_obtain 41 = .ok (.invokestatic 283, 3) := by decide +kernel
theorem dX6_obtain_44 : decode cX6_obtain 44 = .ok (.astore 6, 2) := by decide +kernel
theorem dX6_obtain_46 : decode cX6_obtain 46 = .ok (.aload 6, 2) := by decide +kernel
theorem dX6_obtain_48 : decode cX6_obtain 48 = .ok (.ifnonnull 19, 3) := by decide +kernel
theorem dX6_obtain_51 : decode cX6_obtain 51 = .ok (.aload_n 0, 1) := by decide +kernel
theorem dX6_obtain_52 : decode cX6_obtain 52 = .ok (.invokestatic 126, 3) := by decide +kernel
theorem dX6_obtain_55 : decode cX6_obtain 55 = .ok (.ifCond .le 12, 3) := by decide +kernel
theorem dX6_obtain_58 : decode cX6_obtain 58 = .ok (.aload_n 0, 1) := by decide +kernel
theorem dX6_obtain_59 : decode cX6_obtain 59 = .ok (.iload 7, 2) := by decide +kernel
theorem dX6_obtain_61 : decode cX6_obtain 61 = .ok (.iload_n 3, 1) := by decide +kernel
theorem dX6_obtain_62 : decode cX6_obtain 62 = .ok (.invokevirtual 280, 3) := by decide +kernel
theorem dX6_obtain_65 : decode cX6_obtain 65 = .ok (.astore 6, 2) := by decide +kernel
theorem dX6_obtain_67 : decode cX6_obtain 67 = .ok (.aload 6, 2) := by decide +kernel
theorem dX6_obtain_69 : decode cX6_obtain 69 = .ok (.ifnonnull 15, 3) := by decide +kernel
theorem dX6_obtain_72 : decode cX6_obtain 72 = .ok (.aload_n 0, 1) := by decide +kernel
theorem dX6_obtain_73 : decode cX6_obtain 73 = .ok (.dup, 1) := by decide +kernel
theorem dX6_obtain_74 : decode cX6_obtain 74 = .ok (.getfield 182, 3) := by decide +kernel
theorem dX6_obtain_77 : decode cX6_obtain 77 = .ok (.iconst 1, 1) := by decide +kernel
theorem dX6_obtain_78 : decode cX6_obtain 78 = .ok (.iadd, 1) := by decide +kernel
theorem dX6_obtain_79 : decode cX6_obtain 79 = .ok (.putfield 182, 3) := by decide +kernel
theorem dX6_obtain_82 : decode cX6_obtain 82 = .ok (.aconst_null, 1) := by decide +kernel
theorem dX6_obtain_83 : decode cX6_obtain 83 = .ok (.areturn, 1) := by decide +kernel
theorem dX6_obtain_84 : decode cX6_obtain 84 = .ok (.aload_n 0, 1) := by decide +kernel
theorem dX6_obtain_85 : decode cX6_obtain 85 = .ok (.aload 6, 2) := by decide +kernel
theorem dX6_obtain_87 : decode cX6_obtain 87 = .ok (.lload_n 1, 1) := by decide +kernel
theorem dX6_obtain_88 : decode cX6_obtain 88 = .ok (.l2i, 1) := by decide +kernel
theorem dX6_obtain_89 : decode cX6_obtain 89 = .ok (.iload 4, 2) := by decide +kernel
theorem dX6_obtain_91 : decode cX6_obtain 91 = .ok (.invokevirtual 287, 3) := by decide +kernel
theorem dX6_obtain_94 : decode cX6_obtain 94 = .ok (.iload_n 3, 1) := by decide +kernel
theorem dX6_obtain_95 : decode cX6_obtain 95 = .ok (.iconst 2, 1) := by decide +kernel
theorem dX6_obtain_96 : decode cX6_obtain 96 = .ok (.if_icmp .ne 18, 3) := by decide +kernel
theorem dX6_obtain_99 : decode cX6_obtain 99 = .ok (.aload_n 0, 1) := by decide +kernel
theorem dX6_obtain_100 : decode cX6_obtain 100 = .ok (.aload 6, 2) := by decide +kernel
theorem dX6_obtain_102 : decode cX6_obtain 102 = .ok (.getfield 93, 3) := by decide +kernel
theorem dX6_obtain_105 : decode cX6_obtain 105 = .ok (.aload 6, 2) := by decide +kernel
theorem dX6_obtain_107 : decode cX6_obtain 107 = .ok (.getfield 199, 3) := by decide +kernel
theorem dX6_obtain_110 : decode cX6_obtain 110 = .ok (.iadd, 1) := by decide +kernel
theorem dX6_obtain_111 : decode cX6_obtain 111 = .ok (.putfield 179, 3) := by decide +kernel
theorem dX6_obtain_114 : decode cX6_obtain 114 = .ok (.aload 6, 2) := by decide +kernel
theorem dX6_obtain_116 : decode cX6_obtain 116 = .ok (.areturn, 1) := by decide +kernel
theorem dX6_importSpan_0 : decode cX6_importSpan 0 = .ok (.aload_n 0, 1) := by decide +kernel
theorem dX6_importSpan_1 : decode cX6_importSpan 1 = .ok (.getfield 57, 3) := by decide +kernel
theorem dX6_importSpan_4 : decode cX6_importSpan 4 = .ok (.astore_n 3, 1) := by decide +kernel
theorem dX6_importSpan_5 : decode cX6_importSpan 5 = .ok (.aload_n 3, 1) := by decide +kernel
theorem dX6_importSpan_6 : decode cX6_importSpan 6 = .ok (.ifnonnull 5, 3) := by decide +kernel
theorem dX6_importSpan_9 : decode cX6_importSpan 9 = .ok (.aconst_null, 1) := by decide +kernel
theorem dX6_importSpan_10 : decode cX6_importSpan 10 = .ok (.areturn, 1) := by decide +kernel
theorem dX6_importSpan_11 : decode cX6_importSpan 11 = .ok (.aload_n 3, 1) := by decide +kernel
theorem dX6_importSpan_12 : decode cX6_importSpan 12 = .ok (.aload_n 3, 1) := by decide +kernel
theorem dX6_importSpan_13 : decode cX6_importSpan 13 = .ok (.iload_n 1, 1) := by decide +kernel
theorem dX6_importSpan_14 : decode cX6_importSpan 14 = .ok (.invokevirtual 73, 3) := by decide +kernel
theorem dX6_importSpan_17 : decode cX6_importSpan 17 = .ok (.iconst 1, 1) := by decide +kernel
theorem dX6_importSpan_18 : decode cX6_importSpan 18 = .ok (.iconst 3, 1) := by decide +kernel
theorem dX6_importSpan_19 : decode cX6_importSpan 19 = .ok (.iload_n 2, 1) := by decide +kernel
theorem dX6_importSpan_20 : decode cX6_importSpan 20 = .ok (.iconst 1, 1) := by decide +kernel
theorem dX6_importSpan_21 : decode cX6_importSpan 21 = .ok (.iadd, 1) := by decide +kernel
theorem dX6_importSpan_22 : decode cX6_importSpan 22 = .ok (.invokestatic 89, 3) := by decide +kernel
theorem dX6_importSpan_25 : decode cX6_importSpan 25 = .ok (.astore 4, 2) := by decide +kernel
theorem dX6_importSpan_27 : decode cX6_importSpan 27 = .ok (.aload 4, 2) := by decide +kernel
theorem dX6_importSpan_29 : decode cX6_importSpan 29 = .ok (.ifnonnull 7, 3) := by decide +kernel
theorem dX6_importSpan_32 : decode cX6_importSpan 32 = .ok (.aconst_null, 1) := by decide +kernel
theorem dX6_importSpan_33 : decode cX6_importSpan 33 = .ok (.goto 17, 3) := by decide +kernel
theorem dX6_importSpan_36 : decode cX6_importSpan 36 = .ok (.aload_n 0, 1) := by decide +kernel
theorem dX6_importSpan_37 : decode cX6_importSpan 37 = .ok (.aload 4, 2) := by decide +kernel
theorem dX6_importSpan_39 : decode cX6_importSpan 39 = .ok (.getfield 93, 3) := by decide +kernel
theorem dX6_importSpan_42 : decode cX6_importSpan 42 = .ok (.aload 4, 2) := by decide +kernel
theorem dX6_importSpan_44 : decode cX6_importSpan 44 = .ok (.getfield 199, 3) := by decide +kernel
theorem dX6_importSpan_47 : decode cX6_importSpan 47 = .ok (.invokevirtual 64, 3) := by decide +kernel
theorem dX6_importSpan_50 : decode cX6_importSpan 50 = .ok (.areturn, 1) := by decide +kernel
theorem dX6_release_0 : decode cX6_release 0 = .ok (.aload_n 0, 1) := by decide +kernel
theorem dX6_release_1 : decode cX6_release 1 = .ok (.astore_n 2, 1) := by decide +kernel
theorem dX6_release_2 : decode cX6_release 2 = .ok (.aload_n 1, 1) := by decide +kernel
theorem dX6_release_3 : decode cX6_release 3 = .ok (.astore_n 3, 1) := by decide +kernel
theorem dX6_release_4 : decode cX6_release 4 = .ok (.iconst 0, 1) := by decide +kernel
theorem dX6_release_5 : decode cX6_release 5 = .ok (.istore 4, 2) := by decide +kernel
theorem dX6_release_7 : decode cX6_release 7 = .ok (.iload 4, 2) := by decide +kernel
theorem dX6_release_9 : decode cX6_release 9 = .ok (.bipush 8, 2) := by decide +kernel
theorem dX6_release_11 : decode cX6_release 11 = .ok (.if_icmp .ge 69, 3) := by decide +kernel
theorem dX6_release_14 : decode cX6_release 14 = .ok (.aload_n 2, 1) := by decide +kernel
theorem dX6_release_15 : decode cX6_release 15 = .ok (.ifnull 65, 3) := by decide +kernel
theorem dX6_release_18 : decode cX6_release 18 = .ok (.aload_n 3, 1) := by decide +kernel
theorem dX6_release_19 : decode cX6_release 19 = .ok (.ifnull 61, 3) := by decide +kernel
theorem dX6_release_22 : decode cX6_release 22 = .ok (.aload_n 2, 1) := by decide +kernel
theorem dX6_release_23 : decode cX6_release 23 = .ok (.aload_n 3, 1) := by decide +kernel
theorem dX6_release_24 : decode cX6_release 24 = .ok (.invokevirtual 291, 3) := by decide +kernel
theorem dX6_release_27 : decode cX6_release 27 = .ok (.aload_n 2, 1) := by decide +kernel
theorem dX6_release_28 : decode cX6_release 28 = .ok (.getfield 57, 3) := by decide +kernel
theorem dX6_release_31 : decode cX6_release 31 = .ok (.astore 5, 2) := by decide +kernel
theorem dX6_release_33 : decode cX6_release 33 = .ok (.aload 5, 2) := by decide +kernel
theorem dX6_release_35 : decode cX6_release 35 = .ok (.ifnull 14, 3) := by decide +kernel
theorem dX6_release_38 : decode cX6_release 38 = .ok (.aload_n 3, 1) := by decide +kernel
theorem dX6_release_39 : decode cX6_release 39 = .ok (.getfield 199, 3) := by decide +kernel
theorem dX6_release_42 : decode cX6_release 42 = .ok (.aload_n 3, 1) := by decide +kernel
theorem dX6_release_43 : decode cX6_release 43 = .ok (.getfield 214, 3) := by decide +kernel
theorem dX6_release_46 : decode cX6_release 46 = .ok (.if_icmp .eq 4, 3) := by decide +kernel
theorem dX6_release_49 : decode cX6_release 49 = .ok (.return_, 1) := by decide +kernel
theorem dX6_release_50 : decode cX6_release 50 = .ok (.aload_n 2, 1) := by decide +kernel
theorem dX6_release_51 : decode cX6_release 51 = .ok (.aload_n 3, 1) := by decide +kernel
theorem dX6_release_52 : decode cX6_release 52 = .ok (.invokevirtual 295, 3) := by decide +kernel
theorem dX6_release_55 : decode cX6_release 55 = .ok (.aload 5, 2) := by decide +kernel
theorem dX6_release_57 : decode cX6_release 57 = .ok (.aload_n 3, 1) := by decide +kernel
theorem dX6_release_58 : decode cX6_release 58 = .ok (.getfield 93, 3) := by decide +kernel
theorem dX6_release_61 : decode cX6_release 61 = .ok (.aload_n 3, 1) := by decide +kernel
theorem dX6_release_62 : decode cX6_release 62 = .ok (.getfield 199, 3) := by decide +kernel
theorem dX6_release_65 : decode cX6_release 65 = .ok (.i2l, 1) := by decide +kernel
theorem dX6_release_66 : decode cX6_release 66 = .ok (.iconst 3, 1) := by decide +kernel
theorem dX6_release_67 : decode cX6_release 67 = .ok (.invokevirtual 298, 3) := by decide +kernel
theorem dX6_release_70 : decode cX6_release 70 = .ok (.astore_n 3, 1) := by decide +kernel
theorem dX6_release_71 : decode cX6_release 71 = .ok (.aload 5, 2) := by decide +kernel
theorem dX6_release_73 : decode cX6_release 73 = .ok (.astore_n 2, 1) := by decide +kernel
theorem dX6_release_74 : decode cX6_release 74 = .ok (.iinc 4 1, 3) := by decide +kernel
theorem dX6_release_77 : decode cX6_release 77 = .ok (.goto (-70), 3) := by decide +kernel
theorem dX6_release_80 : decode cX6_release 80 = .ok (.return_, 1) := by decide +kernel
theorem dX6_giveSegment_0 : decode cX6_giveSegment 0 = .ok (.aload_n 0, 1) := by decide +kernel
theorem dX6_giveSegment_1 : decode cX6_giveSegment 1 = .ok (.iload_n 1, 1) := by decide +kernel
theorem dX6_giveSegment_2 : decode cX6_giveSegment 2 = .ok (.lload_n 2, 1) := by decide +kernel
theorem dX6_giveSegment_3 : decode cX6_giveSegment 3 = .ok (.iload 4, 2) := by decide +kernel
theorem dX6_giveSegment_5 : decode cX6_giveSegment 5 = .ok (.invokevirtual 298, 3) := by decide +kernel
theorem dX6_giveSegment_8 : decode cX6_giveSegment 8 = .ok (.astore 5, 2) := by decide +kernel
theorem dX6_giveSegment_10 : decode cX6_giveSegment 10 = .ok (.aload 5, 2) := by decide +kernel
theorem dX6_giveSegment_12 : decode cX6_giveSegment 12 = .ok (.ifnonnull 5, 3) := by decide +kernel
theorem dX6_giveSegment_15 : decode cX6_giveSegment 15 = .ok (.iconst 0, 1) := by decide +kernel
theorem dX6_giveSegment_16 : decode cX6_giveSegment 16 = .ok (.ireturn, 1) := by decide +kernel
theorem dX6_giveSegment_17 : decode cX6_giveSegment 17 = .ok (.aload_n 0, 1) := by decide +kernel
theorem dX6_giveSegment_18 : decode cX6_giveSegment 18 = .ok (.aload 5, 2) := by decide +kernel
theorem dX6_giveSegment_20 : decode cX6_giveSegment 20 = .ok (.invokestatic 302, 3) := by decide +kernel
theorem dX6_giveSegment_23 : decode cX6_giveSegment 23 = .ok (.iconst 1, 1) := by decide +kernel
theorem dX6_giveSegment_24 : decode cX6_giveSegment 24 = .ok (.ireturn, 1) := by decide +kernel
theorem dX6_takeLoaded_0 : decode cX6_takeLoaded 0 = .ok (.aload_n 1, 1) := by decide +kernel
theorem dX6_takeLoaded_1 : decode cX6_takeLoaded 1 = .ok (.iload_n 2, 1) := by decide +kernel
theorem dX6_takeLoaded_2 : decode cX6_takeLoaded 2 = .ok (.invokevirtual 306, 3) := by decide +kernel
theorem dX6_takeLoaded_5 : decode cX6_takeLoaded 5 = .ok (.astore_n 3, 1) := by decide +kernel
theorem dX6_takeLoaded_6 : decode cX6_takeLoaded 6 = .ok (.aload_n 3, 1) := by decide +kernel
theorem dX6_takeLoaded_7 : decode cX6_takeLoaded 7 = .ok (.aload_n 1, 1) := by decide +kernel
theorem dX6_takeLoaded_8 : decode cX6_takeLoaded 8 = .ok (.getfield 252, 3) := by decide +kernel
theorem dX6_takeLoaded_11 : decode cX6_takeLoaded 11 = .ok (.invokevirtual 310, 3) := by decide +kernel
theorem dX6_takeLoaded_14 : decode cX6_takeLoaded 14 = .ok (.aload_n 3, 1) := by decide +kernel
theorem dX6_takeLoaded_15 : decode cX6_takeLoaded 15 = .ok (.getfield 235, 3) := by decide +kernel
theorem dX6_takeLoaded_18 : decode cX6_takeLoaded 18 = .ok (.invokevirtual 314, 3) := by decide +kernel
theorem dX6_takeLoaded_21 : decode cX6_takeLoaded 21 = .ok (.istore 4, 2) := by decide +kernel
theorem dX6_takeLoaded_23 : decode cX6_takeLoaded 23 = .ok (.aload_n 0, 1) := by decide +kernel
theorem dX6_takeLoaded_24 : decode cX6_takeLoaded 24 = .ok (.aload_n 1, 1) := by decide +kernel
theorem dX6_takeLoaded_25 : decode cX6_takeLoaded 25 = .ok (.iload 4, 2) := by decide +kernel
theorem dX6_takeLoaded_27 : decode cX6_takeLoaded 27 = .ok (.invokevirtual 317, 3) := by decide +kernel
theorem dX6_takeLoaded_30 : decode cX6_takeLoaded 30 = .ok (.astore 5, 2) := by decide +kernel
theorem dX6_takeLoaded_32 : decode cX6_takeLoaded 32 = .ok (.aload 5, 2) := by decide +kernel
theorem dX6_takeLoaded_34 : decode cX6_takeLoaded 34 = .ok (.ifnull 15, 3) := by decide +kernel
theorem dX6_takeLoaded_37 : decode cX6_takeLoaded 37 = .ok (.aload 5, 2) := by decide +kernel
theorem dX6_takeLoaded_39 : decode cX6_takeLoaded 39 = .ok (.aload 5, 2) := by decide +kernel
theorem dX6_takeLoaded_41 : decode cX6_takeLoaded 41 = .ok (.iload 4, 2) := by decide +kernel
theorem dX6_takeLoaded_43 : decode cX6_takeLoaded 43 = .ok (.invokevirtual 269, 3) := by decide +kernel
theorem dX6_takeLoaded_46 : decode cX6_takeLoaded 46 = .ok (.invokevirtual 321, 3) := by decide +kernel
theorem dX6_takeLoaded_49 : decode cX6_takeLoaded 49 = .ok (.iload 4, 2) := by decide +kernel
theorem dX6_takeLoaded_51 : decode cX6_takeLoaded 51 = .ok (.ireturn, 1) := by decide +kernel
theorem dX6_takeLying_0 : decode cX6_takeLying 0 = .ok (.aload_n 0, 1) := by decide +kernel
theorem dX6_takeLying_1 : decode cX6_takeLying 1 = .ok (.aload_n 1, 1) := by decide +kernel
theorem dX6_takeLying_2 : decode cX6_takeLying 2 = .ok (.invokevirtual 325, 3) := by decide +kernel
theorem dX6_takeLying_5 : decode cX6_takeLying 5 = .ok (.astore_n 2, 1) := by decide +kernel
theorem dX6_takeLying_6 : decode cX6_takeLying 6 = .ok (.aload_n 2, 1) := by decide +kernel
theorem dX6_takeLying_7 : decode cX6_takeLying 7 = .ok (.ifnonnull 30, 3) := by decide +kernel
theorem dX6_takeLying_10 : decode cX6_takeLying 10 = .ok (.aload_n 0, 1) := by decide +kernel
theorem dX6_takeLying_11 : decode cX6_takeLying 11 = .ok (.aload_n 0, 1) := by decide +kernel
theorem dX6_takeLying_12 : decode cX6_takeLying 12 = .ok (.getfield 329, 3) := by decide +kernel
theorem dX6_takeLying_15 : decode cX6_takeLying 15 = .ok (.i2l, 1) := by decide +kernel
theorem dX6_takeLying_16 : decode cX6_takeLying 16 = .ok (.iconst 1, 1) := by decide +kernel
theorem dX6_takeLying_17 : decode cX6_takeLying 17 = .ok (.iconst 2, 1) := by decide +kernel
theorem dX6_takeLying_18 : decode cX6_takeLying 18 = .ok (.iconst 0, 1) := by decide +kernel
theorem dX6_takeLying_19 : decode cX6_takeLying 19 = .ok (.invokestatic 89, 3) := by decide +kernel
theorem dX6_takeLying_22 : decode cX6_takeLying 22 = .ok (.astore_n 2, 1) := by decide +kernel
theorem dX6_takeLying_23 : decode cX6_takeLying 23 = .ok (.aload_n 2, 1) := by decide +kernel
theorem dX6_takeLying_24 : decode cX6_takeLying 24 = .ok (.ifnonnull 5, 3) := by decide +kernel
theorem dX6_takeLying_27 : decode cX6_takeLying 27 = .ok (.iconst (-1), 1) := by decide +kernel
theorem dX6_takeLying_28 : decode cX6_takeLying 28 = .ok (.ireturn, 1) := by decide +kernel
theorem dX6_takeLying_29 : decode cX6_takeLying 29 = .ok (.aload_n 2, 1) := by decide +kernel
theorem dX6_takeLying_30 : decode cX6_takeLying 30 = .ok (.aload_n 1, 1) := by decide +kernel
theorem dX6_takeLying_31 : decode cX6_takeLying 31 = .ok (.getfield 332, 3) := by decide +kernel
theorem dX6_takeLying_34 : decode cX6_takeLying 34 = .ok (.invokevirtual 335, 3) := by decide +kernel
theorem dX6_takeLying_37 : decode cX6_takeLying 37 = .ok (.aload_n 2, 1) := by decide +kernel
theorem dX6_takeLying_38 : decode cX6_takeLying 38 = .ok (.invokevirtual 338, 3) := by decide +kernel
theorem dX6_takeLying_41 : decode cX6_takeLying 41 = .ok (.ireturn, 1) := by decide +kernel
theorem dX6_giveObject_0 : decode cX6_giveObject 0 = .ok (.aload_n 0, 1) := by decide +kernel
theorem dX6_giveObject_1 : decode cX6_giveObject 1 = .ok (.aload_n 1, 1) := by decide +kernel
theorem dX6_giveObject_2 : decode cX6_giveObject 2 = .ok (.iload_n 2, 1) := by decide +kernel
theorem dX6_giveObject_3 : decode cX6_giveObject 3 = .ok (.invokevirtual 317, 3) := by decide +kernel
theorem dX6_giveObject_6 : decode cX6_giveObject 6 = .ok (.astore 4, 2) := by decide +kernel
theorem dX6_giveObject_8 : decode cX6_giveObject 8 = .ok (.aload 4, 2) := by decide +kernel
theorem dX6_giveObject_10 : decode cX6_giveObject 10 = .ok (.ifnonnull 5, 3) := by decide +kernel
theorem dX6_giveObject_13 : decode cX6_giveObject 13 = .ok (.iconst 0, 1) := by decide +kernel
theorem dX6_giveObject_14 : decode cX6_giveObject 14 = .ok (.ireturn, 1) := by decide +kernel
theorem dX6_giveObject_15 : decode cX6_giveObject 15 = .ok (.aload 4, 2) := by decide +kernel
theorem dX6_giveObject_17 : decode cX6_giveObject 17 = .ok (.iload_n 2, 1) := by decide +kernel
theorem dX6_giveObject_18 : decode cX6_giveObject 18 = .ok (.invokevirtual 269, 3) := by decide +kernel
theorem dX6_giveObject_21 : decode cX6_giveObject 21 = .ok (.istore 5, 2) := by decide +kernel
theorem dX6_giveObject_23 : decode cX6_giveObject 23 = .ok (.aload 4, 2) := by decide +kernel
theorem dX6_giveObject_25 : decode cX6_giveObject 25 = .ok (.iload 5, 2) := by decide +kernel
theorem dX6_giveObject_27 : decode cX6_giveObject 27 = .ok (.invokevirtual 272, 3) := by decide +kernel
theorem dX6_giveObject_30 : decode cX6_giveObject 30 = .ok (.ifCond .eq 14, 3) := by decide +kernel
theorem dX6_giveObject_33 : decode cX6_giveObject 33 = .ok (.aload 4, 2) := by decide +kernel
theorem dX6_giveObject_35 : decode cX6_giveObject 35 = .ok (.iload 5, 2) := by decide +kernel
theorem dX6_giveObject_37 : decode cX6_giveObject 37 = .ok (.invokevirtual 341, 3) := by decide +kernel
theorem dX6_giveObject_40 : decode cX6_giveObject 40 = .ok (.iload_n 2, 1) := by decide +kernel
theorem dX6_giveObject_41 : decode cX6_giveObject 41 = .ok (.if_icmp .eq 5, 3) := by decide +kernel
theorem dX6_giveObject_44 : decode cX6_giveObject 44 = .ok (.iconst 0, 1) := by decide +kernel
theorem dX6_giveObject_45 : decode cX6_giveObject 45 = .ok (.ireturn, 1) := by decide +kernel
theorem dX6_giveObject_46 : decode cX6_giveObject 46 = .ok (.aload 4, 2) := by decide +kernel
theorem dX6_giveObject_48 : decode cX6_giveObject 48 = .ok (.iload 5, 2) := by decide +kernel
theorem dX6_giveObject_50 : decode cX6_giveObject 50 = .ok (.invokevirtual 344, 3) := by decide +kernel
theorem dX6_giveObject_53 : decode cX6_giveObject 53 = .ok (.aload_n 1, 1) := by decide +kernel
theorem dX6_giveObject_54 : decode cX6_giveObject 54 = .ok (.iload_n 3, 1) := by decide +kernel
theorem dX6_giveObject_55 : decode cX6_giveObject 55 = .ok (.invokevirtual 306, 3) := by decide +kernel
theorem dX6_giveObject_58 : decode cX6_giveObject 58 = .ok (.astore 6, 2) := by decide +kernel
theorem dX6_giveObject_60 : decode cX6_giveObject 60 = .ok (.aload 6, 2) := by decide +kernel
theorem dX6_giveObject_62 : decode cX6_giveObject 62 = .ok (.aload_n 1, 1) := by decide +kernel
theorem dX6_giveObject_63 : decode cX6_giveObject 63 = .ok (.getfield 252, 3) := by decide +kernel
theorem dX6_giveObject_66 : decode cX6_giveObject 66 = .ok (.invokevirtual 347, 3) := by decide +kernel
theorem dX6_giveObject_69 : decode cX6_giveObject 69 = .ok (.aload 6, 2) := by decide +kernel
theorem dX6_giveObject_71 : decode cX6_giveObject 71 = .ok (.getfield 235, 3) := by decide +kernel
theorem dX6_giveObject_74 : decode cX6_giveObject 74 = .ok (.getfield 241, 3) := by decide +kernel
theorem dX6_giveObject_77 : decode cX6_giveObject 77 = .ok (.iconst 3, 1) := by decide +kernel
theorem dX6_giveObject_78 : decode cX6_giveObject 78 = .ok (.if_icmp .ge 15, 3) := by decide +kernel
theorem dX6_giveObject_81 : decode cX6_giveObject 81 = .ok (.aload 6, 2) := by decide +kernel
theorem dX6_giveObject_83 : decode cX6_giveObject 83 = .ok (.getfield 235, 3) := by decide +kernel
theorem dX6_giveObject_86 : decode cX6_giveObject 86 = .ok (.iload_n 2, 1) := by decide +kernel
theorem dX6_giveObject_87 : decode cX6_giveObject 87 = .ok (.invokevirtual 350, 3) := by decide +kernel
theorem dX6_giveObject_90 : decode cX6_giveObject 90 = .ok (.goto 10, 3) := by decide +kernel
theorem dX6_giveObject_93 : decode cX6_giveObject 93 = .ok (.aload 4, 2) := by decide +kernel
theorem dX6_giveObject_95 : decode cX6_giveObject 95 = .ok (.iload 5, 2) := by decide +kernel
theorem dX6_giveObject_97 : decode cX6_giveObject 97 = .ok (.invokevirtual 353, 3) := by decide +kernel
theorem dX6_giveObject_100 : decode cX6_giveObject 100 = .ok (.iconst 1, 1) := by decide +kernel
theorem dX6_giveObject_101 : decode cX6_giveObject 101 = .ok (.ireturn, 1) := by decide +kernel
theorem dX6_sweep_0 : decode cX6_sweep 0 = .ok (.aload_n 0, 1) := by decide +kernel
theorem dX6_sweep_1 : decode cX6_sweep 1 = .ok (.dup, 1) := by decide +kernel
theorem dX6_sweep_2 : decode cX6_sweep 2 = .ok (.getfield 185, 3) := by decide +kernel
theorem dX6_sweep_5 : decode cX6_sweep 5 = .ok (.iconst 1, 1) := by decide +kernel
theorem dX6_sweep_6 : decode cX6_sweep 6 = .ok (.iadd, 1) := by decide +kernel
theorem dX6_sweep_7 : decode cX6_sweep 7 = .ok (.putfield 185, 3) := by decide +kernel
theorem dX6_sweep_10 : decode cX6_sweep 10 = .ok (.iconst 0, 1) := by decide +kernel
theorem dX6_sweep_11 : decode cX6_sweep 11 = .ok (.istore_n 1, 1) := by decide +kernel
theorem dX6_sweep_12 : decode cX6_sweep 12 = .ok (.iconst 1, 1) := by decide +kernel
theorem dX6_sweep_13 : decode cX6_sweep 13 = .ok (.istore_n 2, 1) := by decide +kernel
theorem dX6_sweep_14 : decode cX6_sweep 14 = .ok (.iload_n 2, 1) := by decide +kernel
theorem dX6_sweep_15 : decode cX6_sweep 15 = .ok (.aload_n 0, 1) := by decide +kernel
theorem dX6_sweep_16 : decode cX6_sweep 16 = .ok (.getfield 160, 3) := by decide +kernel
theorem dX6_sweep_19 : decode cX6_sweep 19 = .ok (.if_icmp .gt 116, 3) := by decide +kernel
theorem dX6_sweep_22 : decode cX6_sweep 22 = .ok (.aload_n 0, 1) := by decide +kernel
theorem dX6_sweep_23 : decode cX6_sweep 23 = .ok (.iload_n 2, 1) := by decide +kernel
theorem dX6_sweep_24 : decode cX6_sweep 24 = .ok (.invokevirtual 219, 3) := by decide +kernel
theorem dX6_sweep_27 : decode cX6_sweep 27 = .ok (.astore_n 3, 1) := by decide +kernel
theorem dX6_sweep_28 : decode cX6_sweep 28 = .ok (.aload_n 3, 1) := by decide +kernel
theorem dX6_sweep_29 : decode cX6_sweep 29 = .ok (.ifnonnull 5, 3) := by decide +kernel
theorem dX6_sweep_32 : decode cX6_sweep 32 = .ok (.iload_n 1, 1) := by decide +kernel
theorem dX6_sweep_33 : decode cX6_sweep 33 = .ok (.ireturn, 1) := by decide +kernel
theorem dX6_sweep_34 : decode cX6_sweep 34 = .ok (.aload_n 0, 1) := by decide +kernel
theorem dX6_sweep_35 : decode cX6_sweep 35 = .ok (.aload_n 3, 1) := by decide +kernel
theorem dX6_sweep_36 : decode cX6_sweep 36 = .ok (.aload_n 3, 1) := by decide +kernel
theorem dX6_sweep_37 : decode cX6_sweep 37 = .ok (.getfield 229, 3) := by decide +kernel
theorem dX6_sweep_40 : decode cX6_sweep 40 = .ok (.getfield 235, 3) := by decide +kernel
theorem dX6_sweep_43 : decode cX6_sweep 43 = .ok (.invokestatic 356, 3) := by decide +kernel
theorem dX6_sweep_46 : decode cX6_sweep 46 = .ok (.aload_n 0, 1) := by decide +kernel
theorem dX6_sweep_47 : decode cX6_sweep 47 = .ok (.aload_n 3, 1) := by decide +kernel
theorem dX6_sweep_48 : decode cX6_sweep 48 = .ok (.aload_n 3, 1) := by decide +kernel
theorem dX6_sweep_49 : decode cX6_sweep 49 = .ok (.getfield 229, 3) := by decide +kernel
theorem dX6_sweep_52 : decode cX6_sweep 52 = .ok (.getfield 246, 3) := by decide +kernel
theorem dX6_sweep_55 : decode cX6_sweep 55 = .ok (.invokestatic 356, 3) := by decide +kernel
theorem dX6_sweep_58 : decode cX6_sweep 58 = .ok (.aload_n 0, 1) := by decide +kernel
theorem dX6_sweep_59 : decode cX6_sweep 59 = .ok (.aload_n 3, 1) := by decide +kernel
theorem dX6_sweep_60 : decode cX6_sweep 60 = .ok (.aload_n 3, 1) := by decide +kernel
theorem dX6_sweep_61 : decode cX6_sweep 61 = .ok (.getfield 249, 3) := by decide +kernel
theorem dX6_sweep_64 : decode cX6_sweep 64 = .ok (.getfield 235, 3) := by decide +kernel
theorem dX6_sweep_67 : decode cX6_sweep 67 = .ok (.invokestatic 356, 3) := by decide +kernel
theorem dX6_sweep_70 : decode cX6_sweep 70 = .ok (.aload_n 0, 1) := by decide +kernel
theorem dX6_sweep_71 : decode cX6_sweep 71 = .ok (.aload_n 3, 1) := by decide +kernel
theorem dX6_sweep_72 : decode cX6_sweep 72 = .ok (.aload_n 3, 1) := by decide +kernel
theorem dX6_sweep_73 : decode cX6_sweep 73 = .ok (.getfield 249, 3) := by decide +kernel
theorem dX6_sweep_76 : decode cX6_sweep 76 = .ok (.getfield 246, 3) := by decide +kernel
theorem dX6_sweep_79 : decode cX6_sweep 79 = .ok (.invokestatic 356, 3) := by decide +kernel
theorem dX6_sweep_82 : decode cX6_sweep 82 = .ok (.aload_n 0, 1) := by decide +kernel
theorem dX6_sweep_83 : decode cX6_sweep 83 = .ok (.aload_n 3, 1) := by decide +kernel
theorem dX6_sweep_84 : decode cX6_sweep 84 = .ok (.aload_n 3, 1) := by decide +kernel
theorem dX6_sweep_85 : decode cX6_sweep 85 = .ok (.getfield 252, 3) := by decide +kernel
theorem dX6_sweep_88 : decode cX6_sweep 88 = .ok (.invokestatic 356, 3) := by decide +kernel
theorem dX6_sweep_91 : decode cX6_sweep 91 = .ok (.aload_n 0, 1) := by decide +kernel
theorem dX6_sweep_92 : decode cX6_sweep 92 = .ok (.aload_n 3, 1) := by decide +kernel
theorem dX6_sweep_93 : decode cX6_sweep 93 = .ok (.invokevirtual 360, 3) := by decide +kernel
theorem dX6_sweep_96 : decode cX6_sweep 96 = .ok (.astore 4, 2) := by decide +kernel
theorem dX6_sweep_98 : decode cX6_sweep 98 = .ok (.aload 4, 2) := by decide +kernel
theorem dX6_sweep_100 : decode cX6_sweep 100 = .ok (.ifnull 29, 3) := by decide +kernel
theorem dX6_sweep_103 : decode cX6_sweep 103 = .ok (.iload_n 1, 1) := by decide +kernel
theorem dX6_sweep_104 : decode cX6_sweep 104 = .ok (.sipush 600, 3) := by decide +kernel
theorem dX6_sweep_107 : decode cX6_sweep 107 = .ok (.if_icmp .ge 22, 3) := by decide +kernel
theorem dX6_sweep_110 : decode cX6_sweep 110 = .ok (.aload_n 0, 1) := by decide +kernel
theorem dX6_sweep_111 : decode cX6_sweep 111 = .ok (.aload 4, 2) := by decide +kernel
theorem dX6_sweep_113 : decode cX6_sweep 113 = .ok (.invokestatic 302, 3) := by decide +kernel
theorem dX6_sweep_116 : decode cX6_sweep 116 = .ok (.iinc 1 1, 3) := by decide +kernel
theorem dX6_sweep_119 : decode cX6_sweep 119 = .ok (.aload_n 0, 1) := by decide +kernel
theorem dX6_sweep_120 : decode cX6_sweep 120 = .ok (.aload_n 3, 1) := by decide +kernel
theorem dX6_sweep_121 : decode cX6_sweep 121 = .ok (.invokevirtual 360, 3) := by decide +kernel
theorem dX6_sweep_124 : decode cX6_sweep 124 = .ok (.astore 4, 2) := by decide +kernel
theorem dX6_sweep_126 : decode cX6_sweep 126 = .ok (.goto (-28), 3) := by decide +kernel
theorem dX6_sweep_129 : decode cX6_sweep 129 = .ok (.iinc 2 1, 3) := by decide +kernel
theorem dX6_sweep_132 : decode cX6_sweep 132 = .ok (.goto (-118), 3) := by decide +kernel
theorem dX6_sweep_135 : decode cX6_sweep 135 = .ok (.iload_n 1, 1) := by decide +kernel
theorem dX6_sweep_136 : decode cX6_sweep 136 = .ok (.ireturn, 1) := by decide +kernel
theorem dX6_layAll_0 : decode cX6_layAll 0 = .ok (.iconst 0, 1) := by decide +kernel
theorem dX6_layAll_1 : decode cX6_layAll 1 = .ok (.istore_n 3, 1) := by decide +kernel
theorem dX6_layAll_2 : decode cX6_layAll 2 = .ok (.iload_n 3, 1) := by decide +kernel
theorem dX6_layAll_3 : decode cX6_layAll 3 = .ok (.bipush 12, 2) := by decide +kernel
theorem dX6_layAll_5 : decode cX6_layAll 5 = .ok (.if_icmp .ge 48, 3) := by decide +kernel
theorem dX6_layAll_8 : decode cX6_layAll 8 = .ok (.aload_n 2, 1) := by decide +kernel
theorem dX6_layAll_9 : decode cX6_layAll 9 = .ok (.getfield 241, 3) := by decide +kernel
theorem dX6_layAll_12 : decode cX6_layAll 12 = .ok (.ifCond .le 41, 3) := by decide +kernel
theorem dX6_layAll_15 : decode cX6_layAll 15 = .ok (.aload_n 2, 1) := by decide +kernel
theorem dX6_layAll_16 : decode cX6_layAll 16 = .ok (.invokevirtual 314, 3) := by decide +kernel
theorem dX6_layAll_19 : decode cX6_layAll 19 = .ok (.istore 4, 2) := by decide +kernel
theorem dX6_layAll_21 : decode cX6_layAll 21 = .ok (.aload_n 0, 1) := by decide +kernel
theorem dX6_layAll_22 : decode cX6_layAll 22 = .ok (.aload_n 1, 1) := by decide +kernel
theorem dX6_layAll_23 : decode cX6_layAll 23 = .ok (.iload 4, 2) := by decide +kernel
theorem dX6_layAll_25 : decode cX6_layAll 25 = .ok (.invokevirtual 317, 3) := by decide +kernel
theorem dX6_layAll_28 : decode cX6_layAll 28 = .ok (.astore 5, 2) := by decide +kernel
theorem dX6_layAll_30 : decode cX6_layAll 30 = .ok (.aload 5, 2) := by decide +kernel
theorem dX6_layAll_32 : decode cX6_layAll 32 = .ok (.ifnull 15, 3) := by decide +kernel
theorem dX6_layAll_35 : decode cX6_layAll 35 = .ok (.aload 5, 2) := by decide +kernel
theorem dX6_layAll_37 : decode cX6_layAll 37 = .ok (.aload 5, 2) := by decide +kernel
theorem dX6_layAll_39 : decode cX6_layAll 39 = .ok (.iload 4, 2) := by decide +kernel
theorem dX6_layAll_41 : decode cX6_layAll 41 = .ok (.invokevirtual 269, 3) := by decide +kernel
theorem dX6_layAll_44 : decode cX6_layAll 44 = .ok (.invokevirtual 353, 3) := by decide +kernel
theorem dX6_layAll_47 : decode cX6_layAll 47 = .ok (.iinc 3 1, 3) := by decide +kernel
theorem dX6_layAll_50 : decode cX6_layAll 50 = .ok (.goto (-48), 3) := by decide +kernel
theorem dX6_layAll_53 : decode cX6_layAll 53 = .ok (.return_, 1) := by decide +kernel
theorem dX7_init_0 : decode cX7_init 0 = .ok (.aload_n 0, 1) := by decide +kernel
theorem dX7_init_1 : decode cX7_init 1 = .ok (.invokespecial 1, 3) := by decide +kernel
theorem dX7_init_4 : decode cX7_init 4 = .ok (.aload_n 0, 1) := by decide +kernel
theorem dX7_init_5 : decode cX7_init 5 = .ok (.bipush 8, 2) := by decide +kernel
theorem dX7_init_7 : decode cX7_init 7 = .ok (.newarray .int, 2) := by decide +kernel
theorem dX7_init_9 : decode cX7_init 9 = .ok (.putfield 7, 3) := by decide +kernel
theorem dX7_init_12 : decode cX7_init 12 = .ok (.aload_n 0, 1) := by decide +kernel
theorem dX7_init_13 : decode cX7_init 13 = .ok (.bipush 8, 2) := by decide +kernel
theorem dX7_init_15 : decode cX7_init 15 = .ok (.newarray .int, 2) := by decide +kernel
theorem dX7_init_17 : decode cX7_init 17 = .ok (.putfield 13, 3) := by decide +kernel
theorem dX7_init_20 : decode cX7_init 20 = .ok (.aload_n 0, 1) := by decide +kernel
theorem dX7_init_21 : decode cX7_init 21 = .ok (.bipush 8, 2) := by decide +kernel
theorem dX7_init_23 : decode cX7_init 23 = .ok (.newarray .int, 2) := by decide +kernel
theorem dX7_init_25 : decode cX7_init 25 = .ok (.putfield 16, 3) := by decide +kernel
theorem dX7_init_28 : decode cX7_init 28 = .ok (.aload_n 0, 1) := by decide +kernel
theorem dX7_init_29 : decode cX7_init 29 = .ok (.bipush 8, 2) := by decide +kernel
theorem dX7_init_31 : decode cX7_init 31 = .ok (.newarray .int, 2) := by decide +kernel
theorem dX7_init_33 : decode cX7_init 33 = .ok (.putfield 19, 3) := by decide +kernel
theorem dX7_init_36 : decode cX7_init 36 = .ok (.aload_n 0, 1) := by decide +kernel
theorem dX7_init_37 : decode cX7_init 37 = .ok (.bipush 8, 2) := by decide +kernel
theorem dX7_init_39 : decode cX7_init 39 = .ok (.newarray .int, 2) := by decide +kernel
theorem dX7_init_41 : decode cX7_init 41 = .ok (.putfield 22, 3) := by decide +kernel
theorem dX7_init_44 : decode cX7_init 44 = .ok (.aload_n 0, 1) := by decide +kernel
theorem dX7_init_45 : decode cX7_init 45 = .ok (.bipush 8, 2) := by decide +kernel
theorem dX7_init_47 : decode cX7_init 47 = .ok (.newarray .int, 2) := by decide +kernel
theorem dX7_init_49 : decode cX7_init 49 = .ok (.putfield 25, 3) := by decide +kernel
theorem dX7_init_52 : decode cX7_init 52 = .ok (.aload_n 0, 1) := by decide +kernel
theorem dX7_init_53 : decode cX7_init 53 = .ok (.bipush 8, 2) := by decide +kernel
theorem dX7_init_55 : decode cX7_init 55 = .ok (.newarray .int, 2) := by decide +kernel
theorem dX7_init_57 : decode cX7_init 57 = .ok (.putfield 28, 3) := by decide +kernel
theorem dX7_init_60 : decode cX7_init 60 = .ok (.aload_n 0, 1) := by decide +kernel
theorem dX7_init_61 : decode cX7_init 61 = .ok (.bipush 8, 2) := by decide +kernel
theorem dX7_init_63 : decode cX7_init 63 = .ok (.newarray .int, 2) := by decide +kernel
theorem dX7_init_65 : decode cX7_init 65 = .ok (.putfield 31, 3) := by decide +kernel
theorem dX7_init_68 : decode cX7_init 68 = .ok (.aload_n 0, 1) := by decide +kernel
theorem dX7_init_69 : decode cX7_init 69 = .ok (.sipush 600, 3) := by decide +kernel
theorem dX7_init_72 : decode cX7_init 72 = .ok (.newarray .int, 2) := by decide +kernel
theorem dX7_init_74 : decode cX7_init 74 = .ok (.putfield 34, 3) := by decide +kernel
theorem dX7_init_77 : decode cX7_init 77 = .ok (.aload_n 0, 1) := by decide +kernel
theorem dX7_init_78 : decode cX7_init 78 = .ok (.sipush 600, 3) := by decide +kernel
theorem dX7_init_81 : decode cX7_init 81 = .ok (.newarray .int, 2) := by decide +kernel
theorem dX7_init_83 : decode cX7_init 83 = .ok (.putfield 37, 3) := by decide +kernel
theorem dX7_init_86 : decode cX7_init 86 = .ok (.aload_n 0, 1) := by decide +kernel
theorem dX7_init_87 : decode cX7_init 87 = .ok (.sipush 600, 3) := by decide +kernel
theorem dX7_init_90 : decode cX7_init 90 = .ok (.newarray .int, 2) := by decide +kernel
theorem dX7_init_92 : decode cX7_init 92 = .ok (.putfield 40, 3) := by decide +kernel
theorem dX7_init_95 : decode cX7_init 95 = .ok (.aload_n 0, 1) := by decide +kernel
theorem dX7_init_96 : decode cX7_init 96 = .ok (.sipush 600, 3) := by decide +kernel
theorem dX7_init_99 : decode cX7_init 99 = .ok (.newarray .int, 2) := by decide +kernel
theorem dX7_init_101 : decode cX7_init 101 = .ok (.putfield 43, 3) := by decide +kernel
theorem dX7_init_104 : decode cX7_init 104 = .ok (.aload_n 0, 1) := by decide +kernel
theorem dX7_init_105 : decode cX7_init 105 = .ok (.sipush 600, 3) := by decide +kernel
theorem dX7_init_108 : decode cX7_init 108 = .ok (.newarray .int, 2) := by decide +kernel
theorem dX7_init_110 : decode cX7_init 110 = .ok (.putfield 46, 3) := by decide +kernel
theorem dX7_init_113 : decode cX7_init 113 = .ok (.aload_n 0, 1) := by decide +kernel
theorem dX7_init_114 : decode cX7_init 114 = .ok (.sipush 600, 3) := by decide +kernel
theorem dX7_init_117 : decode cX7_init 117 = .ok (.newarray .int, 2) := by decide +kernel
theorem dX7_init_119 : decode cX7_init 119 = .ok (.putfield 49, 3) := by decide +kernel
theorem dX7_init_122 : decode cX7_init 122 = .ok (.aload_n 0, 1) := by decide +kernel
theorem dX7_init_123 : decode cX7_init 123 = .ok (.sipush 600, 3) := by decide +kernel
theorem dX7_init_126 : decode cX7_init 126 = .ok (.newarray .int, 2) := by decide +kernel
theorem dX7_init_128 : decode cX7_init 128 = .ok (.putfield 52, 3) := by decide +kernel
theorem dX7_init_131 : decode cX7_init 131 = .ok (.aload_n 0, 1) := by decide +kernel
theorem dX7_init_132 : decode cX7_init 132 = .ok (.sipush 600, 3) := by decide +kernel
theorem dX7_init_135 : decode cX7_init 135 = .ok (.newarray .int, 2) := by decide +kernel
theorem dX7_init_137 : decode cX7_init 137 = .ok (.putfield 55, 3) := by decide +kernel
theorem dX7_init_140 : decode cX7_init 140 = .ok (.aload_n 0, 1) := by decide +kernel
theorem dX7_init_141 : decode cX7_init 141 = .ok (.sipush 600, 3) := by decide +kernel
theorem dX7_init_144 : decode cX7_init 144 = .ok (.newarray .int, 2) := by decide +kernel
theorem dX7_init_146 : decode cX7_init 146 = .ok (.putfield 58, 3) := by decide +kernel
theorem dX7_init_149 : decode cX7_init 149 = .ok (.aload_n 0, 1) := by decide +kernel
theorem dX7_init_150 : decode cX7_init 150 = .ok (.sipush 600, 3) := by decide +kernel
theorem dX7_init_153 : decode cX7_init 153 = .ok (.newarray .int, 2) := by decide +kernel
theorem dX7_init_155 : decode cX7_init 155 = .ok (.putfield 61, 3) := by decide +kernel
theorem dX7_init_158 : decode cX7_init 158 = .ok (.aload_n 0, 1) := by decide +kernel
theorem dX7_init_159 : decode cX7_init 159 = .ok (.sipush 600, 3) := by decide +kernel
theorem dX7_init_162 : decode cX7_init 162 = .ok (.newarray .boolean, 2) := by decide +kernel
theorem dX7_init_164 : decode cX7_init 164 = .ok (.putfield 64, 3) := by decide +kernel
theorem dX7_init_167 : decode cX7_init 167 = .ok (.aload_n 0, 1) := by decide +kernel
theorem dX7_init_168 : decode cX7_init 168 = .ok (.sipush 600, 3) := by decide +kernel
theorem dX7_init_171 : decode cX7_init 171 = .ok (.newarray .boolean, 2) := by decide +kernel
theorem dX7_init_173 : decode cX7_init 173 = .ok (.putfield 68, 3) := by decide +kernel
theorem dX7_init_176 : decode cX7_init 176 = .ok (.aload_n 0, 1) := by decide +kernel
theorem dX7_init_177 : decode cX7_init 177 = .ok (.ldc 71, 2) := by decide +kernel
theorem dX7_init_179 : decode cX7_init 179 = .ok (.newarray .int, 2) := by decide +kernel
theorem dX7_init_181 : decode cX7_init 181 = .ok (.putfield 72, 3) := by decide +kernel
theorem dX7_init_184 : decode cX7_init 184 = .ok (.aload_n 0, 1) := by decide +kernel
theorem dX7_init_185 : decode cX7_init 185 = .ok (.ldc 71, 2) := by decide +kernel
theorem dX7_init_187 : decode cX7_init 187 = .ok (.newarray .int, 2) := by decide +kernel
theorem dX7_init_189 : decode cX7_init 189 = .ok (.putfield 75, 3) := by decide +kernel
theorem dX7_init_192 : decode cX7_init 192 = .ok (.aload_n 0, 1) := by decide +kernel
theorem dX7_init_193 : decode cX7_init 193 = .ok (.sipush 288, 3) := by decide +kernel
theorem dX7_init_196 : decode cX7_init 196 = .ok (.newarray .int, 2) := by decide +kernel
theorem dX7_init_198 : decode cX7_init 198 = .ok (.putfield 78, 3) := by decide +kernel
theorem dX7_init_201 : decode cX7_init 201 = .ok (.aload_n 0, 1) := by decide +kernel
theorem dX7_init_202 : decode cX7_init 202 = .ok (.sipush 864, 3) := by decide +kernel
theorem dX7_init_205 : decode cX7_init 205 = .ok (.newarray .int, 2) := by decide +kernel
theorem dX7_init_207 : decode cX7_init 207 = .ok (.putfield 81, 3) := by decide +kernel
theorem dX7_init_210 : decode cX7_init 210 = .ok (.aload_n 0, 1) := by decide +kernel
theorem dX7_init_211 : decode cX7_init 211 = .ok (.bipush 72, 2) := by decide +kernel
theorem dX7_init_213 : decode cX7_init 213 = .ok (.newarray .int, 2) := by decide +kernel
theorem dX7_init_215 : decode cX7_init 215 = .ok (.putfield 84, 3) := by decide +kernel
theorem dX7_init_218 : decode cX7_init 218 = .ok (.aload_n 0, 1) := by decide +kernel
theorem dX7_init_219 : decode cX7_init 219 = .ok (.sipush 864, 3) := by decide +kernel
theorem dX7_init_222 : decode cX7_init 222 = .ok (.newarray .int, 2) := by decide +kernel
theorem dX7_init_224 : decode cX7_init 224 = .ok (.putfield 87, 3) := by decide +kernel
theorem dX7_init_227 : decode cX7_init 227 = .ok (.return_, 1) := by decide +kernel
theorem dX7_thrown_0 : decode cX7_thrown 0 = .ok (.aload_n 0, 1) := by decide +kernel
theorem dX7_thrown_1 : decode cX7_thrown 1 = .ok (.getfield 90, 3) := by decide +kernel
theorem dX7_thrown_4 : decode cX7_thrown 4 = .ok (.ireturn, 1) := by decide +kernel
theorem dX7_right_0 : decode cX7_right 0 = .ok (.aload_n 0, 1) := by decide +kernel
theorem dX7_right_1 : decode cX7_right 1 = .ok (.getfield 90, 3) := by decide +kernel
theorem dX7_right_4 : decode cX7_right 4 = .ok (.ifCond .ne 12, 3) := by decide +kernel
theorem dX7_right_7 : decode cX7_right 7 = .ok (.iload_n 1, 1) := by decide +kernel
theorem dX7_right_8 : decode cX7_right 8 = .ok (.ifCond .ne 8, 3) := by decide +kernel
theorem dX7_right_11 : decode cX7_right 11 = .ok (.aload_n 0, 1) := by decide +kernel
theorem dX7_right_12 : decode cX7_right 12 = .ok (.iload_n 2, 1) := by decide +kernel
theorem dX7_right_13 : decode cX7_right 13 = .ok (.putfield 90, 3) := by decide +kernel
theorem dX7_right_16 : decode cX7_right 16 = .ok (.aload_n 0, 1) := by decide +kernel
theorem dX7_right_17 : decode cX7_right 17 = .ok (.getfield 90, 3) := by decide +kernel
theorem dX7_right_20 : decode cX7_right 20 = .ok (.ifCond .ne 7, 3) := by decide +kernel
theorem dX7_right_23 : decode cX7_right 23 = .ok (.iconst 1, 1) := by decide +kernel
theorem dX7_right_24 : decode cX7_right 24 = .ok (.goto 4, 3) := by decide +kernel
theorem dX7_right_27 : decode cX7_right 27 = .ok (.iconst 0, 1) := by decide +kernel
theorem dX7_right_28 : decode cX7_right 28 = .ok (.ireturn, 1) := by decide +kernel
theorem dX7_isArena_0 : decode cX7_isArena 0 = .ok (.aload_n 0, 1) := by decide +kernel
theorem dX7_isArena_1 : decode cX7_isArena 1 = .ok (.iconst 0, 1) := by decide +kernel
theorem dX7_isArena_2 : decode cX7_isArena 2 = .ok (.putfield 90, 3) := by decide +kernel
theorem dX7_isArena_5 : decode cX7_isArena 5 = .ok (.aload_n 0, 1) := by decide +kernel
theorem dX7_isArena_6 : decode cX7_isArena 6 = .ok (.iload_n 1, 1) := by decide +kernel
theorem dX7_isArena_7 : decode cX7_isArena 7 = .ok (.ifCond .lt 15, 3) := by decide +kernel
theorem dX7_isArena_10 : decode cX7_isArena 10 = .ok (.iload_n 1, 1) := by decide +kernel
theorem dX7_isArena_11 : decode cX7_isArena 11 = .ok (.aload_n 0, 1) := by decide +kernel
theorem dX7_isArena_12 : decode cX7_isArena 12 = .ok (.getfield 94, 3) := by decide +kernel
theorem dX7_isArena_15 : decode cX7_isArena 15 = .ok (.if_icmp .ge 7, 3) := by decide +kernel
theorem dX7_isArena_18 : decode cX7_isArena 18 = .ok (.iconst 1, 1) := by decide +kernel
theorem dX7_isArena_19 : decode cX7_isArena 19 = .ok (.goto 4, 3) := by decide +kernel
theorem dX7_isArena_22 : decode cX7_isArena 22 = .ok (.iconst 0, 1) := by decide +kernel
theorem dX7_isArena_23 : decode cX7_isArena 23 = .ok (.iconst 1, 1) := by decide +kernel
theorem dX7_isArena_24 : decode cX7_isArena 24 = .ok (.invokevirtual 97, 3) := by decide +kernel
theorem dX7_isArena_27 : decode cX7_isArena 27 = .ok (.ireturn, 1) := by decide +kernel
theorem dX7_isPower_0 : decode cX7_isPower 0 = .ok (.iload_n 0, 1) := by decide +kernel
theorem dX7_isPower_1 : decode cX7_isPower 1 = .ok (.ifCond .le 15, 3) := by decide +kernel
theorem dX7_isPower_4 : decode cX7_isPower 4 = .ok (.iload_n 0, 1) := by decide +kernel
theorem dX7_isPower_5 : decode cX7_isPower 5 = .ok (.iload_n 0, 1) := by decide +kernel
theorem dX7_isPower_6 : decode cX7_isPower 6 = .ok (.iconst 1, 1) := by decide +kernel
theorem dX7_isPower_7 : decode cX7_isPower 7 = .ok (.isub, 1) := by decide +kernel
theorem dX7_isPower_8 : decode cX7_isPower 8 = .ok (.iand, 1) := by decide +kernel
theorem dX7_isPower_9 : decode cX7_isPower 9 = .ok (.ifCond .ne 7, 3) := by decide +kernel
theorem dX7_isPower_12 : decode cX7_isPower 12 = .ok (.iconst 1, 1) := by decide +kernel
theorem dX7_isPower_13 : decode cX7_isPower 13 = .ok (.goto 4, 3) := by decide +kernel
theorem dX7_isPower_16 : decode cX7_isPower 16 = .ok (.iconst 0, 1) := by decide +kernel
theorem dX7_isPower_17 : decode cX7_isPower 17 = .ok (.ireturn, 1) := by decide +kernel
theorem dX7_make_0 : decode cX7_make 0 = .ok (.aload_n 0, 1) := by decide +kernel
theorem dX7_make_1 : decode cX7_make 1 = .ok (.iconst 0, 1) := by decide +kernel
theorem dX7_make_2 : decode cX7_make 2 = .ok (.putfield 90, 3) := by decide +kernel
theorem dX7_make_5 : decode cX7_make 5 = .ok (.iload_n 1, 1) := by decide +kernel
theorem dX7_make_6 : decode cX7_make 6 = .ok (.invokestatic 101, 3) := by decide +kernel
theorem dX7_make_9 : decode cX7_make 9 = .ok (.ifCond .eq 36, 3) := by decide +kernel
theorem dX7_make_12 : decode cX7_make 12 = .ok (.iload_n 1, 1) := by decide +kernel
theorem dX7_make_13 : decode cX7_make 13 = .ok (.ldc 105, 2) := by decide +kernel
theorem dX7_make_15 : decode cX7_make 15 = .ok (.if_icmp .gt 30, 3) := by decide +kernel
theorem dX7_make_18 : decode cX7_make 18 = .ok (.iload_n 3, 1) := by decide +kernel
theorem dX7_make_19 : decode cX7_make 19 = .ok (.ifCond .lt 26, 3) := by decide +kernel
theorem dX7_make_22 : decode cX7_make 22 = .ok (.iload_n 3, 1) := by decide +kernel
theorem dX7_make_23 : decode cX7_make 23 = .ok (.bipush 8, 2) := by decide +kernel
theorem dX7_make_25 : decode cX7_make 25 = .ok (.if_icmp .gt 20, 3) := by decide +kernel
theorem dX7_make_28 : decode cX7_make 28 = .ok (.iload_n 2, 1) := by decide +kernel
theorem dX7_make_29 : decode cX7_make 29 = .ok (.iconst (-1), 1) := by decide +kernel
theorem dX7_make_30 : decode cX7_make 30 = .ok (.if_icmp .lt 15, 3) := by decide +kernel
theorem dX7_make_33 : decode cX7_make 33 = .ok (.iload_n 2, 1) := by decide +kernel
theorem dX7_make_34 : decode cX7_make 34 = .ok (.aload_n 0, 1) := by decide +kernel
theorem dX7_make_35 : decode cX7_make 35 = .ok (.getfield 94, 3) := by decide +kernel
theorem dX7_make_38 : decode cX7_make 38 = .ok (.if_icmp .ge 7, 3) := by decide +kernel
theorem dX7_make_41 : decode cX7_make 41 = .ok (.iconst 1, 1) := by decide +kernel
theorem dX7_make_42 : decode cX7_make 42 = .ok (.goto 4, 3) := by decide +kernel
theorem dX7_make_45 : decode cX7_make 45 = .ok (.iconst 0, 1) := by decide +kernel
theorem dX7_make_46 : decode cX7_make 46 = .ok (.istore 4, 2) := by decide +kernel
theorem dX7_make_48 : decode cX7_make 48 = .ok (.aload_n 0, 1) := by decide +kernel
theorem dX7_make_49 : decode cX7_make 49 = .ok (.iload 4, 2) := by decide +kernel
theorem dX7_make_51 : decode cX7_make 51 = .ok (.ifCond .eq 22, 3) := by decide +kernel
theorem dX7_make_54 : decode cX7_make 54 = .ok (.iload_n 2, 1) := by decide +kernel
theorem dX7_make_55 : decode cX7_make 55 = .ok (.iconst (-1), 1) := by decide +kernel
theorem dX7_make_56 : decode cX7_make 56 = .ok (.if_icmp .eq 13, 3) := by decide +kernel
theorem dX7_make_59 : decode cX7_make 59 = .ok (.aload_n 0, 1) := by decide +kernel
theorem dX7_make_60 : decode cX7_make 60 = .ok (.getfield 7, 3) := by decide +kernel
theorem dX7_make_63 : decode cX7_make 63 = .ok (.iload_n 2, 1) := by decide +kernel
theorem dX7_make_64 : decode cX7_make 64 = .ok (.iaload, 1) := by decide +kernel
theorem dX7_make_65 : decode cX7_make 65 = .ok (.iload_n 1, 1) := by decide +kernel
theorem dX7_make_66 : decode cX7_make 66 = .ok (.if_icmp .lt 7, 3) := by decide +kernel
theorem dX7_make_69 : decode cX7_make 69 = .ok (.iconst 1, 1) := by decide +kernel
theorem dX7_make_70 : decode cX7_make 70 = .ok (.goto 4, 3) := by decide +kernel
theorem dX7_make_73 : decode cX7_make 73 = .ok (.iconst 0, 1) := by decide +kernel
theorem dX7_make_74 : decode cX7_make 74 = .ok (.iconst 1, 1) := by decide +kernel
theorem dX7_make_75 : decode cX7_make 75 = .ok (.invokevirtual 97, 3) := by decide +kernel
theorem dX7_make_78 : decode cX7_make 78 = .ok (.ifCond .ne 5, 3) := by decide +kernel
theorem dX7_make_81 : decode cX7_make 81 = .ok (.iconst 0, 1) := by decide +kernel
theorem dX7_make_82 : decode cX7_make 82 = .ok (.ireturn, 1) := by decide +kernel
theorem dX7_make_83 : decode cX7_make 83 = .ok (.aload_n 0, 1) := by decide +kernel
theorem dX7_make_84 : decode cX7_make 84 = .ok (.getfield 94, 3) := by decide +kernel
theorem dX7_make_87 : decode cX7_make 87 = .ok (.bipush 8, 2) := by decide +kernel
theorem dX7_make_89 : decode cX7_make 89 = .ok (.if_icmp .ne 5, 3) := by decide +kernel
theorem dX7_make_92 : decode cX7_make 92 = .ok (.iconst (-1), 1) := by decide +kernel
theorem dX7_make_93 : decode cX7_make 93 = .ok (.ireturn, 1) := by decide +kernel
theorem dX7_make_94 : decode cX7_make 94 = .ok (.aload_n 0, 1) := by decide +kernel
theorem dX7_make_95 : decode cX7_make 95 = .ok (.getfield 7, 3) := by decide +kernel
theorem dX7_make_98 : decode cX7_make 98 = .ok (.aload_n 0, 1) := by decide +kernel
theorem dX7_make_99 : decode cX7_make 99 = .ok (.getfield 94, 3) := by decide +kernel
theorem dX7_make_102 : decode cX7_make 102 = .ok (.iload_n 1, 1) := by decide +kernel
theorem dX7_make_103 : decode cX7_make 103 = .ok (.iastore, 1) := by decide +kernel
theorem dX7_make_104 : decode cX7_make 104 = .ok (.aload_n 0, 1) := by decide +kernel
theorem dX7_make_105 : decode cX7_make 105 = .ok (.getfield 13, 3) := by decide +kernel
theorem dX7_make_108 : decode cX7_make 108 = .ok (.aload_n 0, 1) := by decide +kernel
theorem dX7_make_109 : decode cX7_make 109 = .ok (.getfield 94, 3) := by decide +kernel
theorem dX7_make_112 : decode cX7_make 112 = .ok (.iload_n 2, 1) := by decide +kernel
theorem dX7_make_113 : decode cX7_make 113 = .ok (.iastore, 1) := by decide +kernel
theorem dX7_make_114 : decode cX7_make 114 = .ok (.aload_n 0, 1) := by decide +kernel
theorem dX7_make_115 : decode cX7_make 115 = .ok (.getfield 16, 3) := by decide +kernel
theorem dX7_make_118 : decode cX7_make 118 = .ok (.aload_n 0, 1) := by decide +kernel
theorem dX7_make_119 : decode cX7_make 119 = .ok (.getfield 94, 3) := by decide +kernel
theorem dX7_make_122 : decode cX7_make 122 = .ok (.iload_n 3, 1) := by decide +kernel
theorem dX7_make_123 : decode cX7_make 123 = .ok (.iastore, 1) := by decide +kernel
theorem dX7_make_124 : decode cX7_make 124 = .ok (.aload_n 0, 1) := by decide +kernel
theorem dX7_make_125 : decode cX7_make 125 = .ok (.getfield 25, 3) := by decide +kernel
theorem dX7_make_128 : decode cX7_make 128 = .ok (.aload_n 0, 1) := by decide +kernel
theorem dX7_make_129 : decode cX7_make 129 = .ok (.getfield 94, 3) := by decide +kernel
theorem dX7_make_132 : decode cX7_make 132 = .ok (.ldc 106, 2) := by decide +kernel
theorem dX7_make_134 : decode cX7_make 134 = .ok (.iastore, 1) := by decide +kernel
theorem dX7_make_135 : decode cX7_make 135 = .ok (.aload_n 0, 1) := by decide +kernel
theorem dX7_make_136 : decode cX7_make 136 = .ok (.dup, 1) := by decide +kernel
theorem dX7_make_137 : decode cX7_make 137 = .ok (.getfield 94, 3) := by decide +kernel
theorem dX7_make_140 : decode cX7_make 140 = .ok (.iconst 1, 1) := by decide +kernel
theorem dX7_make_141 : decode cX7_make 141 = .ok (.iadd, 1) := by decide +kernel
theorem dX7_make_142 : decode cX7_make 142 = .ok (.putfield 94, 3) := by decide +kernel
theorem dX7_make_145 : decode cX7_make 145 = .ok (.aload_n 0, 1) := by decide +kernel
theorem dX7_make_146 : decode cX7_make 146 = .ok (.getfield 94, 3) := by decide +kernel
theorem dX7_make_149 : decode cX7_make 149 = .ok (.iconst 1, 1) := by decide +kernel
theorem dX7_make_150 : decode cX7_make 150 = .ok (.isub, 1) := by decide +kernel
theorem dX7_make_151 : decode cX7_make 151 = .ok (.ireturn, 1) := by decide +kernel
theorem dX7_left_0 : decode cX7_left 0 = .ok (.sipush 600, 3) := by decide +kernel
theorem dX7_left_3 : decode cX7_left 3 = .ok (.aload_n 0, 1) := by decide +kernel
theorem dX7_left_4 : decode cX7_left 4 = .ok (.getfield 107, 3) := by decide +kernel
theorem dX7_left_7 : decode cX7_left 7 = .ok (.isub, 1) := by decide +kernel
theorem dX7_left_8 : decode cX7_left 8 = .ok (.aload_n 0, 1) := by decide +kernel
theorem dX7_left_9 : decode cX7_left 9 = .ok (.getfield 110, 3) := by decide +kernel
theorem dX7_left_12 : decode cX7_left 12 = .ok (.isub, 1) := by decide +kernel
theorem dX7_left_13 : decode cX7_left 13 = .ok (.ireturn, 1) := by decide +kernel
theorem dX7_position_0 : decode cX7_position 0 = .ok (.iconst 0, 1) := by decide +kernel
theorem dX7_position_1 : decode cX7_position 1 = .ok (.istore 4, 2) := by decide +kernel
theorem dX7_position_3 : decode cX7_position 3 = .ok (.iload 4, 2) := by decide +kernel
theorem dX7_position_5 : decode cX7_position 5 = .ok (.aload_n 0, 1) := by decide +kernel
theorem dX7_position_6 : decode cX7_position 6 = .ok (.getfield 107, 3) := by decide +kernel
theorem dX7_position_9 : decode cX7_position 9 = .ok (.if_icmp .ge 44, 3) := by decide +kernel
theorem dX7_position_12 : decode cX7_position 12 = .ok (.aload_n 0, 1) := by decide +kernel
theorem dX7_position_13 : decode cX7_position 13 = .ok (.getfield 34, 3) := by decide +kernel
theorem dX7_position_16 : decode cX7_position 16 = .ok (.iload 4, 2) := by decide +kernel
theorem dX7_position_18 : decode cX7_position 18 = .ok (.iaload, 1) := by decide +kernel
theorem dX7_position_19 : decode cX7_position 19 = .ok (.iload_n 1, 1) := by decide +kernel
theorem dX7_position_20 : decode cX7_position 20 = .ok (.if_icmp .lt 27, 3) := by decide +kernel
theorem dX7_position_23 : decode cX7_position 23 = .ok (.aload_n 0, 1) := by decide +kernel
theorem dX7_position_24 : decode cX7_position 24 = .ok (.getfield 34, 3) := by decide +kernel
theorem dX7_position_27 : decode cX7_position 27 = .ok (.iload 4, 2) := by decide +kernel
theorem dX7_position_29 : decode cX7_position 29 = .ok (.iaload, 1) := by decide +kernel
theorem dX7_position_30 : decode cX7_position 30 = .ok (.iload_n 1, 1) := by decide +kernel
theorem dX7_position_31 : decode cX7_position 31 = .ok (.if_icmp .ne 22, 3) := by decide +kernel
theorem dX7_position_34 : decode cX7_position 34 = .ok (.aload_n 0, 1) := by decide +kernel
theorem dX7_position_35 : decode cX7_position 35 = .ok (.getfield 37, 3) := by decide +kernel
theorem dX7_position_38 : decode cX7_position 38 = .ok (.iload 4, 2) := by decide +kernel
theorem dX7_position_40 : decode cX7_position 40 = .ok (.iaload, 1) := by decide +kernel
theorem dX7_position_41 : decode cX7_position 41 = .ok (.i2l, 1) := by decide +kernel
theorem dX7_position_42 : decode cX7_position 42 = .ok (.lload_n 2, 1) := by decide +kernel
theorem dX7_position_43 : decode cX7_position 43 = .ok (.lcmp, 1) := by decide +kernel
theorem dX7_position_44 : decode cX7_position 44 = .ok (.ifCond .ge 9, 3) := by decide +kernel
theorem dX7_position_47 : decode cX7_position 47 = .ok (.iinc 4 1, 3) := by decide +kernel
theorem dX7_position_50 : decode cX7_position 50 = .ok (.goto (-47), 3) := by decide +kernel
theorem dX7_position_53 : decode cX7_position 53 = .ok (.iload 4, 2) := by decide +kernel
theorem dX7_position_55 : decode cX7_position 55 = .ok (.ireturn, 1) := by decide +kernel
theorem dX7_copy_0 : decode cX7_copy 0 = .ok (.aload_n 0, 1) := by decide +kernel
theorem dX7_copy_1 : decode cX7_copy 1 = .ok (.getfield 34, 3) := by decide +kernel
theorem dX7_copy_4 : decode cX7_copy 4 = .ok (.iload_n 2, 1) := by decide +kernel
theorem dX7_copy_5 : decode cX7_copy 5 = .ok (.aload_n 0, 1) := by decide +kernel
theorem dX7_copy_6 : decode cX7_copy 6 = .ok (.getfield 34, 3) := by decide +kernel
theorem dX7_copy_9 : decode cX7_copy 9 = .ok (.iload_n 1, 1) := by decide +kernel
theorem dX7_copy_10 : decode cX7_copy 10 = .ok (.iaload, 1) := by decide +kernel
theorem dX7_copy_11 : decode cX7_copy 11 = .ok (.iastore, 1) := by decide +kernel
theorem dX7_copy_12 : decode cX7_copy 12 = .ok (.aload_n 0, 1) := by decide +kernel
theorem dX7_copy_13 : decode cX7_copy 13 = .ok (.getfield 37, 3) := by decide +kernel
theorem dX7_copy_16 : decode cX7_copy 16 = .ok (.iload_n 2, 1) := by decide +kernel
theorem dX7_copy_17 : decode cX7_copy 17 = .ok (.aload_n 0, 1) := by decide +kernel
theorem dX7_copy_18 : decode cX7_copy 18 = .ok (.getfield 37, 3) := by decide +kernel
theorem dX7_copy_21 : decode cX7_copy 21 = .ok (.iload_n 1, 1) := by decide +kernel
theorem dX7_copy_22 : decode cX7_copy 22 = .ok (.iaload, 1) := by decide +kernel
theorem dX7_copy_23 : decode cX7_copy 23 = .ok (.iastore, 1) := by decide +kernel
theorem dX7_copy_24 : decode cX7_copy 24 = .ok (.aload_n 0, 1) := by decide +kernel
theorem dX7_copy_25 : decode cX7_copy 25 = .ok (.getfield 40, 3) := by decide +kernel
theorem dX7_copy_28 : decode cX7_copy 28 = .ok (.iload_n 2, 1) := by decide +kernel
theorem dX7_copy_29 : decode cX7_copy 29 = .ok (.aload_n 0, 1) := by decide +kernel
theorem dX7_copy_30 : decode cX7_copy 30 = .ok (.getfield 40, 3) := by decide +kernel
theorem dX7_copy_33 : decode cX7_copy 33 = .ok (.iload_n 1, 1) := by decide +kernel
theorem dX7_copy_34 : decode cX7_copy 34 = .ok (.iaload, 1) := by decide +kernel
theorem dX7_copy_35 : decode cX7_copy 35 = .ok (.iastore, 1) := by decide +kernel
theorem dX7_copy_36 : decode cX7_copy 36 = .ok (.aload_n 0, 1) := by decide +kernel
theorem dX7_copy_37 : decode cX7_copy 37 = .ok (.getfield 43, 3) := by decide +kernel
theorem dX7_copy_40 : decode cX7_copy 40 = .ok (.iload_n 2, 1) := by decide +kernel
theorem dX7_copy_41 : decode cX7_copy 41 = .ok (.aload_n 0, 1) := by decide +kernel
theorem dX7_copy_42 : decode cX7_copy 42 = .ok (.getfield 43, 3) := by decide +kernel
theorem dX7_copy_45 : decode cX7_copy 45 = .ok (.iload_n 1, 1) := by decide +kernel
theorem dX7_copy_46 : decode cX7_copy 46 = .ok (.iaload, 1) := by decide +kernel
theorem dX7_copy_47 : decode cX7_copy 47 = .ok (.iastore, 1) := by decide +kernel
theorem dX7_copy_48 : decode cX7_copy 48 = .ok (.aload_n 0, 1) := by decide +kernel
theorem dX7_copy_49 : decode cX7_copy 49 = .ok (.getfield 46, 3) := by decide +kernel
theorem dX7_copy_52 : decode cX7_copy 52 = .ok (.iload_n 2, 1) := by decide +kernel
theorem dX7_copy_53 : decode cX7_copy 53 = .ok (.aload_n 0, 1) := by decide +kernel
theorem dX7_copy_54 : decode cX7_copy 54 = .ok (.getfield 46, 3) := by decide +kernel
theorem dX7_copy_57 : decode cX7_copy 57 = .ok (.iload_n 1, 1) := by decide +kernel
theorem dX7_copy_58 : decode cX7_copy 58 = .ok (.iaload, 1) := by decide +kernel
theorem dX7_copy_59 : decode cX7_copy 59 = .ok (.iastore, 1) := by decide +kernel
theorem dX7_copy_60 : decode cX7_copy 60 = .ok (.aload_n 0, 1) := by decide +kernel
theorem dX7_copy_61 : decode cX7_copy 61 = .ok (.getfield 49, 3) := by decide +kernel
theorem dX7_copy_64 : decode cX7_copy 64 = .ok (.iload_n 2, 1) := by decide +kernel
theorem dX7_copy_65 : decode cX7_copy 65 = .ok (.aload_n 0, 1) := by decide +kernel
theorem dX7_copy_66 : decode cX7_copy 66 = .ok (.getfield 49, 3) := by decide +kernel
theorem dX7_copy_69 : decode cX7_copy 69 = .ok (.iload_n 1, 1) := by decide +kernel
theorem dX7_copy_70 : decode cX7_copy 70 = .ok (.iaload, 1) := by decide +kernel
theorem dX7_copy_71 : decode cX7_copy 71 = .ok (.iastore, 1) := by decide +kernel
theorem dX7_copy_72 : decode cX7_copy 72 = .ok (.aload_n 0, 1) := by decide +kernel
theorem dX7_copy_73 : decode cX7_copy 73 = .ok (.getfield 52, 3) := by decide +kernel
theorem dX7_copy_76 : decode cX7_copy 76 = .ok (.iload_n 2, 1) := by decide +kernel
theorem dX7_copy_77 : decode cX7_copy 77 = .ok (.aload_n 0, 1) := by decide +kernel
theorem dX7_copy_78 : decode cX7_copy 78 = .ok (.getfield 52, 3) := by decide +kernel
theorem dX7_copy_81 : decode cX7_copy 81 = .ok (.iload_n 1, 1) := by decide +kernel
theorem dX7_copy_82 : decode cX7_copy 82 = .ok (.iaload, 1) := by decide +kernel
theorem dX7_copy_83 : decode cX7_copy 83 = .ok (.iastore, 1) := by decide +kernel
theorem dX7_copy_84 : decode cX7_copy 84 = .ok (.return_, 1) := by decide +kernel
theorem dX7_insert_0 : decode cX7_insert 0 = .ok (.aload_n 0, 1) := by decide +kernel
theorem dX7_insert_1 : decode cX7_insert 1 = .ok (.iload_n 1, 1) := by decide +kernel
theorem dX7_insert_2 : decode cX7_insert 2 = .ok (.iload_n 2, 1) := by decide +kernel
theorem dX7_insert_3 : decode cX7_insert 3 = .ok (.i2l, 1) := by decide +kernel
theorem dX7_insert_4 : decode cX7_insert 4 = .ok (.invokevirtual 113, 3) := by decide +kernel
theorem dX7_insert_7 : decode cX7_insert 7 = .ok (.istore 5, 2) := by decide +kernel
theorem dX7_insert_9 : decode cX7_insert 9 = .ok (.aload_n 0, 1) := by decide +kernel
theorem dX7_insert_10 : decode cX7_insert 10 = .ok (.getfield 107, 3) := by decide +kernel
theorem dX7_insert_13 : decode cX7_insert 13 = .ok (.istore 6, 2) := by decide +kernel
theorem dX7_insert_15 : decode cX7_insert 15 = .ok (.iload 6, 2) := by decide +kernel
theorem dX7_insert_17 : decode cX7_insert 17 = .ok (.iload 5, 2) := by decide +kernel
theorem dX7_insert_19 : decode cX7_insert 19 = .ok (.if_icmp .le 19, 3) := by decide +kernel
theorem dX7_insert_22 : decode cX7_insert 22 = .ok (.aload_n 0, 1) := by decide +kernel
theorem dX7_insert_23 : decode cX7_insert 23 = .ok (.iload 6, 2) := by decide +kernel
theorem dX7_insert_25 : decode cX7_insert 25 = .ok (.iconst 1, 1) := by decide +kernel
theorem dX7_insert_26 : decode cX7_insert 26 = .ok (.isub, 1) := by decide +kernel
theorem dX7_insert_27 : decode cX7_insert 27 = .ok (.iload 6, 2) := by decide +kernel
theorem dX7_insert_29 : decode cX7_insert 29 = .ok (.invokevirtual 117, 3) := by decide +kernel
theorem dX7_insert_32 : decode cX7_insert 32 = .ok (.iinc 6 (-1), 3) := by decide +kernel
theorem dX7_insert_35 : decode cX7_insert 35 = .ok (.goto (-20), 3) := by decide +kernel
theorem dX7_insert_38 : decode cX7_insert 38 = .ok (.aload_n 0, 1) := by decide +kernel
theorem dX7_insert_39 : decode cX7_insert 39 = .ok (.dup, 1) := by decide +kernel
theorem dX7_insert_40 : decode cX7_insert 40 = .ok (.getfield 107, 3) := by decide +kernel
theorem dX7_insert_43 : decode cX7_insert 43 = .ok (.iconst 1, 1) := by decide +kernel
theorem dX7_insert_44 : decode cX7_insert 44 = .ok (.iadd, 1) := by decide +kernel
theorem dX7_insert_45 : decode cX7_insert 45 = .ok (.putfield 107, 3) := by decide +kernel
theorem dX7_insert_48 : decode cX7_insert 48 = .ok (.aload_n 0, 1) := by decide +kernel
theorem dX7_insert_49 : decode cX7_insert 49 = .ok (.getfield 34, 3) := by decide +kernel
theorem dX7_insert_52 : decode cX7_insert 52 = .ok (.iload 5, 2) := by decide +kernel
theorem dX7_insert_54 : decode cX7_insert 54 = .ok (.iload_n 1, 1) := by decide +kernel
theorem dX7_insert_55 : decode cX7_insert 55 = .ok (.iastore, 1) := by decide +kernel
theorem dX7_insert_56 : decode cX7_insert 56 = .ok (.aload_n 0, 1) := by decide +kernel
theorem dX7_insert_57 : decode cX7_insert 57 = .ok (.getfield 37, 3) := by decide +kernel
theorem dX7_insert_60 : decode cX7_insert 60 = .ok (.iload 5, 2) := by decide +kernel
theorem dX7_insert_62 : decode cX7_insert 62 = .ok (.iload_n 2, 1) := by decide +kernel
theorem dX7_insert_63 : decode cX7_insert 63 = .ok (.iastore, 1) := by decide +kernel
theorem dX7_insert_64 : decode cX7_insert 64 = .ok (.aload_n 0, 1) := by decide +kernel
theorem dX7_insert_65 : decode cX7_insert 65 = .ok (.getfield 40, 3) := by decide +kernel
theorem dX7_insert_68 : decode cX7_insert 68 = .ok (.iload 5, 2) := by decide +kernel
