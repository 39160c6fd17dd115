theorem dX7_insert_70 : decode cX7_insert 70 = .ok (.iload_n 3, 1) := by decide +kernel
theorem dX7_insert_71 : decode cX7_insert 71 = .ok (.iastore, 1) := by decide +kernel
theorem dX7_insert_72 : decode cX7_insert 72 = .ok (.aload_n 0, 1) := by decide +kernel
theorem dX7_insert_73 : decode cX7_insert 73 = .ok (.getfield 49, 3) := by decide +kernel
theorem dX7_insert_76 : decode cX7_insert 76 = .ok (.iload 5, 2) := by decide +kernel
theorem dX7_insert_78 : decode cX7_insert 78 = .ok (.iload 4, 2) := by decide +kernel
theorem dX7_insert_80 : decode cX7_insert 80 = .ok (.iastore, 1) := by decide +kernel
theorem dX7_insert_81 : decode cX7_insert 81 = .ok (.aload_n 0, 1) := by decide +kernel
theorem dX7_insert_82 : decode cX7_insert 82 = .ok (.getfield 52, 3) := by decide +kernel
theorem dX7_insert_85 : decode cX7_insert 85 = .ok (.iload 5, 2) := by decide +kernel
theorem dX7_insert_87 : decode cX7_insert 87 = .ok (.iconst 0, 1) := by decide +kernel
theorem dX7_insert_88 : decode cX7_insert 88 = .ok (.iastore, 1) := by decide +kernel
theorem dX7_insert_89 : decode cX7_insert 89 = .ok (.aload_n 0, 1) := by decide +kernel
theorem dX7_insert_90 : decode cX7_insert 90 = .ok (.iload 5, 2) := by decide +kernel
theorem dX7_insert_92 : decode cX7_insert 92 = .ok (.invokevirtual 121, 3) := by decide +kernel
theorem dX7_insert_95 : decode cX7_insert 95 = .ok (.iload 5, 2) := by decide +kernel
theorem dX7_insert_97 : decode cX7_insert 97 = .ok (.ireturn, 1) := by decide +kernel
theorem dX7_frees_0 : decode cX7_frees 0 = .ok (.aload_n 0, 1) := by decide +kernel
theorem dX7_frees_1 : decode cX7_frees 1 = .ok (.getfield 43, 3) := by decide +kernel
theorem dX7_frees_4 : decode cX7_frees 4 = .ok (.iload_n 1, 1) := by decide +kernel
theorem dX7_frees_5 : decode cX7_frees 5 = .ok (.iconst 0, 1) := by decide +kernel
theorem dX7_frees_6 : decode cX7_frees 6 = .ok (.iastore, 1) := by decide +kernel
theorem dX7_frees_7 : decode cX7_frees 7 = .ok (.aload_n 0, 1) := by decide +kernel
theorem dX7_frees_8 : decode cX7_frees 8 = .ok (.dup, 1) := by decide +kernel
theorem dX7_frees_9 : decode cX7_frees 9 = .ok (.getfield 125, 3) := by decide +kernel
theorem dX7_frees_12 : decode cX7_frees 12 = .ok (.iconst 1, 1) := by decide +kernel
theorem dX7_frees_13 : decode cX7_frees 13 = .ok (.iadd, 1) := by decide +kernel
theorem dX7_frees_14 : decode cX7_frees 14 = .ok (.putfield 125, 3) := by decide +kernel
theorem dX7_frees_17 : decode cX7_frees 17 = .ok (.aload_n 0, 1) := by decide +kernel
theorem dX7_frees_18 : decode cX7_frees 18 = .ok (.getfield 46, 3) := by decide +kernel
theorem dX7_frees_21 : decode cX7_frees 21 = .ok (.iload_n 1, 1) := by decide +kernel
theorem dX7_frees_22 : decode cX7_frees 22 = .ok (.aload_n 0, 1) := by decide +kernel
theorem dX7_frees_23 : decode cX7_frees 23 = .ok (.getfield 125, 3) := by decide +kernel
theorem dX7_frees_26 : decode cX7_frees 26 = .ok (.iastore, 1) := by decide +kernel
theorem dX7_frees_27 : decode cX7_frees 27 = .ok (.return_, 1) := by decide +kernel
theorem dX7_remove_0 : decode cX7_remove 0 = .ok (.aload_n 0, 1) := by decide +kernel
theorem dX7_remove_1 : decode cX7_remove 1 = .ok (.dup, 1) := by decide +kernel
theorem dX7_remove_2 : decode cX7_remove 2 = .ok (.getfield 107, 3) := by decide +kernel
theorem dX7_remove_5 : decode cX7_remove 5 = .ok (.iconst 1, 1) := by decide +kernel
theorem dX7_remove_6 : decode cX7_remove 6 = .ok (.isub, 1) := by decide +kernel
theorem dX7_remove_7 : decode cX7_remove 7 = .ok (.putfield 107, 3) := by decide +kernel
theorem dX7_remove_10 : decode cX7_remove 10 = .ok (.iload_n 1, 1) := by decide +kernel
theorem dX7_remove_11 : decode cX7_remove 11 = .ok (.istore_n 2, 1) := by decide +kernel
theorem dX7_remove_12 : decode cX7_remove 12 = .ok (.iload_n 2, 1) := by decide +kernel
theorem dX7_remove_13 : decode cX7_remove 13 = .ok (.aload_n 0, 1) := by decide +kernel
theorem dX7_remove_14 : decode cX7_remove 14 = .ok (.getfield 107, 3) := by decide +kernel
theorem dX7_remove_17 : decode cX7_remove 17 = .ok (.if_icmp .ge 17, 3) := by decide +kernel
theorem dX7_remove_20 : decode cX7_remove 20 = .ok (.aload_n 0, 1) := by decide +kernel
theorem dX7_remove_21 : decode cX7_remove 21 = .ok (.iload_n 2, 1) := by decide +kernel
theorem dX7_remove_22 : decode cX7_remove 22 = .ok (.iconst 1, 1) := by decide +kernel
theorem dX7_remove_23 : decode cX7_remove 23 = .ok (.iadd, 1) := by decide +kernel
theorem dX7_remove_24 : decode cX7_remove 24 = .ok (.iload_n 2, 1) := by decide +kernel
theorem dX7_remove_25 : decode cX7_remove 25 = .ok (.invokevirtual 117, 3) := by decide +kernel
theorem dX7_remove_28 : decode cX7_remove 28 = .ok (.iinc 2 1, 3) := by decide +kernel
theorem dX7_remove_31 : decode cX7_remove 31 = .ok (.goto (-19), 3) := by decide +kernel
theorem dX7_remove_34 : decode cX7_remove 34 = .ok (.return_, 1) := by decide +kernel
theorem dX7_addSpan_0 : decode cX7_addSpan 0 = .ok (.iconst 0, 1) := by decide +kernel
theorem dX7_addSpan_1 : decode cX7_addSpan 1 = .ok (.istore 5, 2) := by decide +kernel
theorem dX7_addSpan_3 : decode cX7_addSpan 3 = .ok (.aload_n 0, 1) := by decide +kernel
theorem dX7_addSpan_4 : decode cX7_addSpan 4 = .ok (.getfield 64, 3) := by decide +kernel
theorem dX7_addSpan_7 : decode cX7_addSpan 7 = .ok (.iload 5, 2) := by decide +kernel
theorem dX7_addSpan_9 : decode cX7_addSpan 9 = .ok (.baload, 1) := by decide +kernel
theorem dX7_addSpan_10 : decode cX7_addSpan 10 = .ok (.ifCond .eq 9, 3) := by decide +kernel
theorem dX7_addSpan_13 : decode cX7_addSpan 13 = .ok (.iinc 5 1, 3) := by decide +kernel
theorem dX7_addSpan_16 : decode cX7_addSpan 16 = .ok (.goto (-13), 3) := by decide +kernel
theorem dX7_addSpan_19 : decode cX7_addSpan 19 = .ok (.aload_n 0, 1) := by decide +kernel
theorem dX7_addSpan_20 : decode cX7_addSpan 20 = .ok (.getfield 64, 3) := by decide +kernel
theorem dX7_addSpan_23 : decode cX7_addSpan 23 = .ok (.iload 5, 2) := by decide +kernel
theorem dX7_addSpan_25 : decode cX7_addSpan 25 = .ok (.iconst 1, 1) := by decide +kernel
theorem dX7_addSpan_26 : decode cX7_addSpan 26 = .ok (.bastore, 1) := by decide +kernel
theorem dX7_addSpan_27 : decode cX7_addSpan 27 = .ok (.aload_n 0, 1) := by decide +kernel
theorem dX7_addSpan_28 : decode cX7_addSpan 28 = .ok (.getfield 68, 3) := by decide +kernel
theorem dX7_addSpan_31 : decode cX7_addSpan 31 = .ok (.iload 5, 2) := by decide +kernel
theorem dX7_addSpan_33 : decode cX7_addSpan 33 = .ok (.iload 4, 2) := by decide +kernel
theorem dX7_addSpan_35 : decode cX7_addSpan 35 = .ok (.bastore, 1) := by decide +kernel
theorem dX7_addSpan_36 : decode cX7_addSpan 36 = .ok (.aload_n 0, 1) := by decide +kernel
theorem dX7_addSpan_37 : decode cX7_addSpan 37 = .ok (.getfield 55, 3) := by decide +kernel
theorem dX7_addSpan_40 : decode cX7_addSpan 40 = .ok (.iload 5, 2) := by decide +kernel
theorem dX7_addSpan_42 : decode cX7_addSpan 42 = .ok (.iload_n 1, 1) := by decide +kernel
theorem dX7_addSpan_43 : decode cX7_addSpan 43 = .ok (.iastore, 1) := by decide +kernel
theorem dX7_addSpan_44 : decode cX7_addSpan 44 = .ok (.aload_n 0, 1) := by decide +kernel
theorem dX7_addSpan_45 : decode cX7_addSpan 45 = .ok (.getfield 58, 3) := by decide +kernel
theorem dX7_addSpan_48 : decode cX7_addSpan 48 = .ok (.iload 5, 2) := by decide +kernel
theorem dX7_addSpan_50 : decode cX7_addSpan 50 = .ok (.iload_n 2, 1) := by decide +kernel
theorem dX7_addSpan_51 : decode cX7_addSpan 51 = .ok (.iastore, 1) := by decide +kernel
theorem dX7_addSpan_52 : decode cX7_addSpan 52 = .ok (.aload_n 0, 1) := by decide +kernel
theorem dX7_addSpan_53 : decode cX7_addSpan 53 = .ok (.getfield 61, 3) := by decide +kernel
theorem dX7_addSpan_56 : decode cX7_addSpan 56 = .ok (.iload 5, 2) := by decide +kernel
theorem dX7_addSpan_58 : decode cX7_addSpan 58 = .ok (.iload_n 3, 1) := by decide +kernel
theorem dX7_addSpan_59 : decode cX7_addSpan 59 = .ok (.iastore, 1) := by decide +kernel
theorem dX7_addSpan_60 : decode cX7_addSpan 60 = .ok (.aload_n 0, 1) := by decide +kernel
theorem dX7_addSpan_61 : decode cX7_addSpan 61 = .ok (.dup, 1) := by decide +kernel
theorem dX7_addSpan_62 : decode cX7_addSpan 62 = .ok (.getfield 110, 3) := by decide +kernel
theorem dX7_addSpan_65 : decode cX7_addSpan 65 = .ok (.iconst 1, 1) := by decide +kernel
theorem dX7_addSpan_66 : decode cX7_addSpan 66 = .ok (.iadd, 1) := by decide +kernel
theorem dX7_addSpan_67 : decode cX7_addSpan 67 = .ok (.putfield 110, 3) := by decide +kernel
theorem dX7_addSpan_70 : decode cX7_addSpan 70 = .ok (.aload_n 0, 1) := by decide +kernel
theorem dX7_addSpan_71 : decode cX7_addSpan 71 = .ok (.iload_n 1, 1) := by decide +kernel
theorem dX7_addSpan_72 : decode cX7_addSpan 72 = .ok (.iload_n 2, 1) := by decide +kernel
theorem dX7_addSpan_73 : decode cX7_addSpan 73 = .ok (.iload_n 3, 1) := by decide +kernel
theorem dX7_addSpan_74 : decode cX7_addSpan 74 = .ok (.iload 5, 2) := by decide +kernel
theorem dX7_addSpan_76 : decode cX7_addSpan 76 = .ok (.invokevirtual 128, 3) := by decide +kernel
theorem dX7_addSpan_79 : decode cX7_addSpan 79 = .ok (.pop, 1) := by decide +kernel
theorem dX7_addSpan_80 : decode cX7_addSpan 80 = .ok (.iload 5, 2) := by decide +kernel
theorem dX7_addSpan_82 : decode cX7_addSpan 82 = .ok (.ireturn, 1) := by decide +kernel
theorem dX7_add_0 : decode cX7_add 0 = .ok (.aload_n 0, 1) := by decide +kernel
theorem dX7_add_1 : decode cX7_add 1 = .ok (.iload_n 1, 1) := by decide +kernel
theorem dX7_add_2 : decode cX7_add 2 = .ok (.invokevirtual 132, 3) := by decide +kernel
theorem dX7_add_5 : decode cX7_add 5 = .ok (.ifCond .ne 5, 3) := by decide +kernel
theorem dX7_add_8 : decode cX7_add 8 = .ok (.iconst 0, 1) := by decide +kernel
theorem dX7_add_9 : decode cX7_add 9 = .ok (.ireturn, 1) := by decide +kernel
theorem dX7_add_10 : decode cX7_add 10 = .ok (.aload_n 0, 1) := by decide +kernel
theorem dX7_add_11 : decode cX7_add 11 = .ok (.iload_n 3, 1) := by decide +kernel
theorem dX7_add_12 : decode cX7_add 12 = .ok (.ifCond .le 29, 3) := by decide +kernel
theorem dX7_add_15 : decode cX7_add 15 = .ok (.iload_n 2, 1) := by decide +kernel
theorem dX7_add_16 : decode cX7_add 16 = .ok (.aload_n 0, 1) := by decide +kernel
theorem dX7_add_17 : decode cX7_add 17 = .ok (.getfield 7, 3) := by decide +kernel
theorem dX7_add_20 : decode cX7_add 20 = .ok (.iload_n 1, 1) := by decide +kernel
theorem dX7_add_21 : decode cX7_add 21 = .ok (.iaload, 1) := by decide +kernel
theorem dX7_add_22 : decode cX7_add 22 = .ok (.irem, 1) := by decide +kernel
theorem dX7_add_23 : decode cX7_add 23 = .ok (.ifCond .ne 18, 3) := by decide +kernel
theorem dX7_add_26 : decode cX7_add 26 = .ok (.iload_n 3, 1) := by decide +kernel
theorem dX7_add_27 : decode cX7_add 27 = .ok (.aload_n 0, 1) := by decide +kernel
theorem dX7_add_28 : decode cX7_add 28 = .ok (.getfield 7, 3) := by decide +kernel
theorem dX7_add_31 : decode cX7_add 31 = .ok (.iload_n 1, 1) := by decide +kernel
theorem dX7_add_32 : decode cX7_add 32 = .ok (.iaload, 1) := by decide +kernel
theorem dX7_add_33 : decode cX7_add 33 = .ok (.irem, 1) := by decide +kernel
theorem dX7_add_34 : decode cX7_add 34 = .ok (.ifCond .ne 7, 3) := by decide +kernel
theorem dX7_add_37 : decode cX7_add 37 = .ok (.iconst 1, 1) := by decide +kernel
theorem dX7_add_38 : decode cX7_add 38 = .ok (.goto 4, 3) := by decide +kernel
theorem dX7_add_41 : decode cX7_add 41 = .ok (.iconst 0, 1) := by decide +kernel
theorem dX7_add_42 : decode cX7_add 42 = .ok (.iconst 2, 1) := by decide +kernel
theorem dX7_add_43 : decode cX7_add 43 = .ok (.invokevirtual 97, 3) := by decide +kernel
theorem dX7_add_46 : decode cX7_add 46 = .ok (.ifCond .ne 5, 3) := by decide +kernel
theorem dX7_add_49 : decode cX7_add 49 = .ok (.iconst 0, 1) := by decide +kernel
theorem dX7_add_50 : decode cX7_add 50 = .ok (.ireturn, 1) := by decide +kernel
theorem dX7_add_51 : decode cX7_add 51 = .ok (.aload_n 0, 1) := by decide +kernel
theorem dX7_add_52 : decode cX7_add 52 = .ok (.invokevirtual 135, 3) := by decide +kernel
theorem dX7_add_55 : decode cX7_add 55 = .ok (.bipush 40, 2) := by decide +kernel
theorem dX7_add_57 : decode cX7_add 57 = .ok (.if_icmp .ge 6, 3) := by decide +kernel
theorem dX7_add_60 : decode cX7_add 60 = .ok (.bipush (-2), 2) := by decide +kernel
theorem dX7_add_62 : decode cX7_add 62 = .ok (.ireturn, 1) := by decide +kernel
theorem dX7_add_63 : decode cX7_add 63 = .ok (.aload_n 0, 1) := by decide +kernel
theorem dX7_add_64 : decode cX7_add 64 = .ok (.getfield 13, 3) := by decide +kernel
theorem dX7_add_67 : decode cX7_add 67 = .ok (.iload_n 1, 1) := by decide +kernel
theorem dX7_add_68 : decode cX7_add 68 = .ok (.iaload, 1) := by decide +kernel
theorem dX7_add_69 : decode cX7_add 69 = .ok (.iconst (-1), 1) := by decide +kernel
theorem dX7_add_70 : decode cX7_add 70 = .ok (.if_icmp .ne 19, 3) := by decide +kernel
theorem dX7_add_73 : decode cX7_add 73 = .ok (.iload_n 2, 1) := by decide +kernel
theorem dX7_add_74 : decode cX7_add 74 = .ok (.ifCond .lt 15, 3) := by decide +kernel
theorem dX7_add_77 : decode cX7_add 77 = .ok (.iload_n 2, 1) := by decide +kernel
theorem dX7_add_78 : decode cX7_add 78 = .ok (.i2l, 1) := by decide +kernel
theorem dX7_add_79 : decode cX7_add 79 = .ok (.iload_n 3, 1) := by decide +kernel
theorem dX7_add_80 : decode cX7_add 80 = .ok (.i2l, 1) := by decide +kernel
theorem dX7_add_81 : decode cX7_add 81 = .ok (.ladd, 1) := by decide +kernel
theorem dX7_add_82 : decode cX7_add 82 = .ok (.ldc2_w 139, 3) := by decide +kernel
theorem dX7_add_85 : decode cX7_add 85 = .ok (.lcmp, 1) := by decide +kernel
theorem dX7_add_86 : decode cX7_add 86 = .ok (.ifCond .le 5, 3) := by decide +kernel
theorem dX7_add_89 : decode cX7_add 89 = .ok (.iconst (-1), 1) := by decide +kernel
theorem dX7_add_90 : decode cX7_add 90 = .ok (.ireturn, 1) := by decide +kernel
theorem dX7_add_91 : decode cX7_add 91 = .ok (.iconst 0, 1) := by decide +kernel
theorem dX7_add_92 : decode cX7_add 92 = .ok (.istore 4, 2) := by decide +kernel
theorem dX7_add_94 : decode cX7_add 94 = .ok (.iload 4, 2) := by decide +kernel
theorem dX7_add_96 : decode cX7_add 96 = .ok (.sipush 600, 3) := by decide +kernel
theorem dX7_add_99 : decode cX7_add 99 = .ok (.if_icmp .ge 64, 3) := by decide +kernel
theorem dX7_add_102 : decode cX7_add 102 = .ok (.aload_n 0, 1) := by decide +kernel
theorem dX7_add_103 : decode cX7_add 103 = .ok (.getfield 64, 3) := by decide +kernel
theorem dX7_add_106 : decode cX7_add 106 = .ok (.iload 4, 2) := by decide +kernel
theorem dX7_add_108 : decode cX7_add 108 = .ok (.baload, 1) := by decide +kernel
theorem dX7_add_109 : decode cX7_add 109 = .ok (.ifCond .eq 48, 3) := by decide +kernel
theorem dX7_add_112 : decode cX7_add 112 = .ok (.aload_n 0, 1) := by decide +kernel
theorem dX7_add_113 : decode cX7_add 113 = .ok (.getfield 55, 3) := by decide +kernel
theorem dX7_add_116 : decode cX7_add 116 = .ok (.iload 4, 2) := by decide +kernel
theorem dX7_add_118 : decode cX7_add 118 = .ok (.iaload, 1) := by decide +kernel
theorem dX7_add_119 : decode cX7_add 119 = .ok (.iload_n 1, 1) := by decide +kernel
theorem dX7_add_120 : decode cX7_add 120 = .ok (.if_icmp .ne 37, 3) := by decide +kernel
theorem dX7_add_123 : decode cX7_add 123 = .ok (.iload_n 2, 1) := by decide +kernel
theorem dX7_add_124 : decode cX7_add 124 = .ok (.aload_n 0, 1) := by decide +kernel
theorem dX7_add_125 : decode cX7_add 125 = .ok (.getfield 58, 3) := by decide +kernel
theorem dX7_add_128 : decode cX7_add 128 = .ok (.iload 4, 2) := by decide +kernel
theorem dX7_add_130 : decode cX7_add 130 = .ok (.iaload, 1) := by decide +kernel
theorem dX7_add_131 : decode cX7_add 131 = .ok (.aload_n 0, 1) := by decide +kernel
theorem dX7_add_132 : decode cX7_add 132 = .ok (.getfield 61, 3) := by decide +kernel
theorem dX7_add_135 : decode cX7_add 135 = .ok (.iload 4, 2) := by decide +kernel
theorem dX7_add_137 : decode cX7_add 137 = .ok (.iaload, 1) := by decide +kernel
theorem dX7_add_138 : decode cX7_add 138 = .ok (.iadd, 1) := by decide +kernel
theorem dX7_add_139 : decode cX7_add 139 = .ok (.if_icmp .ge 18, 3) := by decide +kernel
theorem dX7_add_142 : decode cX7_add 142 = .ok (.aload_n 0, 1) := by decide +kernel
theorem dX7_add_143 : decode cX7_add 143 = .ok (.getfield 58, 3) := by decide +kernel
theorem dX7_add_146 : decode cX7_add 146 = .ok (.iload 4, 2) := by decide +kernel
theorem dX7_add_148 : decode cX7_add 148 = .ok (.iaload, 1) := by decide +kernel
theorem dX7_add_149 : decode cX7_add 149 = .ok (.iload_n 2, 1) := by decide +kernel
theorem dX7_add_150 : decode cX7_add 150 = .ok (.iload_n 3, 1) := by decide +kernel
theorem dX7_add_151 : decode cX7_add 151 = .ok (.iadd, 1) := by decide +kernel
theorem dX7_add_152 : decode cX7_add 152 = .ok (.if_icmp .ge 5, 3) := by decide +kernel
theorem dX7_add_155 : decode cX7_add 155 = .ok (.iconst (-1), 1) := by decide +kernel
theorem dX7_add_156 : decode cX7_add 156 = .ok (.ireturn, 1) := by decide +kernel
theorem dX7_add_157 : decode cX7_add 157 = .ok (.iinc 4 1, 3) := by decide +kernel
theorem dX7_add_160 : decode cX7_add 160 = .ok (.goto (-66), 3) := by decide +kernel
theorem dX7_add_163 : decode cX7_add 163 = .ok (.aload_n 0, 1) := by decide +kernel
theorem dX7_add_164 : decode cX7_add 164 = .ok (.iload_n 1, 1) := by decide +kernel
theorem dX7_add_165 : decode cX7_add 165 = .ok (.iload_n 2, 1) := by decide +kernel
theorem dX7_add_166 : decode cX7_add 166 = .ok (.iload_n 3, 1) := by decide +kernel
theorem dX7_add_167 : decode cX7_add 167 = .ok (.iconst 0, 1) := by decide +kernel
theorem dX7_add_168 : decode cX7_add 168 = .ok (.invokevirtual 141, 3) := by decide +kernel
theorem dX7_add_171 : decode cX7_add 171 = .ok (.pop, 1) := by decide +kernel
theorem dX7_add_172 : decode cX7_add 172 = .ok (.iconst 0, 1) := by decide +kernel
theorem dX7_add_173 : decode cX7_add 173 = .ok (.ireturn, 1) := by decide +kernel
theorem dX7_listOf_0 : decode cX7_listOf 0 = .ok (.aload_n 0, 1) := by decide +kernel
theorem dX7_listOf_1 : decode cX7_listOf 1 = .ok (.getfield 40, 3) := by decide +kernel
theorem dX7_listOf_4 : decode cX7_listOf 4 = .ok (.iload_n 1, 1) := by decide +kernel
theorem dX7_listOf_5 : decode cX7_listOf 5 = .ok (.iaload, 1) := by decide +kernel
theorem dX7_listOf_6 : decode cX7_listOf 6 = .ok (.aload_n 0, 1) := by decide +kernel
theorem dX7_listOf_7 : decode cX7_listOf 7 = .ok (.getfield 7, 3) := by decide +kernel
theorem dX7_listOf_10 : decode cX7_listOf 10 = .ok (.aload_n 0, 1) := by decide +kernel
theorem dX7_listOf_11 : decode cX7_listOf 11 = .ok (.getfield 34, 3) := by decide +kernel
theorem dX7_listOf_14 : decode cX7_listOf 14 = .ok (.iload_n 1, 1) := by decide +kernel
theorem dX7_listOf_15 : decode cX7_listOf 15 = .ok (.iaload, 1) := by decide +kernel
theorem dX7_listOf_16 : decode cX7_listOf 16 = .ok (.iaload, 1) := by decide +kernel
theorem dX7_listOf_17 : decode cX7_listOf 17 = .ok (.idiv, 1) := by decide +kernel
theorem dX7_listOf_18 : decode cX7_listOf 18 = .ok (.istore_n 2, 1) := by decide +kernel
theorem dX7_listOf_19 : decode cX7_listOf 19 = .ok (.iconst 0, 1) := by decide +kernel
theorem dX7_listOf_20 : decode cX7_listOf 20 = .ok (.istore_n 3, 1) := by decide +kernel
theorem dX7_listOf_21 : decode cX7_listOf 21 = .ok (.iload_n 2, 1) := by decide +kernel
theorem dX7_listOf_22 : decode cX7_listOf 22 = .ok (.iload_n 3, 1) := by decide +kernel
theorem dX7_listOf_23 : decode cX7_listOf 23 = .ok (.iconst 1, 1) := by decide +kernel
theorem dX7_listOf_24 : decode cX7_listOf 24 = .ok (.iadd, 1) := by decide +kernel
theorem dX7_listOf_25 : decode cX7_listOf 25 = .ok (.ishr, 1) := by decide +kernel
theorem dX7_listOf_26 : decode cX7_listOf 26 = .ok (.ifCond .le 9, 3) := by decide +kernel
theorem dX7_listOf_29 : decode cX7_listOf 29 = .ok (.iinc 3 1, 3) := by decide +kernel
theorem dX7_listOf_32 : decode cX7_listOf 32 = .ok (.goto (-11), 3) := by decide +kernel
theorem dX7_listOf_35 : decode cX7_listOf 35 = .ok (.iload_n 3, 1) := by decide +kernel
theorem dX7_listOf_36 : decode cX7_listOf 36 = .ok (.ireturn, 1) := by decide +kernel
theorem dX7_best_0 : decode cX7_best 0 = .ok (.iconst (-1), 1) := by decide +kernel
theorem dX7_best_1 : decode cX7_best 1 = .ok (.istore_n 3, 1) := by decide +kernel
theorem dX7_best_2 : decode cX7_best 2 = .ok (.iconst 0, 1) := by decide +kernel
theorem dX7_best_3 : decode cX7_best 3 = .ok (.istore 4, 2) := by decide +kernel
theorem dX7_best_5 : decode cX7_best 5 = .ok (.iload 4, 2) := by decide +kernel
theorem dX7_best_7 : decode cX7_best 7 = .ok (.aload_n 0, 1) := by decide +kernel
theorem dX7_best_8 : decode cX7_best 8 = .ok (.getfield 107, 3) := by decide +kernel
theorem dX7_best_11 : decode cX7_best 11 = .ok (.if_icmp .ge 65, 3) := by decide +kernel
theorem dX7_best_14 : decode cX7_best 14 = .ok (.aload_n 0, 1) := by decide +kernel
theorem dX7_best_15 : decode cX7_best 15 = .ok (.getfield 34, 3) := by decide +kernel
theorem dX7_best_18 : decode cX7_best 18 = .ok (.iload 4, 2) := by decide +kernel
theorem dX7_best_20 : decode cX7_best 20 = .ok (.iaload, 1) := by decide +kernel
theorem dX7_best_21 : decode cX7_best 21 = .ok (.iload_n 1, 1) := by decide +kernel
theorem dX7_best_22 : decode cX7_best 22 = .ok (.if_icmp .ne 48, 3) := by decide +kernel
theorem dX7_best_25 : decode cX7_best 25 = .ok (.aload_n 0, 1) := by decide +kernel
theorem dX7_best_26 : decode cX7_best 26 = .ok (.getfield 43, 3) := by decide +kernel
theorem dX7_best_29 : decode cX7_best 29 = .ok (.iload 4, 2) := by decide +kernel
theorem dX7_best_31 : decode cX7_best 31 = .ok (.iaload, 1) := by decide +kernel
theorem dX7_best_32 : decode cX7_best 32 = .ok (.ifCond .ne 38, 3) := by decide +kernel
theorem dX7_best_35 : decode cX7_best 35 = .ok (.aload_n 0, 1) := by decide +kernel
theorem dX7_best_36 : decode cX7_best 36 = .ok (.getfield 40, 3) := by decide +kernel
theorem dX7_best_39 : decode cX7_best 39 = .ok (.iload 4, 2) := by decide +kernel
theorem dX7_best_41 : decode cX7_best 41 = .ok (.iaload, 1) := by decide +kernel
theorem dX7_best_42 : decode cX7_best 42 = .ok (.iload_n 2, 1) := by decide +kernel
theorem dX7_best_43 : decode cX7_best 43 = .ok (.if_icmp .lt 27, 3) := by decide +kernel
theorem dX7_best_46 : decode cX7_best 46 = .ok (.iload_n 3, 1) := by decide +kernel
theorem dX7_best_47 : decode cX7_best 47 = .ok (.iconst (-1), 1) := by decide +kernel
theorem dX7_best_48 : decode cX7_best 48 = .ok (.if_icmp .eq 19, 3) := by decide +kernel
theorem dX7_best_51 : decode cX7_best 51 = .ok (.aload_n 0, 1) := by decide +kernel
theorem dX7_best_52 : decode cX7_best 52 = .ok (.getfield 40, 3) := by decide +kernel
theorem dX7_best_55 : decode cX7_best 55 = .ok (.iload 4, 2) := by decide +kernel
theorem dX7_best_57 : decode cX7_best 57 = .ok (.iaload, 1) := by decide +kernel
theorem dX7_best_58 : decode cX7_best 58 = .ok (.aload_n 0, 1) := by decide +kernel
theorem dX7_best_59 : decode cX7_best 59 = .ok (.getfield 40, 3) := by decide +kernel
theorem dX7_best_62 : decode cX7_best 62 = .ok (.iload_n 3, 1) := by decide +kernel
theorem dX7_best_63 : decode cX7_best 63 = .ok (.iaload, 1) := by decide +kernel
theorem dX7_best_64 : decode cX7_best 64 = .ok (.if_icmp .ge 6, 3) := by decide +kernel
theorem dX7_best_67 : decode cX7_best 67 = .ok (.iload 4, 2) := by decide +kernel
theorem dX7_best_69 : decode cX7_best 69 = .ok (.istore_n 3, 1) := by decide +kernel
theorem dX7_best_70 : decode cX7_best 70 = .ok (.iinc 4 1, 3) := by decide +kernel
theorem dX7_best_73 : decode cX7_best 73 = .ok (.goto (-68), 3) := by decide +kernel
theorem dX7_best_76 : decode cX7_best 76 = .ok (.iload_n 3, 1) := by decide +kernel
theorem dX7_best_77 : decode cX7_best 77 = .ok (.ireturn, 1) := by decide +kernel
theorem dX7_instant_0 : decode cX7_instant 0 = .ok (.iconst 0, 1) := by decide +kernel
theorem dX7_instant_1 : decode cX7_instant 1 = .ok (.istore_n 3, 1) := by decide +kernel
theorem dX7_instant_2 : decode cX7_instant 2 = .ok (.aload_n 0, 1) := by decide +kernel
theorem dX7_instant_3 : decode cX7_instant 3 = .ok (.getfield 7, 3) := by decide +kernel
theorem dX7_instant_6 : decode cX7_instant 6 = .ok (.iload_n 1, 1) := by decide +kernel
theorem dX7_instant_7 : decode cX7_instant 7 = .ok (.iaload, 1) := by decide +kernel
theorem dX7_instant_8 : decode cX7_instant 8 = .ok (.i2l, 1) := by decide +kernel
theorem dX7_instant_9 : decode cX7_instant 9 = .ok (.iload_n 3, 1) := by decide +kernel
theorem dX7_instant_10 : decode cX7_instant 10 = .ok (.lshl, 1) := by decide +kernel
theorem dX7_instant_11 : decode cX7_instant 11 = .ok (.iload_n 2, 1) := by decide +kernel
theorem dX7_instant_12 : decode cX7_instant 12 = .ok (.i2l, 1) := by decide +kernel
theorem dX7_instant_13 : decode cX7_instant 13 = .ok (.lcmp, 1) := by decide +kernel
theorem dX7_instant_14 : decode cX7_instant 14 = .ok (.ifCond .ge 9, 3) := by decide +kernel
theorem dX7_instant_17 : decode cX7_instant 17 = .ok (.iinc 3 1, 3) := by decide +kernel
theorem dX7_instant_20 : decode cX7_instant 20 = .ok (.goto (-18), 3) := by decide +kernel
theorem dX7_instant_23 : decode cX7_instant 23 = .ok (.iconst (-1), 1) := by decide +kernel
theorem dX7_instant_24 : decode cX7_instant 24 = .ok (.istore 4, 2) := by decide +kernel
theorem dX7_instant_26 : decode cX7_instant 26 = .ok (.iconst 0, 1) := by decide +kernel
theorem dX7_instant_27 : decode cX7_instant 27 = .ok (.istore 5, 2) := by decide +kernel
theorem dX7_instant_29 : decode cX7_instant 29 = .ok (.iload 5, 2) := by decide +kernel
theorem dX7_instant_31 : decode cX7_instant 31 = .ok (.aload_n 0, 1) := by decide +kernel
theorem dX7_instant_32 : decode cX7_instant 32 = .ok (.getfield 107, 3) := by decide +kernel
theorem dX7_instant_35 : decode cX7_instant 35 = .ok (.if_icmp .ge 100, 3) := by decide +kernel
theorem dX7_instant_38 : decode cX7_instant 38 = .ok (.aload_n 0, 1) := by decide +kernel
theorem dX7_instant_39 : decode cX7_instant 39 = .ok (.getfield 34, 3) := by decide +kernel
theorem dX7_instant_42 : decode cX7_instant 42 = .ok (.iload 5, 2) := by decide +kernel
theorem dX7_instant_44 : decode cX7_instant 44 = .ok (.iaload, 1) := by decide +kernel
theorem dX7_instant_45 : decode cX7_instant 45 = .ok (.iload_n 1, 1) := by decide +kernel
theorem dX7_instant_46 : decode cX7_instant 46 = .ok (.if_icmp .ne 83, 3) := by decide +kernel
theorem dX7_instant_49 : decode cX7_instant 49 = .ok (.aload_n 0, 1) := by decide +kernel
theorem dX7_instant_50 : decode cX7_instant 50 = .ok (.getfield 43, 3) := by decide +kernel
theorem dX7_instant_53 : decode cX7_instant 53 = .ok (.iload 5, 2) := by decide +kernel
theorem dX7_instant_55 : decode cX7_instant 55 = .ok (.iaload, 1) := by decide +kernel
theorem dX7_instant_56 : decode cX7_instant 56 = .ok (.ifCond .ne 73, 3) := by decide +kernel
theorem dX7_instant_59 : decode cX7_instant 59 = .ok (.aload_n 0, 1) := by decide +kernel
theorem dX7_instant_60 : decode cX7_instant 60 = .ok (.iload 5, 2) := by decide +kernel
theorem dX7_instant_62 : decode cX7_instant 62 = .ok (.invokevirtual 145, 3) := by decide +kernel
theorem dX7_instant_65 : decode cX7_instant 65 = .ok (.iload_n 3, 1) := by decide +kernel
theorem dX7_instant_66 : decode cX7_instant 66 = .ok (.if_icmp .ge 6, 3) := by decide +kernel
theorem dX7_instant_69 : decode cX7_instant 69 = .ok (.goto 60, 3) := by decide +kernel
theorem dX7_instant_72 : decode cX7_instant 72 = .ok (.iload 4, 2) := by decide +kernel
theorem dX7_instant_74 : decode cX7_instant 74 = .ok (.iconst (-1), 1) := by decide +kernel
theorem dX7_instant_75 : decode cX7_instant 75 = .ok (.if_icmp .eq 50, 3) := by decide +kernel
theorem dX7_instant_78 : decode cX7_instant 78 = .ok (.aload_n 0, 1) := by decide +kernel
theorem dX7_instant_79 : decode cX7_instant 79 = .ok (.iload 5, 2) := by decide +kernel
theorem dX7_instant_81 : decode cX7_instant 81 = .ok (.invokevirtual 145, 3) := by decide +kernel
theorem dX7_instant_84 : decode cX7_instant 84 = .ok (.aload_n 0, 1) := by decide +kernel
theorem dX7_instant_85 : decode cX7_instant 85 = .ok (.iload 4, 2) := by decide +kernel
theorem dX7_instant_87 : decode cX7_instant 87 = .ok (.invokevirtual 145, 3) := by decide +kernel
theorem dX7_instant_90 : decode cX7_instant 90 = .ok (.if_icmp .lt 35, 3) := by decide +kernel
theorem dX7_instant_93 : decode cX7_instant 93 = .ok (.aload_n 0, 1) := by decide +kernel
theorem dX7_instant_94 : decode cX7_instant 94 = .ok (.iload 5, 2) := by decide +kernel
theorem dX7_instant_96 : decode cX7_instant 96 = .ok (.invokevirtual 145, 3) := by decide +kernel
theorem dX7_instant_99 : decode cX7_instant 99 = .ok (.aload_n 0, 1) := by decide +kernel
theorem dX7_instant_100 : decode cX7_instant 100 = .ok (.iload 4, 2) := by decide +kernel
theorem dX7_instant_102 : decode cX7_instant 102 = .ok (.invokevirtual 145, 3) := by decide +kernel
theorem dX7_instant_105 : decode cX7_instant 105 = .ok (.if_icmp .ne 24, 3) := by decide +kernel
theorem dX7_instant_108 : decode cX7_instant 108 = .ok (.aload_n 0, 1) := by decide +kernel
theorem dX7_instant_109 : decode cX7_instant 109 = .ok (.getfield 46, 3) := by decide +kernel
theorem dX7_instant_112 : decode cX7_instant 112 = .ok (.iload 5, 2) := by decide +kernel
theorem dX7_instant_114 : decode cX7_instant 114 = .ok (.iaload, 1) := by decide +kernel
theorem dX7_instant_115 : decode cX7_instant 115 = .ok (.aload_n 0, 1) := by decide +kernel
theorem dX7_instant_116 : decode cX7_instant 116 = .ok (.getfield 46, 3) := by decide +kernel
theorem dX7_instant_119 : decode cX7_instant 119 = .ok (.iload 4, 2) := by decide +kernel
theorem dX7_instant_121 : decode cX7_instant 121 = .ok (.iaload, 1) := by decide +kernel
theorem dX7_instant_122 : decode cX7_instant 122 = .ok (.if_icmp .le 7, 3) := by decide +kernel
theorem dX7_instant_125 : decode cX7_instant 125 = .ok (.iload 5, 2) := by decide +kernel
theorem dX7_instant_127 : decode cX7_instant 127 = .ok (.istore 4, 2) := by decide +kernel
theorem dX7_instant_129 : decode cX7_instant 129 = .ok (.iinc 5 1, 3) := by decide +kernel
theorem dX7_instant_132 : decode cX7_instant 132 = .ok (.goto (-103), 3) := by decide +kernel
theorem dX7_instant_135 : decode cX7_instant 135 = .ok (.iload 4, 2) := by decide +kernel
theorem dX7_instant_137 : decode cX7_instant 137 = .ok (.ireturn, 1) := by decide +kernel
theorem dX7_next_0 : decode cX7_next 0 = .ok (.iconst (-1), 1) := by decide +kernel
theorem dX7_next_1 : decode cX7_next 1 = .ok (.istore_n 3, 1) := by decide +kernel
theorem dX7_next_2 : decode cX7_next 2 = .ok (.iconst 0, 1) := by decide +kernel
theorem dX7_next_3 : decode cX7_next 3 = .ok (.istore 4, 2) := by decide +kernel
theorem dX7_next_5 : decode cX7_next 5 = .ok (.iload 4, 2) := by decide +kernel
theorem dX7_next_7 : decode cX7_next 7 = .ok (.aload_n 0, 1) := by decide +kernel
theorem dX7_next_8 : decode cX7_next 8 = .ok (.getfield 107, 3) := by decide +kernel
theorem dX7_next_11 : decode cX7_next 11 = .ok (.if_icmp .ge 75, 3) := by decide +kernel
theorem dX7_next_14 : decode cX7_next 14 = .ok (.aload_n 0, 1) := by decide +kernel
theorem dX7_next_15 : decode cX7_next 15 = .ok (.getfield 34, 3) := by decide +kernel
theorem dX7_next_18 : decode cX7_next 18 = .ok (.iload 4, 2) := by decide +kernel
theorem dX7_next_20 : decode cX7_next 20 = .ok (.iaload, 1) := by decide +kernel
theorem dX7_next_21 : decode cX7_next 21 = .ok (.iload_n 1, 1) := by decide +kernel
theorem dX7_next_22 : decode cX7_next 22 = .ok (.if_icmp .ne 58, 3) := by decide +kernel
theorem dX7_next_25 : decode cX7_next 25 = .ok (.aload_n 0, 1) := by decide +kernel
theorem dX7_next_26 : decode cX7_next 26 = .ok (.getfield 43, 3) := by decide +kernel
theorem dX7_next_29 : decode cX7_next 29 = .ok (.iload 4, 2) := by decide +kernel
theorem dX7_next_31 : decode cX7_next 31 = .ok (.iaload, 1) := by decide +kernel
theorem dX7_next_32 : decode cX7_next 32 = .ok (.ifCond .ne 48, 3) := by decide +kernel
theorem dX7_next_35 : decode cX7_next 35 = .ok (.aload_n 0, 1) := by decide +kernel
theorem dX7_next_36 : decode cX7_next 36 = .ok (.getfield 40, 3) := by decide +kernel
theorem dX7_next_39 : decode cX7_next 39 = .ok (.iload 4, 2) := by decide +kernel
theorem dX7_next_41 : decode cX7_next 41 = .ok (.iaload, 1) := by decide +kernel
theorem dX7_next_42 : decode cX7_next 42 = .ok (.iload_n 2, 1) := by decide +kernel
theorem dX7_next_43 : decode cX7_next 43 = .ok (.if_icmp .ge 6, 3) := by decide +kernel
theorem dX7_next_46 : decode cX7_next 46 = .ok (.goto 34, 3) := by decide +kernel
theorem dX7_next_49 : decode cX7_next 49 = .ok (.aload_n 0, 1) := by decide +kernel
theorem dX7_next_50 : decode cX7_next 50 = .ok (.getfield 37, 3) := by decide +kernel
theorem dX7_next_53 : decode cX7_next 53 = .ok (.iload 4, 2) := by decide +kernel
theorem dX7_next_55 : decode cX7_next 55 = .ok (.iaload, 1) := by decide +kernel
theorem dX7_next_56 : decode cX7_next 56 = .ok (.aload_n 0, 1) := by decide +kernel
theorem dX7_next_57 : decode cX7_next 57 = .ok (.getfield 19, 3) := by decide +kernel
theorem dX7_next_60 : decode cX7_next 60 = .ok (.iload_n 1, 1) := by decide +kernel
theorem dX7_next_61 : decode cX7_next 61 = .ok (.iaload, 1) := by decide +kernel
theorem dX7_next_62 : decode cX7_next 62 = .ok (.if_icmp .lt 6, 3) := by decide +kernel
theorem dX7_next_65 : decode cX7_next 65 = .ok (.iload 4, 2) := by decide +kernel
theorem dX7_next_67 : decode cX7_next 67 = .ok (.ireturn, 1) := by decide +kernel
theorem dX7_next_68 : decode cX7_next 68 = .ok (.iload_n 3, 1) := by decide +kernel
theorem dX7_next_69 : decode cX7_next 69 = .ok (.iconst (-1), 1) := by decide +kernel
theorem dX7_next_70 : decode cX7_next 70 = .ok (.if_icmp .ne 8, 3) := by decide +kernel
theorem dX7_next_73 : decode cX7_next 73 = .ok (.iload 4, 2) := by decide +kernel
theorem dX7_next_75 : decode cX7_next 75 = .ok (.goto 4, 3) := by decide +kernel
theorem dX7_next_78 : decode cX7_next 78 = .ok (.iload_n 3, 1) := by decide +kernel
theorem dX7_next_79 : decode cX7_next 79 = .ok (.istore_n 3, 1) := by decide +kernel
theorem dX7_next_80 : decode cX7_next 80 = .ok (.iinc 4 1, 3) := by decide +kernel
theorem dX7_next_83 : decode cX7_next 83 = .ok (.goto (-78), 3) := by decide +kernel
theorem dX7_next_86 : decode cX7_next 86 = .ok (.iload_n 3, 1) := by decide +kernel
theorem dX7_next_87 : decode cX7_next 87 = .ok (.ireturn, 1) := by decide +kernel
theorem dX7_found_0 : decode cX7_found 0 = .ok (.iload_n 3, 1) := by decide +kernel
theorem dX7_found_1 : decode cX7_found 1 = .ok (.ifCond .ne 12, 3) := by decide +kernel
theorem dX7_found_4 : decode cX7_found 4 = .ok (.aload_n 0, 1) := by decide +kernel
theorem dX7_found_5 : decode cX7_found 5 = .ok (.iload_n 1, 1) := by decide +kernel
theorem dX7_found_6 : decode cX7_found 6 = .ok (.iload_n 2, 1) := by decide +kernel
theorem dX7_found_7 : decode cX7_found 7 = .ok (.invokevirtual 149, 3) := by decide +kernel
theorem dX7_found_10 : decode cX7_found 10 = .ok (.goto 23, 3) := by decide +kernel
theorem dX7_found_13 : decode cX7_found 13 = .ok (.iload_n 3, 1) := by decide +kernel
theorem dX7_found_14 : decode cX7_found 14 = .ok (.iconst 1, 1) := by decide +kernel
theorem dX7_found_15 : decode cX7_found 15 = .ok (.if_icmp .ne 12, 3) := by decide +kernel
theorem dX7_found_18 : decode cX7_found 18 = .ok (.aload_n 0, 1) := by decide +kernel
theorem dX7_found_19 : decode cX7_found 19 = .ok (.iload_n 1, 1) := by decide +kernel
theorem dX7_found_20 : decode cX7_found 20 = .ok (.iload_n 2, 1) := by decide +kernel
theorem dX7_found_21 : decode cX7_found 21 = .ok (.invokevirtual 153, 3) := by decide +kernel
theorem dX7_found_24 : decode cX7_found 24 = .ok (.goto 9, 3) := by decide +kernel
theorem dX7_found_27 : decode cX7_found 27 = .ok (.aload_n 0, 1) := by decide +kernel
theorem dX7_found_28 : decode cX7_found 28 = .ok (.iload_n 1, 1) := by decide +kernel
theorem dX7_found_29 : decode cX7_found 29 = .ok (.iload_n 2, 1) := by decide +kernel
theorem dX7_found_30 : decode cX7_found 30 = .ok (.invokevirtual 156, 3) := by decide +kernel
theorem dX7_found_33 : decode cX7_found 33 = .ok (.ireturn, 1) := by decide +kernel
theorem dX7_cut_0 : decode cX7_cut 0 = .ok (.aload_n 0, 1) := by decide +kernel
theorem dX7_cut_1 : decode cX7_cut 1 = .ok (.getfield 40, 3) := by decide +kernel
theorem dX7_cut_4 : decode cX7_cut 4 = .ok (.iload_n 1, 1) := by decide +kernel
theorem dX7_cut_5 : decode cX7_cut 5 = .ok (.iaload, 1) := by decide +kernel
theorem dX7_cut_6 : decode cX7_cut 6 = .ok (.iload_n 2, 1) := by decide +kernel
theorem dX7_cut_7 : decode cX7_cut 7 = .ok (.isub, 1) := by decide +kernel
theorem dX7_cut_8 : decode cX7_cut 8 = .ok (.istore 4, 2) := by decide +kernel
theorem dX7_cut_10 : decode cX7_cut 10 = .ok (.aload_n 0, 1) := by decide +kernel
theorem dX7_cut_11 : decode cX7_cut 11 = .ok (.getfield 40, 3) := by decide +kernel
theorem dX7_cut_14 : decode cX7_cut 14 = .ok (.iload_n 1, 1) := by decide +kernel
theorem dX7_cut_15 : decode cX7_cut 15 = .ok (.iload_n 2, 1) := by decide +kernel
theorem dX7_cut_16 : decode cX7_cut 16 = .ok (.iastore, 1) := by decide +kernel
theorem dX7_cut_17 : decode cX7_cut 17 = .ok (.aload_n 0, 1) := by decide +kernel
theorem dX7_cut_18 : decode cX7_cut 18 = .ok (.getfield 43, 3) := by decide +kernel
theorem dX7_cut_21 : decode cX7_cut 21 = .ok (.iload_n 1, 1) := by decide +kernel
theorem dX7_cut_22 : decode cX7_cut 22 = .ok (.iload_n 3, 1) := by decide +kernel
theorem dX7_cut_23 : decode cX7_cut 23 = .ok (.iastore, 1) := by decide +kernel
theorem dX7_cut_24 : decode cX7_cut 24 = .ok (.iload 4, 2) := by decide +kernel
theorem dX7_cut_26 : decode cX7_cut 26 = .ok (.ifCond .le 30, 3) := by decide +kernel
theorem dX7_cut_29 : decode cX7_cut 29 = .ok (.aload_n 0, 1) := by decide +kernel
theorem dX7_cut_30 : decode cX7_cut 30 = .ok (.aload_n 0, 1) := by decide +kernel
theorem dX7_cut_31 : decode cX7_cut 31 = .ok (.getfield 34, 3) := by decide +kernel
theorem dX7_cut_34 : decode cX7_cut 34 = .ok (.iload_n 1, 1) := by decide +kernel
theorem dX7_cut_35 : decode cX7_cut 35 = .ok (.iaload, 1) := by decide +kernel
theorem dX7_cut_36 : decode cX7_cut 36 = .ok (.aload_n 0, 1) := by decide +kernel
theorem dX7_cut_37 : decode cX7_cut 37 = .ok (.getfield 37, 3) := by decide +kernel
theorem dX7_cut_40 : decode cX7_cut 40 = .ok (.iload_n 1, 1) := by decide +kernel
theorem dX7_cut_41 : decode cX7_cut 41 = .ok (.iaload, 1) := by decide +kernel
theorem dX7_cut_42 : decode cX7_cut 42 = .ok (.iload_n 2, 1) := by decide +kernel
theorem dX7_cut_43 : decode cX7_cut 43 = .ok (.iadd, 1) := by decide +kernel
theorem dX7_cut_44 : decode cX7_cut 44 = .ok (.iload 4, 2) := by decide +kernel
theorem dX7_cut_46 : decode cX7_cut 46 = .ok (.aload_n 0, 1) := by decide +kernel
theorem dX7_cut_47 : decode cX7_cut 47 = .ok (.getfield 49, 3) := by decide +kernel
theorem dX7_cut_50 : decode cX7_cut 50 = .ok (.iload_n 1, 1) := by decide +kernel
theorem dX7_cut_51 : decode cX7_cut 51 = .ok (.iaload, 1) := by decide +kernel
theorem dX7_cut_52 : decode cX7_cut 52 = .ok (.invokevirtual 128, 3) := by decide +kernel
theorem dX7_cut_55 : decode cX7_cut 55 = .ok (.pop, 1) := by decide +kernel
theorem dX7_cut_56 : decode cX7_cut 56 = .ok (.return_, 1) := by decide +kernel
theorem dX7_takes_0 : decode cX7_takes 0 = .ok (.lload_n 2, 1) := by decide +kernel
theorem dX7_takes_1 : decode cX7_takes 1 = .ok (.ldc2_w 139, 3) := by decide +kernel
theorem dX7_takes_4 : decode cX7_takes 4 = .ok (.lcmp, 1) := by decide +kernel
theorem dX7_takes_5 : decode cX7_takes 5 = .ok (.ifCond .le 15, 3) := by decide +kernel
theorem dX7_takes_8 : decode cX7_takes 8 = .ok (.aload_n 0, 1) := by decide +kernel
theorem dX7_takes_9 : decode cX7_takes 9 = .ok (.getfield 28, 3) := by decide +kernel
theorem dX7_takes_12 : decode cX7_takes 12 = .ok (.iload_n 1, 1) := by decide +kernel
theorem dX7_takes_13 : decode cX7_takes 13 = .ok (.dup2, 1) := by decide +kernel
theorem dX7_takes_14 : decode cX7_takes 14 = .ok (.iaload, 1) := by decide +kernel
theorem dX7_takes_15 : decode cX7_takes 15 = .ok (.iconst 1, 1) := by decide +kernel
theorem dX7_takes_16 : decode cX7_takes 16 = .ok (.iadd, 1) := by decide +kernel
theorem dX7_takes_17 : decode cX7_takes 17 = .ok (.iastore, 1) := by decide +kernel
theorem dX7_takes_18 : decode cX7_takes 18 = .ok (.iconst (-1), 1) := by decide +kernel
theorem dX7_takes_19 : decode cX7_takes 19 = .ok (.ireturn, 1) := by decide +kernel
theorem dX7_takes_20 : decode cX7_takes 20 = .ok (.lload_n 2, 1) := by decide +kernel
theorem dX7_takes_21 : decode cX7_takes 21 = .ok (.l2i, 1) := by decide +kernel
theorem dX7_takes_22 : decode cX7_takes 22 = .ok (.istore 6, 2) := by decide +kernel
theorem dX7_takes_24 : decode cX7_takes 24 = .ok (.aload_n 0, 1) := by decide +kernel
theorem dX7_takes_25 : decode cX7_takes 25 = .ok (.iload_n 1, 1) := by decide +kernel
theorem dX7_takes_26 : decode cX7_takes 26 = .ok (.iload 6, 2) := by decide +kernel
theorem dX7_takes_28 : decode cX7_takes 28 = .ok (.iload 4, 2) := by decide +kernel
theorem dX7_takes_30 : decode cX7_takes 30 = .ok (.invokevirtual 159, 3) := by decide +kernel
theorem dX7_takes_33 : decode cX7_takes 33 = .ok (.istore 7, 2) := by decide +kernel
theorem dX7_takes_35 : decode cX7_takes 35 = .ok (.iload 7, 2) := by decide +kernel
theorem dX7_takes_37 : decode cX7_takes 37 = .ok (.iconst (-1), 1) := by decide +kernel
theorem dX7_takes_38 : decode cX7_takes 38 = .ok (.if_icmp .ne 12, 3) := by decide +kernel
theorem dX7_takes_41 : decode cX7_takes 41 = .ok (.aload_n 0, 1) := by decide +kernel
theorem dX7_takes_42 : decode cX7_takes 42 = .ok (.iload_n 1, 1) := by decide +kernel
theorem dX7_takes_43 : decode cX7_takes 43 = .ok (.iload 6, 2) := by decide +kernel
theorem dX7_takes_45 : decode cX7_takes 45 = .ok (.invokevirtual 163, 3) := by decide +kernel
theorem dX7_takes_48 : decode cX7_takes 48 = .ok (.istore 7, 2) := by decide +kernel
theorem dX7_takes_50 : decode cX7_takes 50 = .ok (.iload 7, 2) := by decide +kernel
theorem dX7_takes_52 : decode cX7_takes 52 = .ok (.iconst (-1), 1) := by decide +kernel
theorem dX7_takes_53 : decode cX7_takes 53 = .ok (.if_icmp .ne 22, 3) := by decide +kernel
theorem dX7_takes_56 : decode cX7_takes 56 = .ok (.aload_n 0, 1) := by decide +kernel
theorem dX7_takes_57 : decode cX7_takes 57 = .ok (.iload_n 1, 1) := by decide +kernel
theorem dX7_takes_58 : decode cX7_takes 58 = .ok (.invokevirtual 166, 3) := by decide +kernel
theorem dX7_takes_61 : decode cX7_takes 61 = .ok (.ifCond .le 14, 3) := by decide +kernel
theorem dX7_takes_64 : decode cX7_takes 64 = .ok (.aload_n 0, 1) := by decide +kernel
theorem dX7_takes_65 : decode cX7_takes 65 = .ok (.iload_n 1, 1) := by decide +kernel
theorem dX7_takes_66 : decode cX7_takes 66 = .ok (.iload 6, 2) := by decide +kernel
theorem dX7_takes_68 : decode cX7_takes 68 = .ok (.iload 4, 2) := by decide +kernel
theorem dX7_takes_70 : decode cX7_takes 70 = .ok (.invokevirtual 159, 3) := by decide +kernel
theorem dX7_takes_73 : decode cX7_takes 73 = .ok (.istore 7, 2) := by decide +kernel
theorem dX7_takes_75 : decode cX7_takes 75 = .ok (.iload 7, 2) := by decide +kernel
theorem dX7_takes_77 : decode cX7_takes 77 = .ok (.iconst (-1), 1) := by decide +kernel
theorem dX7_takes_78 : decode cX7_takes 78 = .ok (.if_icmp .ne 15, 3) := by decide +kernel
theorem dX7_takes_81 : decode cX7_takes 81 = .ok (.aload_n 0, 1) := by decide +kernel
theorem dX7_takes_82 : decode cX7_takes 82 = .ok (.getfield 28, 3) := by decide +kernel
theorem dX7_takes_85 : decode cX7_takes 85 = .ok (.iload_n 1, 1) := by decide +kernel
theorem dX7_takes_86 : decode cX7_takes 86 = .ok (.dup2, 1) := by decide +kernel
theorem dX7_takes_87 : decode cX7_takes 87 = .ok (.iaload, 1) := by decide +kernel
theorem dX7_takes_88 : decode cX7_takes 88 = .ok (.iconst 1, 1) := by decide +kernel
theorem dX7_takes_89 : decode cX7_takes 89 = .ok (.iadd, 1) := by decide +kernel
theorem dX7_takes_90 : decode cX7_takes 90 = .ok (.iastore, 1) := by decide +kernel
theorem dX7_takes_91 : decode cX7_takes 91 = .ok (.iconst (-1), 1) := by decide +kernel
theorem dX7_takes_92 : decode cX7_takes 92 = .ok (.ireturn, 1) := by decide +kernel
theorem dX7_takes_93 : decode cX7_takes 93 = .ok (.aload_n 0, 1) := by decide +kernel
theorem dX7_takes_94 : decode cX7_takes 94 = .ok (.getfield 37, 3) := by decide +kernel
theorem dX7_takes_97 : decode cX7_takes 97 = .ok (.iload 7, 2) := by decide +kernel
theorem dX7_takes_99 : decode cX7_takes 99 = .ok (.iaload, 1) := by decide +kernel
theorem dX7_takes_100 : decode cX7_takes 100 = .ok (.istore 8, 2) := by decide +kernel
theorem dX7_takes_102 : decode cX7_takes 102 = .ok (.aload_n 0, 1) := by decide +kernel
theorem dX7_takes_103 : decode cX7_takes 103 = .ok (.iload 7, 2) := by decide +kernel
theorem dX7_takes_105 : decode cX7_takes 105 = .ok (.iload 6, 2) := by decide +kernel
theorem dX7_takes_107 : decode cX7_takes 107 = .ok (.iload 5, 2) := by decide +kernel
theorem dX7_takes_109 : decode cX7_takes 109 = .ok (.invokevirtual 169, 3) := by decide +kernel
theorem dX7_takes_112 : decode cX7_takes 112 = .ok (.iload 4, 2) := by decide +kernel
theorem dX7_takes_114 : decode cX7_takes 114 = .ok (.iconst 2, 1) := by decide +kernel
theorem dX7_takes_115 : decode cX7_takes 115 = .ok (.if_icmp .ne 14, 3) := by decide +kernel
theorem dX7_takes_118 : decode cX7_takes 118 = .ok (.aload_n 0, 1) := by decide +kernel
theorem dX7_takes_119 : decode cX7_takes 119 = .ok (.getfield 19, 3) := by decide +kernel
theorem dX7_takes_122 : decode cX7_takes 122 = .ok (.iload_n 1, 1) := by decide +kernel
theorem dX7_takes_123 : decode cX7_takes 123 = .ok (.iload 8, 2) := by decide +kernel
theorem dX7_takes_125 : decode cX7_takes 125 = .ok (.iload 6, 2) := by decide +kernel
theorem dX7_takes_127 : decode cX7_takes 127 = .ok (.iadd, 1) := by decide +kernel
theorem dX7_takes_128 : decode cX7_takes 128 = .ok (.iastore, 1) := by decide +kernel
theorem dX7_takes_129 : decode cX7_takes 129 = .ok (.iload 8, 2) := by decide +kernel
theorem dX7_takes_131 : decode cX7_takes 131 = .ok (.ireturn, 1) := by decide +kernel
theorem dX7_imported_0 : decode cX7_imported 0 = .ok (.aload_n 0, 1) := by decide +kernel
theorem dX7_imported_1 : decode cX7_imported 1 = .ok (.getfield 13, 3) := by decide +kernel
theorem dX7_imported_4 : decode cX7_imported 4 = .ok (.iload_n 1, 1) := by decide +kernel
theorem dX7_imported_5 : decode cX7_imported 5 = .ok (.iaload, 1) := by decide +kernel
theorem dX7_imported_6 : decode cX7_imported 6 = .ok (.iconst (-1), 1) := by decide +kernel
theorem dX7_imported_7 : decode cX7_imported 7 = .ok (.if_icmp .ne 5, 3) := by decide +kernel
theorem dX7_imported_10 : decode cX7_imported 10 = .ok (.iconst (-1), 1) := by decide +kernel
theorem dX7_imported_11 : decode cX7_imported 11 = .ok (.ireturn, 1) := by decide +kernel
theorem dX7_imported_12 : decode cX7_imported 12 = .ok (.aload_n 0, 1) := by decide +kernel
theorem dX7_imported_13 : decode cX7_imported 13 = .ok (.getfield 7, 3) := by decide +kernel
theorem dX7_imported_16 : decode cX7_imported 16 = .ok (.aload_n 0, 1) := by decide +kernel
theorem dX7_imported_17 : decode cX7_imported 17 = .ok (.getfield 13, 3) := by decide +kernel
theorem dX7_imported_20 : decode cX7_imported 20 = .ok (.iload_n 1, 1) := by decide +kernel
theorem dX7_imported_21 : decode cX7_imported 21 = .ok (.iaload, 1) := by decide +kernel
theorem dX7_imported_22 : decode cX7_imported 22 = .ok (.iaload, 1) := by decide +kernel
theorem dX7_imported_23 : decode cX7_imported 23 = .ok (.i2l, 1) := by decide +kernel
theorem dX7_imported_24 : decode cX7_imported 24 = .ok (.lstore_n 3, 1) := by decide +kernel
theorem dX7_imported_25 : decode cX7_imported 25 = .ok (.iload_n 2, 1) := by decide +kernel
theorem dX7_imported_26 : decode cX7_imported 26 = .ok (.i2l, 1) := by decide +kernel
theorem dX7_imported_27 : decode cX7_imported 27 = .ok (.lload_n 3, 1) := by decide +kernel
theorem dX7_imported_28 : decode cX7_imported 28 = .ok (.ladd, 1) := by decide +kernel
theorem dX7_imported_29 : decode cX7_imported 29 = .ok (.lconst 1, 1) := by decide +kernel
theorem dX7_imported_30 : decode cX7_imported 30 = .ok (.lsub, 1) := by decide +kernel
theorem dX7_imported_31 : decode cX7_imported 31 = .ok (.lload_n 3, 1) := by decide +kernel
theorem dX7_imported_32 : decode cX7_imported 32 = .ok (.ldiv, 1) := by decide +kernel
theorem dX7_imported_33 : decode cX7_imported 33 = .ok (.lload_n 3, 1) := by decide +kernel
theorem dX7_imported_34 : decode cX7_imported 34 = .ok (.lmul, 1) := by decide +kernel
theorem dX7_imported_35 : decode cX7_imported 35 = .ok (.lstore 5, 2) := by decide +kernel
theorem dX7_imported_37 : decode cX7_imported 37 = .ok (.aload_n 0, 1) := by decide +kernel
theorem dX7_imported_38 : decode cX7_imported 38 = .ok (.aload_n 0, 1) := by decide +kernel
theorem dX7_imported_39 : decode cX7_imported 39 = .ok (.getfield 13, 3) := by decide +kernel
theorem dX7_imported_42 : decode cX7_imported 42 = .ok (.iload_n 1, 1) := by decide +kernel
theorem dX7_imported_43 : decode cX7_imported 43 = .ok (.iaload, 1) := by decide +kernel
theorem dX7_imported_44 : decode cX7_imported 44 = .ok (.lload 5, 2) := by decide +kernel
theorem dX7_imported_46 : decode cX7_imported 46 = .ok (.iconst 1, 1) := by decide +kernel
theorem dX7_imported_47 : decode cX7_imported 47 = .ok (.iconst 3, 1) := by decide +kernel
theorem dX7_imported_48 : decode cX7_imported 48 = .ok (.invokevirtual 173, 3) := by decide +kernel
theorem dX7_imported_51 : decode cX7_imported 51 = .ok (.istore 7, 2) := by decide +kernel
theorem dX7_imported_53 : decode cX7_imported 53 = .ok (.iload 7, 2) := by decide +kernel
theorem dX7_imported_55 : decode cX7_imported 55 = .ok (.iconst (-1), 1) := by decide +kernel
theorem dX7_imported_56 : decode cX7_imported 56 = .ok (.if_icmp .ne 5, 3) := by decide +kernel
theorem dX7_imported_59 : decode cX7_imported 59 = .ok (.iconst (-1), 1) := by decide +kernel
theorem dX7_imported_60 : decode cX7_imported 60 = .ok (.ireturn, 1) := by decide +kernel
theorem dX7_imported_61 : decode cX7_imported 61 = .ok (.aload_n 0, 1) := by decide +kernel
theorem dX7_imported_62 : decode cX7_imported 62 = .ok (.iload_n 1, 1) := by decide +kernel
theorem dX7_imported_63 : decode cX7_imported 63 = .ok (.iload 7, 2) := by decide +kernel
theorem dX7_imported_65 : decode cX7_imported 65 = .ok (.lload 5, 2) := by decide +kernel
theorem dX7_imported_67 : decode cX7_imported 67 = .ok (.l2i, 1) := by decide +kernel
theorem dX7_imported_68 : decode cX7_imported 68 = .ok (.iconst 1, 1) := by decide +kernel
theorem dX7_imported_69 : decode cX7_imported 69 = .ok (.invokevirtual 141, 3) := by decide +kernel
theorem dX7_imported_72 : decode cX7_imported 72 = .ok (.pop, 1) := by decide +kernel
theorem dX7_imported_73 : decode cX7_imported 73 = .ok (.aload_n 0, 1) := by decide +kernel
theorem dX7_imported_74 : decode cX7_imported 74 = .ok (.iload_n 1, 1) := by decide +kernel
theorem dX7_imported_75 : decode cX7_imported 75 = .ok (.iload 7, 2) := by decide +kernel
theorem dX7_imported_77 : decode cX7_imported 77 = .ok (.i2l, 1) := by decide +kernel
theorem dX7_imported_78 : decode cX7_imported 78 = .ok (.invokevirtual 113, 3) := by decide +kernel
theorem dX7_imported_81 : decode cX7_imported 81 = .ok (.ireturn, 1) := by decide +kernel
theorem dX7_gives_0 : decode cX7_gives 0 = .ok (.aload_n 0, 1) := by decide +kernel
theorem dX7_gives_1 : decode cX7_gives 1 = .ok (.iload_n 1, 1) := by decide +kernel
theorem dX7_gives_2 : decode cX7_gives 2 = .ok (.iload_n 2, 1) := by decide +kernel
theorem dX7_gives_3 : decode cX7_gives 3 = .ok (.i2l, 1) := by decide +kernel
theorem dX7_gives_4 : decode cX7_gives 4 = .ok (.invokevirtual 113, 3) := by decide +kernel
theorem dX7_gives_7 : decode cX7_gives 7 = .ok (.istore_n 3, 1) := by decide +kernel
theorem dX7_gives_8 : decode cX7_gives 8 = .ok (.iload_n 3, 1) := by decide +kernel
theorem dX7_gives_9 : decode cX7_gives 9 = .ok (.iconst 1, 1) := by decide +kernel
theorem dX7_gives_10 : decode cX7_gives 10 = .ok (.iadd, 1) := by decide +kernel
theorem dX7_gives_11 : decode cX7_gives 11 = .ok (.aload_n 0, 1) := by decide +kernel
theorem dX7_gives_12 : decode cX7_gives 12 = .ok (.getfield 107, 3) := by decide +kernel
theorem dX7_gives_15 : decode cX7_gives 15 = .ok (.if_icmp .ge 67, 3) := by decide +kernel
theorem dX7_gives_18 : decode cX7_gives 18 = .ok (.aload_n 0, 1) := by decide +kernel
theorem dX7_gives_19 : decode cX7_gives 19 = .ok (.getfield 34, 3) := by decide +kernel
theorem dX7_gives_22 : decode cX7_gives 22 = .ok (.iload_n 3, 1) := by decide +kernel
theorem dX7_gives_23 : decode cX7_gives 23 = .ok (.iconst 1, 1) := by decide +kernel
theorem dX7_gives_24 : decode cX7_gives 24 = .ok (.iadd, 1) := by decide +kernel
theorem dX7_gives_25 : decode cX7_gives 25 = .ok (.iaload, 1) := by decide +kernel
theorem dX7_gives_26 : decode cX7_gives 26 = .ok (.iload_n 1, 1) := by decide +kernel
theorem dX7_gives_27 : decode cX7_gives 27 = .ok (.if_icmp .ne 55, 3) := by decide +kernel
theorem dX7_gives_30 : decode cX7_gives 30 = .ok (.aload_n 0, 1) := by decide +kernel
theorem dX7_gives_31 : decode cX7_gives 31 = .ok (.getfield 49, 3) := by decide +kernel
theorem dX7_gives_34 : decode cX7_gives 34 = .ok (.iload_n 3, 1) := by decide +kernel
theorem dX7_gives_35 : decode cX7_gives 35 = .ok (.iconst 1, 1) := by decide +kernel
theorem dX7_gives_36 : decode cX7_gives 36 = .ok (.iadd, 1) := by decide +kernel
theorem dX7_gives_37 : decode cX7_gives 37 = .ok (.iaload, 1) := by decide +kernel
theorem dX7_gives_38 : decode cX7_gives 38 = .ok (.aload_n 0, 1) := by decide +kernel
theorem dX7_gives_39 : decode cX7_gives 39 = .ok (.getfield 49, 3) := by decide +kernel
theorem dX7_gives_42 : decode cX7_gives 42 = .ok (.iload_n 3, 1) := by decide +kernel
theorem dX7_gives_43 : decode cX7_gives 43 = .ok (.iaload, 1) := by decide +kernel
theorem dX7_gives_44 : decode cX7_gives 44 = .ok (.if_icmp .ne 38, 3) := by decide +kernel
theorem dX7_gives_47 : decode cX7_gives 47 = .ok (.aload_n 0, 1) := by decide +kernel
theorem dX7_gives_48 : decode cX7_gives 48 = .ok (.getfield 43, 3) := by decide +kernel
theorem dX7_gives_51 : decode cX7_gives 51 = .ok (.iload_n 3, 1) := by decide +kernel
theorem dX7_gives_52 : decode cX7_gives 52 = .ok (.iconst 1, 1) := by decide +kernel
theorem dX7_gives_53 : decode cX7_gives 53 = .ok (.iadd, 1) := by decide +kernel
theorem dX7_gives_54 : decode cX7_gives 54 = .ok (.iaload, 1) := by decide +kernel
theorem dX7_gives_55 : decode cX7_gives 55 = .ok (.ifCond .ne 27, 3) := by decide +kernel
theorem dX7_gives_58 : decode cX7_gives 58 = .ok (.aload_n 0, 1) := by decide +kernel
theorem dX7_gives_59 : decode cX7_gives 59 = .ok (.getfield 40, 3) := by decide +kernel
theorem dX7_gives_62 : decode cX7_gives 62 = .ok (.iload_n 3, 1) := by decide +kernel
theorem dX7_gives_63 : decode cX7_gives 63 = .ok (.dup2, 1) := by decide +kernel
theorem dX7_gives_64 : decode cX7_gives 64 = .ok (.iaload, 1) := by decide +kernel
theorem dX7_gives_65 : decode cX7_gives 65 = .ok (.aload_n 0, 1) := by decide +kernel
theorem dX7_gives_66 : decode cX7_gives 66 = .ok (.getfield 40, 3) := by decide +kernel
theorem dX7_gives_69 : decode cX7_gives 69 = .ok (.iload_n 3, 1) := by decide +kernel
theorem dX7_gives_70 : decode cX7_gives 70 = .ok (.iconst 1, 1) := by decide +kernel
theorem dX7_gives_71 : decode cX7_gives 71 = .ok (.iadd, 1) := by decide +kernel
theorem dX7_gives_72 : decode cX7_gives 72 = .ok (.iaload, 1) := by decide +kernel
theorem dX7_gives_73 : decode cX7_gives 73 = .ok (.iadd, 1) := by decide +kernel
theorem dX7_gives_74 : decode cX7_gives 74 = .ok (.iastore, 1) := by decide +kernel
theorem dX7_gives_75 : decode cX7_gives 75 = .ok (.aload_n 0, 1) := by decide +kernel
theorem dX7_gives_76 : decode cX7_gives 76 = .ok (.iload_n 3, 1) := by decide +kernel
theorem dX7_gives_77 : decode cX7_gives 77 = .ok (.iconst 1, 1) := by decide +kernel
theorem dX7_gives_78 : decode cX7_gives 78 = .ok (.iadd, 1) := by decide +kernel
theorem dX7_gives_79 : decode cX7_gives 79 = .ok (.invokevirtual 177, 3) := by decide +kernel
theorem dX7_gives_82 : decode cX7_gives 82 = .ok (.iload_n 3, 1) := by decide +kernel
theorem dX7_gives_83 : decode cX7_gives 83 = .ok (.ifCond .le 70, 3) := by decide +kernel
theorem dX7_gives_86 : decode cX7_gives 86 = .ok (.aload_n 0, 1) := by decide +kernel
theorem dX7_gives_87 : decode cX7_gives 87 = .ok (.getfield 34, 3) := by decide +kernel
theorem dX7_gives_90 : decode cX7_gives 90 = .ok (.iload_n 3, 1) := by decide +kernel
theorem dX7_gives_91 : decode cX7_gives 91 = .ok (.iconst 1, 1) := by decide +kernel
theorem dX7_gives_92 : decode cX7_gives 92 = .ok (.isub, 1) := by decide +kernel
theorem dX7_gives_93 : decode cX7_gives 93 = .ok (.iaload, 1) := by decide +kernel
theorem dX7_gives_94 : decode cX7_gives 94 = .ok (.iload_n 1, 1) := by decide +kernel
theorem dX7_gives_95 : decode cX7_gives 95 = .ok (.if_icmp .ne 58, 3) := by decide +kernel
theorem dX7_gives_98 : decode cX7_gives 98 = .ok (.aload_n 0, 1) := by decide +kernel
theorem dX7_gives_99 : decode cX7_gives 99 = .ok (.getfield 49, 3) := by decide +kernel
theorem dX7_gives_102 : decode cX7_gives 102 = .ok (.iload_n 3, 1) := by decide +kernel
theorem dX7_gives_103 : decode cX7_gives 103 = .ok (.iconst 1, 1) := by decide +kernel
theorem dX7_gives_104 : decode cX7_gives 104 = .ok (.isub, 1) := by decide +kernel
theorem dX7_gives_105 : decode cX7_gives 105 = .ok (.iaload, 1) := by decide +kernel
theorem dX7_gives_106 : decode cX7_gives 106 = .ok (.aload_n 0, 1) := by decide +kernel
theorem dX7_gives_107 : decode cX7_gives 107 = .ok (.getfield 49, 3) := by decide +kernel
theorem dX7_gives_110 : decode cX7_gives 110 = .ok (.iload_n 3, 1) := by decide +kernel
theorem dX7_gives_111 : decode cX7_gives 111 = .ok (.iaload, 1) := by decide +kernel
theorem dX7_gives_112 : decode cX7_gives 112 = .ok (.if_icmp .ne 41, 3) := by decide +kernel
theorem dX7_gives_115 : decode cX7_gives 115 = .ok (.aload_n 0, 1) := by decide +kernel
theorem dX7_gives_116 : decode cX7_gives 116 = .ok (.getfield 43, 3) := by decide +kernel
theorem dX7_gives_119 : decode cX7_gives 119 = .ok (.iload_n 3, 1) := by decide +kernel
theorem dX7_gives_120 : decode cX7_gives 120 = .ok (.iconst 1, 1) := by decide +kernel
theorem dX7_gives_121 : decode cX7_gives 121 = .ok (.isub, 1) := by decide +kernel
theorem dX7_gives_122 : decode cX7_gives 122 = .ok (.iaload, 1) := by decide +kernel
theorem dX7_gives_123 : decode cX7_gives 123 = .ok (.ifCond .ne 30, 3) := by decide +kernel
theorem dX7_gives_126 : decode cX7_gives 126 = .ok (.iinc 3 (-1), 3) := by decide +kernel
theorem dX7_gives_129 : decode cX7_gives 129 = .ok (.aload_n 0, 1) := by decide +kernel
theorem dX7_gives_130 : decode cX7_gives 130 = .ok (.getfield 40, 3) := by decide +kernel
theorem dX7_gives_133 : decode cX7_gives 133 = .ok (.iload_n 3, 1) := by decide +kernel
theorem dX7_gives_134 : decode cX7_gives 134 = .ok (.dup2, 1) := by decide +kernel
theorem dX7_gives_135 : decode cX7_gives 135 = .ok (.iaload, 1) := by decide +kernel
theorem dX7_gives_136 : decode cX7_gives 136 = .ok (.aload_n 0, 1) := by decide +kernel
theorem dX7_gives_137 : decode cX7_gives 137 = .ok (.getfield 40, 3) := by decide +kernel
theorem dX7_gives_140 : decode cX7_gives 140 = .ok (.iload_n 3, 1) := by decide +kernel
theorem dX7_gives_141 : decode cX7_gives 141 = .ok (.iconst 1, 1) := by decide +kernel
theorem dX7_gives_142 : decode cX7_gives 142 = .ok (.iadd, 1) := by decide +kernel
theorem dX7_gives_143 : decode cX7_gives 143 = .ok (.iaload, 1) := by decide +kernel
theorem dX7_gives_144 : decode cX7_gives 144 = .ok (.iadd, 1) := by decide +kernel
theorem dX7_gives_145 : decode cX7_gives 145 = .ok (.iastore, 1) := by decide +kernel
theorem dX7_gives_146 : decode cX7_gives 146 = .ok (.aload_n 0, 1) := by decide +kernel
theorem dX7_gives_147 : decode cX7_gives 147 = .ok (.iload_n 3, 1) := by decide +kernel
theorem dX7_gives_148 : decode cX7_gives 148 = .ok (.iconst 1, 1) := by decide +kernel
theorem dX7_gives_149 : decode cX7_gives 149 = .ok (.iadd, 1) := by decide +kernel
theorem dX7_gives_150 : decode cX7_gives 150 = .ok (.invokevirtual 177, 3) := by decide +kernel
theorem dX7_gives_153 : decode cX7_gives 153 = .ok (.aload_n 0, 1) := by decide +kernel
theorem dX7_gives_154 : decode cX7_gives 154 = .ok (.iload_n 3, 1) := by decide +kernel
theorem dX7_gives_155 : decode cX7_gives 155 = .ok (.invokevirtual 121, 3) := by decide +kernel
theorem dX7_gives_158 : decode cX7_gives 158 = .ok (.aload_n 0, 1) := by decide +kernel
theorem dX7_gives_159 : decode cX7_gives 159 = .ok (.getfield 49, 3) := by decide +kernel
theorem dX7_gives_162 : decode cX7_gives 162 = .ok (.iload_n 3, 1) := by decide +kernel
theorem dX7_gives_163 : decode cX7_gives 163 = .ok (.iaload, 1) := by decide +kernel
theorem dX7_gives_164 : decode cX7_gives 164 = .ok (.istore 4, 2) := by decide +kernel
theorem dX7_gives_166 : decode cX7_gives 166 = .ok (.aload_n 0, 1) := by decide +kernel
theorem dX7_gives_167 : decode cX7_gives 167 = .ok (.getfield 68, 3) := by decide +kernel
theorem dX7_gives_170 : decode cX7_gives 170 = .ok (.iload 4, 2) := by decide +kernel
theorem dX7_gives_172 : decode cX7_gives 172 = .ok (.baload, 1) := by decide +kernel
theorem dX7_gives_173 : decode cX7_gives 173 = .ok (.ifCond .eq 19, 3) := by decide +kernel
theorem dX7_gives_176 : decode cX7_gives 176 = .ok (.aload_n 0, 1) := by decide +kernel
theorem dX7_gives_177 : decode cX7_gives 177 = .ok (.getfield 40, 3) := by decide +kernel
theorem dX7_gives_180 : decode cX7_gives 180 = .ok (.iload_n 3, 1) := by decide +kernel
theorem dX7_gives_181 : decode cX7_gives 181 = .ok (.iaload, 1) := by decide +kernel
theorem dX7_gives_182 : decode cX7_gives 182 = .ok (.aload_n 0, 1) := by decide +kernel
theorem dX7_gives_183 : decode cX7_gives 183 = .ok (.getfield 61, 3) := by decide +kernel
theorem dX7_gives_186 : decode cX7_gives 186 = .ok (.iload 4, 2) := by decide +kernel
theorem dX7_gives_188 : decode cX7_gives 188 = .ok (.iaload, 1) := by decide +kernel
theorem dX7_gives_189 : decode cX7_gives 189 = .ok (.if_icmp .eq 4, 3) := by decide +kernel
theorem dX7_gives_192 : decode cX7_gives 192 = .ok (.return_, 1) := by decide +kernel
theorem dX7_gives_193 : decode cX7_gives 193 = .ok (.aload_n 0, 1) := by decide +kernel
theorem dX7_gives_194 : decode cX7_gives 194 = .ok (.iload_n 3, 1) := by decide +kernel
theorem dX7_gives_195 : decode cX7_gives 195 = .ok (.invokevirtual 177, 3) := by decide +kernel
theorem dX7_gives_198 : decode cX7_gives 198 = .ok (.aload_n 0, 1) := by decide +kernel
theorem dX7_gives_199 : decode cX7_gives 199 = .ok (.getfield 64, 3) := by decide +kernel
theorem dX7_gives_202 : decode cX7_gives 202 = .ok (.iload 4, 2) := by decide +kernel
theorem dX7_gives_204 : decode cX7_gives 204 = .ok (.iconst 0, 1) := by decide +kernel
theorem dX7_gives_205 : decode cX7_gives 205 = .ok (.bastore, 1) := by decide +kernel
theorem dX7_gives_206 : decode cX7_gives 206 = .ok (.aload_n 0, 1) := by decide +kernel
theorem dX7_gives_207 : decode cX7_gives 207 = .ok (.dup, 1) := by decide +kernel
theorem dX7_gives_208 : decode cX7_gives 208 = .ok (.getfield 110, 3) := by decide +kernel
theorem dX7_gives_211 : decode cX7_gives 211 = .ok (.iconst 1, 1) := by decide +kernel
theorem dX7_gives_212 : decode cX7_gives 212 = .ok (.isub, 1) := by decide +kernel
theorem dX7_gives_213 : decode cX7_gives 213 = .ok (.putfield 110, 3) := by decide +kernel
theorem dX7_gives_216 : decode cX7_gives 216 = .ok (.aload_n 0, 1) := by decide +kernel
theorem dX7_gives_217 : decode cX7_gives 217 = .ok (.aload_n 0, 1) := by decide +kernel
theorem dX7_gives_218 : decode cX7_gives 218 = .ok (.getfield 13, 3) := by decide +kernel
theorem dX7_gives_221 : decode cX7_gives 221 = .ok (.iload_n 1, 1) := by decide +kernel
theorem dX7_gives_222 : decode cX7_gives 222 = .ok (.iaload, 1) := by decide +kernel
theorem dX7_gives_223 : decode cX7_gives 223 = .ok (.aload_n 0, 1) := by decide +kernel
theorem dX7_gives_224 : decode cX7_gives 224 = .ok (.getfield 58, 3) := by decide +kernel
theorem dX7_gives_227 : decode cX7_gives 227 = .ok (.iload 4, 2) := by decide +kernel
theorem dX7_gives_229 : decode cX7_gives 229 = .ok (.iaload, 1) := by decide +kernel
theorem dX7_gives_230 : decode cX7_gives 230 = .ok (.invokevirtual 180, 3) := by decide +kernel
theorem dX7_gives_233 : decode cX7_gives 233 = .ok (.return_, 1) := by decide +kernel
theorem dX7_magazine_0 : decode cX7_magazine 0 = .ok (.iconst 4, 1) := by decide +kernel
theorem dX7_magazine_1 : decode cX7_magazine 1 = .ok (.bipush 9, 2) := by decide +kernel
theorem dX7_magazine_3 : decode cX7_magazine 3 = .ok (.iload_n 0, 1) := by decide +kernel
theorem dX7_magazine_4 : decode cX7_magazine 4 = .ok (.imul, 1) := by decide +kernel
theorem dX7_magazine_5 : decode cX7_magazine 5 = .ok (.iload_n 1, 1) := by decide +kernel
theorem dX7_magazine_6 : decode cX7_magazine 6 = .ok (.iadd, 1) := by decide +kernel
theorem dX7_magazine_7 : decode cX7_magazine 7 = .ok (.imul, 1) := by decide +kernel
theorem dX7_magazine_8 : decode cX7_magazine 8 = .ok (.iconst 2, 1) := by decide +kernel
theorem dX7_magazine_9 : decode cX7_magazine 9 = .ok (.iload_n 2, 1) := by decide +kernel
theorem dX7_magazine_10 : decode cX7_magazine 10 = .ok (.imul, 1) := by decide +kernel
theorem dX7_magazine_11 : decode cX7_magazine 11 = .ok (.iadd, 1) := by decide +kernel
theorem dX7_magazine_12 : decode cX7_magazine 12 = .ok (.iload_n 3, 1) := by decide +kernel
theorem dX7_magazine_13 : decode cX7_magazine 13 = .ok (.iadd, 1) := by decide +kernel
theorem dX7_magazine_14 : decode cX7_magazine 14 = .ok (.ireturn, 1) := by decide +kernel
theorem dX7_slabSize_0 : decode cX7_slabSize 0 = .ok (.iconst 1, 1) := by decide +kernel
theorem dX7_slabSize_1 : decode cX7_slabSize 1 = .ok (.istore_n 2, 1) := by decide +kernel
theorem dX7_slabSize_2 : decode cX7_slabSize 2 = .ok (.iload_n 2, 1) := by decide +kernel
theorem dX7_slabSize_3 : decode cX7_slabSize 3 = .ok (.iconst 3, 1) := by decide +kernel
theorem dX7_slabSize_4 : decode cX7_slabSize 4 = .ok (.aload_n 0, 1) := by decide +kernel
theorem dX7_slabSize_5 : decode cX7_slabSize 5 = .ok (.getfield 16, 3) := by decide +kernel
theorem dX7_slabSize_8 : decode cX7_slabSize 8 = .ok (.iload_n 1, 1) := by decide +kernel
theorem dX7_slabSize_9 : decode cX7_slabSize 9 = .ok (.iaload, 1) := by decide +kernel
theorem dX7_slabSize_10 : decode cX7_slabSize 10 = .ok (.imul, 1) := by decide +kernel
theorem dX7_slabSize_11 : decode cX7_slabSize 11 = .ok (.if_icmp .ge 10, 3) := by decide +kernel
theorem dX7_slabSize_14 : decode cX7_slabSize 14 = .ok (.iload_n 2, 1) := by decide +kernel
theorem dX7_slabSize_15 : decode cX7_slabSize 15 = .ok (.iconst 2, 1) := by decide +kernel
theorem dX7_slabSize_16 : decode cX7_slabSize 16 = .ok (.imul, 1) := by decide +kernel
theorem dX7_slabSize_17 : decode cX7_slabSize 17 = .ok (.istore_n 2, 1) := by decide +kernel
theorem dX7_slabSize_18 : decode cX7_slabSize 18 = .ok (.goto (-16), 3) := by decide +kernel
theorem dX7_slabSize_21 : decode cX7_slabSize 21 = .ok (.iload_n 2, 1) := by decide +kernel
theorem dX7_slabSize_22 : decode cX7_slabSize 22 = .ok (.ireturn, 1) := by decide +kernel
theorem dX7_isHeld_0 : decode cX7_isHeld 0 = .ok (.iconst 0, 1) := by decide +kernel
theorem dX7_isHeld_1 : decode cX7_isHeld 1 = .ok (.istore_n 3, 1) := by decide +kernel
theorem dX7_isHeld_2 : decode cX7_isHeld 2 = .ok (.iload_n 3, 1) := by decide +kernel
theorem dX7_isHeld_3 : decode cX7_isHeld 3 = .ok (.aload_n 0, 1) := by decide +kernel
theorem dX7_isHeld_4 : decode cX7_isHeld 4 = .ok (.getfield 183, 3) := by decide +kernel
theorem dX7_isHeld_7 : decode cX7_isHeld 7 = .ok (.if_icmp .ge 31, 3) := by decide +kernel
theorem dX7_isHeld_10 : decode cX7_isHeld 10 = .ok (.aload_n 0, 1) := by decide +kernel
theorem dX7_isHeld_11 : decode cX7_isHeld 11 = .ok (.getfield 72, 3) := by decide +kernel
theorem dX7_isHeld_14 : decode cX7_isHeld 14 = .ok (.iload_n 3, 1) := by decide +kernel
theorem dX7_isHeld_15 : decode cX7_isHeld 15 = .ok (.iaload, 1) := by decide +kernel
theorem dX7_isHeld_16 : decode cX7_isHeld 16 = .ok (.iload_n 1, 1) := by decide +kernel
theorem dX7_isHeld_17 : decode cX7_isHeld 17 = .ok (.if_icmp .ne 15, 3) := by decide +kernel
theorem dX7_isHeld_20 : decode cX7_isHeld 20 = .ok (.aload_n 0, 1) := by decide +kernel
theorem dX7_isHeld_21 : decode cX7_isHeld 21 = .ok (.getfield 75, 3) := by decide +kernel
theorem dX7_isHeld_24 : decode cX7_isHeld 24 = .ok (.iload_n 3, 1) := by decide +kernel
theorem dX7_isHeld_25 : decode cX7_isHeld 25 = .ok (.iaload, 1) := by decide +kernel
theorem dX7_isHeld_26 : decode cX7_isHeld 26 = .ok (.iload_n 2, 1) := by decide +kernel
theorem dX7_isHeld_27 : decode cX7_isHeld 27 = .ok (.if_icmp .ne 5, 3) := by decide +kernel
theorem dX7_isHeld_30 : decode cX7_isHeld 30 = .ok (.iconst 1, 1) := by decide +kernel
theorem dX7_isHeld_31 : decode cX7_isHeld 31 = .ok (.ireturn, 1) := by decide +kernel
theorem dX7_isHeld_32 : decode cX7_isHeld 32 = .ok (.iinc 3 1, 3) := by decide +kernel
theorem dX7_isHeld_35 : decode cX7_isHeld 35 = .ok (.goto (-33), 3) := by decide +kernel
theorem dX7_isHeld_38 : decode cX7_isHeld 38 = .ok (.iconst 0, 1) := by decide +kernel
theorem dX7_isHeld_39 : decode cX7_isHeld 39 = .ok (.ireturn, 1) := by decide +kernel
theorem dX7_isIn_0 : decode cX7_isIn 0 = .ok (.aload_n 0, 1) := by decide +kernel
theorem dX7_isIn_1 : decode cX7_isIn 1 = .ok (.iload_n 1, 1) := by decide +kernel
theorem dX7_isIn_2 : decode cX7_isIn 2 = .ok (.iload_n 3, 1) := by decide +kernel
theorem dX7_isIn_3 : decode cX7_isIn 3 = .ok (.invokevirtual 186, 3) := by decide +kernel
theorem dX7_isIn_6 : decode cX7_isIn 6 = .ok (.ifCond .eq 5, 3) := by decide +kernel
theorem dX7_isIn_9 : decode cX7_isIn 9 = .ok (.iconst 0, 1) := by decide +kernel
theorem dX7_isIn_10 : decode cX7_isIn 10 = .ok (.ireturn, 1) := by decide +kernel
theorem dX7_isIn_11 : decode cX7_isIn 11 = .ok (.iload_n 1, 1) := by decide +kernel
theorem dX7_isIn_12 : decode cX7_isIn 12 = .ok (.iload_n 2, 1) := by decide +kernel
theorem dX7_isIn_13 : decode cX7_isIn 13 = .ok (.iconst 0, 1) := by decide +kernel
theorem dX7_isIn_14 : decode cX7_isIn 14 = .ok (.iconst 0, 1) := by decide +kernel
theorem dX7_isIn_15 : decode cX7_isIn 15 = .ok (.invokestatic 190, 3) := by decide +kernel
theorem dX7_isIn_18 : decode cX7_isIn 18 = .ok (.istore 4, 2) := by decide +kernel
theorem dX7_isIn_20 : decode cX7_isIn 20 = .ok (.iload 4, 2) := by decide +kernel
theorem dX7_isIn_22 : decode cX7_isIn 22 = .ok (.iload_n 1, 1) := by decide +kernel
theorem dX7_isIn_23 : decode cX7_isIn 23 = .ok (.iload_n 2, 1) := by decide +kernel
theorem dX7_isIn_24 : decode cX7_isIn 24 = .ok (.iconst 1, 1) := by decide +kernel
theorem dX7_isIn_25 : decode cX7_isIn 25 = .ok (.iconst 1, 1) := by decide +kernel
theorem dX7_isIn_26 : decode cX7_isIn 26 = .ok (.invokestatic 190, 3) := by decide +kernel
theorem dX7_isIn_29 : decode cX7_isIn 29 = .ok (.if_icmp .gt 48, 3) := by decide +kernel
theorem dX7_isIn_32 : decode cX7_isIn 32 = .ok (.iconst 0, 1) := by decide +kernel
theorem dX7_isIn_33 : decode cX7_isIn 33 = .ok (.istore 5, 2) := by decide +kernel
theorem dX7_isIn_35 : decode cX7_isIn 35 = .ok (.iload 5, 2) := by decide +kernel
theorem dX7_isIn_37 : decode cX7_isIn 37 = .ok (.aload_n 0, 1) := by decide +kernel
theorem dX7_isIn_38 : decode cX7_isIn 38 = .ok (.getfield 78, 3) := by decide +kernel
theorem dX7_isIn_41 : decode cX7_isIn 41 = .ok (.iload 4, 2) := by decide +kernel
theorem dX7_isIn_43 : decode cX7_isIn 43 = .ok (.iaload, 1) := by decide +kernel
theorem dX7_isIn_44 : decode cX7_isIn 44 = .ok (.if_icmp .ge 27, 3) := by decide +kernel
theorem dX7_isIn_47 : decode cX7_isIn 47 = .ok (.aload_n 0, 1) := by decide +kernel
theorem dX7_isIn_48 : decode cX7_isIn 48 = .ok (.getfield 81, 3) := by decide +kernel
theorem dX7_isIn_51 : decode cX7_isIn 51 = .ok (.iconst 3, 1) := by decide +kernel
theorem dX7_isIn_52 : decode cX7_isIn 52 = .ok (.iload 4, 2) := by decide +kernel
theorem dX7_isIn_54 : decode cX7_isIn 54 = .ok (.imul, 1) := by decide +kernel
theorem dX7_isIn_55 : decode cX7_isIn 55 = .ok (.iload 5, 2) := by decide +kernel
theorem dX7_isIn_57 : decode cX7_isIn 57 = .ok (.iadd, 1) := by decide +kernel
theorem dX7_isIn_58 : decode cX7_isIn 58 = .ok (.iaload, 1) := by decide +kernel
theorem dX7_isIn_59 : decode cX7_isIn 59 = .ok (.iload_n 3, 1) := by decide +kernel
theorem dX7_isIn_60 : decode cX7_isIn 60 = .ok (.if_icmp .ne 5, 3) := by decide +kernel
theorem dX7_isIn_63 : decode cX7_isIn 63 = .ok (.iconst 0, 1) := by decide +kernel
theorem dX7_isIn_64 : decode cX7_isIn 64 = .ok (.ireturn, 1) := by decide +kernel
theorem dX7_isIn_65 : decode cX7_isIn 65 = .ok (.iinc 5 1, 3) := by decide +kernel
theorem dX7_isIn_68 : decode cX7_isIn 68 = .ok (.goto (-33), 3) := by decide +kernel
theorem dX7_isIn_71 : decode cX7_isIn 71 = .ok (.iinc 4 1, 3) := by decide +kernel
theorem dX7_isIn_74 : decode cX7_isIn 74 = .ok (.goto (-54), 3) := by decide +kernel
theorem dX7_isIn_77 : decode cX7_isIn 77 = .ok (.bipush 9, 2) := by decide +kernel
theorem dX7_isIn_79 : decode cX7_isIn 79 = .ok (.iload_n 1, 1) := by decide +kernel
theorem dX7_isIn_80 : decode cX7_isIn 80 = .ok (.imul, 1) := by decide +kernel
theorem dX7_isIn_81 : decode cX7_isIn 81 = .ok (.iload_n 2, 1) := by decide +kernel
theorem dX7_isIn_82 : decode cX7_isIn 82 = .ok (.iadd, 1) := by decide +kernel
theorem dX7_isIn_83 : decode cX7_isIn 83 = .ok (.istore 4, 2) := by decide +kernel
theorem dX7_isIn_85 : decode cX7_isIn 85 = .ok (.iconst 0, 1) := by decide +kernel
theorem dX7_isIn_86 : decode cX7_isIn 86 = .ok (.istore 5, 2) := by decide +kernel
theorem dX7_isIn_88 : decode cX7_isIn 88 = .ok (.iload 5, 2) := by decide +kernel
theorem dX7_isIn_90 : decode cX7_isIn 90 = .ok (.iconst 3, 1) := by decide +kernel
theorem dX7_isIn_91 : decode cX7_isIn 91 = .ok (.aload_n 0, 1) := by decide +kernel
theorem dX7_isIn_92 : decode cX7_isIn 92 = .ok (.getfield 84, 3) := by decide +kernel
theorem dX7_isIn_95 : decode cX7_isIn 95 = .ok (.iload 4, 2) := by decide +kernel
theorem dX7_isIn_97 : decode cX7_isIn 97 = .ok (.iaload, 1) := by decide +kernel
theorem dX7_isIn_98 : decode cX7_isIn 98 = .ok (.imul, 1) := by decide +kernel
theorem dX7_isIn_99 : decode cX7_isIn 99 = .ok (.if_icmp .ge 28, 3) := by decide +kernel
theorem dX7_isIn_102 : decode cX7_isIn 102 = .ok (.aload_n 0, 1) := by decide +kernel
theorem dX7_isIn_103 : decode cX7_isIn 103 = .ok (.getfield 87, 3) := by decide +kernel
theorem dX7_isIn_106 : decode cX7_isIn 106 = .ok (.bipush 12, 2) := by decide +kernel
theorem dX7_isIn_108 : decode cX7_isIn 108 = .ok (.iload 4, 2) := by decide +kernel
theorem dX7_isIn_110 : decode cX7_isIn 110 = .ok (.imul, 1) := by decide +kernel
theorem dX7_isIn_111 : decode cX7_isIn 111 = .ok (.iload 5, 2) := by decide +kernel
theorem dX7_isIn_113 : decode cX7_isIn 113 = .ok (.iadd, 1) := by decide +kernel
theorem dX7_isIn_114 : decode cX7_isIn 114 = .ok (.iaload, 1) := by decide +kernel
theorem dX7_isIn_115 : decode cX7_isIn 115 = .ok (.iload_n 3, 1) := by decide +kernel
theorem dX7_isIn_116 : decode cX7_isIn 116 = .ok (.if_icmp .ne 5, 3) := by decide +kernel
theorem dX7_isIn_119 : decode cX7_isIn 119 = .ok (.iconst 0, 1) := by decide +kernel
theorem dX7_isIn_120 : decode cX7_isIn 120 = .ok (.ireturn, 1) := by decide +kernel
theorem dX7_isIn_121 : decode cX7_isIn 121 = .ok (.iinc 5 1, 3) := by decide +kernel
theorem dX7_isIn_124 : decode cX7_isIn 124 = .ok (.goto (-36), 3) := by decide +kernel
theorem dX7_isIn_127 : decode cX7_isIn 127 = .ok (.iconst 1, 1) := by decide +kernel
theorem dX7_isIn_128 : decode cX7_isIn 128 = .ok (.ireturn, 1) := by decide +kernel
theorem dX7_isSlab_0 : decode cX7_isSlab 0 = .ok (.aload_n 0, 1) := by decide +kernel
theorem dX7_isSlab_1 : decode cX7_isSlab 1 = .ok (.getfield 34, 3) := by decide +kernel
theorem dX7_isSlab_4 : decode cX7_isSlab 4 = .ok (.iload_n 1, 1) := by decide +kernel
theorem dX7_isSlab_5 : decode cX7_isSlab 5 = .ok (.iaload, 1) := by decide +kernel
theorem dX7_isSlab_6 : decode cX7_isSlab 6 = .ok (.iload_n 2, 1) := by decide +kernel
theorem dX7_isSlab_7 : decode cX7_isSlab 7 = .ok (.if_icmp .ne 27, 3) := by decide +kernel
theorem dX7_isSlab_10 : decode cX7_isSlab 10 = .ok (.aload_n 0, 1) := by decide +kernel
theorem dX7_isSlab_11 : decode cX7_isSlab 11 = .ok (.getfield 43, 3) := by decide +kernel
theorem dX7_isSlab_14 : decode cX7_isSlab 14 = .ok (.iload_n 1, 1) := by decide +kernel
theorem dX7_isSlab_15 : decode cX7_isSlab 15 = .ok (.iaload, 1) := by decide +kernel
theorem dX7_isSlab_16 : decode cX7_isSlab 16 = .ok (.iconst 2, 1) := by decide +kernel
theorem dX7_isSlab_17 : decode cX7_isSlab 17 = .ok (.if_icmp .ne 17, 3) := by decide +kernel
theorem dX7_isSlab_20 : decode cX7_isSlab 20 = .ok (.aload_n 0, 1) := by decide +kernel
theorem dX7_isSlab_21 : decode cX7_isSlab 21 = .ok (.getfield 52, 3) := by decide +kernel
theorem dX7_isSlab_24 : decode cX7_isSlab 24 = .ok (.iload_n 1, 1) := by decide +kernel
theorem dX7_isSlab_25 : decode cX7_isSlab 25 = .ok (.iaload, 1) := by decide +kernel
theorem dX7_isSlab_26 : decode cX7_isSlab 26 = .ok (.iload_n 3, 1) := by decide +kernel
theorem dX7_isSlab_27 : decode cX7_isSlab 27 = .ok (.if_icmp .ne 7, 3) := by decide +kernel
theorem dX7_isSlab_30 : decode cX7_isSlab 30 = .ok (.iconst 1, 1) := by decide +kernel
theorem dX7_isSlab_31 : decode cX7_isSlab 31 = .ok (.goto 4, 3) := by decide +kernel
theorem dX7_isSlab_34 : decode cX7_isSlab 34 = .ok (.iconst 0, 1) := by decide +kernel
theorem dX7_isSlab_35 : decode cX7_isSlab 35 = .ok (.ireturn, 1) := by decide +kernel
theorem dX7_objectsOf_0 : decode cX7_objectsOf 0 = .ok (.aload_n 0, 1) := by decide +kernel
theorem dX7_objectsOf_1 : decode cX7_objectsOf 1 = .ok (.iload_n 1, 1) := by decide +kernel
theorem dX7_objectsOf_2 : decode cX7_objectsOf 2 = .ok (.invokevirtual 193, 3) := by decide +kernel
theorem dX7_objectsOf_5 : decode cX7_objectsOf 5 = .ok (.iload_n 2, 1) := by decide +kernel
theorem dX7_objectsOf_6 : decode cX7_objectsOf 6 = .ok (.idiv, 1) := by decide +kernel
theorem dX7_objectsOf_7 : decode cX7_objectsOf 7 = .ok (.ireturn, 1) := by decide +kernel
theorem dX7_lowest_0 : decode cX7_lowest 0 = .ok (.iload_n 2, 1) := by decide +kernel
theorem dX7_lowest_1 : decode cX7_lowest 1 = .ok (.aload_n 0, 1) := by decide +kernel
theorem dX7_lowest_2 : decode cX7_lowest 2 = .ok (.getfield 7, 3) := by decide +kernel
theorem dX7_lowest_5 : decode cX7_lowest 5 = .ok (.iload_n 1, 1) := by decide +kernel
theorem dX7_lowest_6 : decode cX7_lowest 6 = .ok (.iaload, 1) := by decide +kernel
theorem dX7_lowest_7 : decode cX7_lowest 7 = .ok (.imul, 1) := by decide +kernel
theorem dX7_lowest_8 : decode cX7_lowest 8 = .ok (.istore_n 3, 1) := by decide +kernel
theorem dX7_lowest_9 : decode cX7_lowest 9 = .ok (.iconst 0, 1) := by decide +kernel
theorem dX7_lowest_10 : decode cX7_lowest 10 = .ok (.istore 4, 2) := by decide +kernel
theorem dX7_lowest_12 : decode cX7_lowest 12 = .ok (.iload 4, 2) := by decide +kernel
theorem dX7_lowest_14 : decode cX7_lowest 14 = .ok (.aload_n 0, 1) := by decide +kernel
theorem dX7_lowest_15 : decode cX7_lowest 15 = .ok (.getfield 107, 3) := by decide +kernel
theorem dX7_lowest_18 : decode cX7_lowest 18 = .ok (.if_icmp .ge 77, 3) := by decide +kernel
theorem dX7_lowest_21 : decode cX7_lowest 21 = .ok (.aload_n 0, 1) := by decide +kernel
theorem dX7_lowest_22 : decode cX7_lowest 22 = .ok (.iload 4, 2) := by decide +kernel
theorem dX7_lowest_24 : decode cX7_lowest 24 = .ok (.iload_n 1, 1) := by decide +kernel
theorem dX7_lowest_25 : decode cX7_lowest 25 = .ok (.iload_n 2, 1) := by decide +kernel
theorem dX7_lowest_26 : decode cX7_lowest 26 = .ok (.invokevirtual 196, 3) := by decide +kernel
theorem dX7_lowest_29 : decode cX7_lowest 29 = .ok (.ifCond .ne 6, 3) := by decide +kernel
theorem dX7_lowest_32 : decode cX7_lowest 32 = .ok (.goto 57, 3) := by decide +kernel
theorem dX7_lowest_35 : decode cX7_lowest 35 = .ok (.iconst 0, 1) := by decide +kernel
theorem dX7_lowest_36 : decode cX7_lowest 36 = .ok (.istore 5, 2) := by decide +kernel
theorem dX7_lowest_38 : decode cX7_lowest 38 = .ok (.iload 5, 2) := by decide +kernel
theorem dX7_lowest_40 : decode cX7_lowest 40 = .ok (.aload_n 0, 1) := by decide +kernel
theorem dX7_lowest_41 : decode cX7_lowest 41 = .ok (.iload_n 1, 1) := by decide +kernel
theorem dX7_lowest_42 : decode cX7_lowest 42 = .ok (.iload_n 2, 1) := by decide +kernel
theorem dX7_lowest_43 : decode cX7_lowest 43 = .ok (.invokevirtual 200, 3) := by decide +kernel
theorem dX7_lowest_46 : decode cX7_lowest 46 = .ok (.if_icmp .ge 43, 3) := by decide +kernel
theorem dX7_lowest_49 : decode cX7_lowest 49 = .ok (.aload_n 0, 1) := by decide +kernel
theorem dX7_lowest_50 : decode cX7_lowest 50 = .ok (.iload_n 1, 1) := by decide +kernel
theorem dX7_lowest_51 : decode cX7_lowest 51 = .ok (.iload_n 2, 1) := by decide +kernel
theorem dX7_lowest_52 : decode cX7_lowest 52 = .ok (.aload_n 0, 1) := by decide +kernel
theorem dX7_lowest_53 : decode cX7_lowest 53 = .ok (.getfield 37, 3) := by decide +kernel
theorem dX7_lowest_56 : decode cX7_lowest 56 = .ok (.iload 4, 2) := by decide +kernel
theorem dX7_lowest_58 : decode cX7_lowest 58 = .ok (.iaload, 1) := by decide +kernel
theorem dX7_lowest_59 : decode cX7_lowest 59 = .ok (.iload 5, 2) := by decide +kernel
theorem dX7_lowest_61 : decode cX7_lowest 61 = .ok (.iload_n 3, 1) := by decide +kernel
theorem dX7_lowest_62 : decode cX7_lowest 62 = .ok (.imul, 1) := by decide +kernel
theorem dX7_lowest_63 : decode cX7_lowest 63 = .ok (.iadd, 1) := by decide +kernel
theorem dX7_lowest_64 : decode cX7_lowest 64 = .ok (.invokevirtual 203, 3) := by decide +kernel
theorem dX7_lowest_67 : decode cX7_lowest 67 = .ok (.ifCond .eq 16, 3) := by decide +kernel
theorem dX7_lowest_70 : decode cX7_lowest 70 = .ok (.aload_n 0, 1) := by decide +kernel
theorem dX7_lowest_71 : decode cX7_lowest 71 = .ok (.getfield 37, 3) := by decide +kernel
theorem dX7_lowest_74 : decode cX7_lowest 74 = .ok (.iload 4, 2) := by decide +kernel
theorem dX7_lowest_76 : decode cX7_lowest 76 = .ok (.iaload, 1) := by decide +kernel
theorem dX7_lowest_77 : decode cX7_lowest 77 = .ok (.iload 5, 2) := by decide +kernel
theorem dX7_lowest_79 : decode cX7_lowest 79 = .ok (.iload_n 3, 1) := by decide +kernel
theorem dX7_lowest_80 : decode cX7_lowest 80 = .ok (.imul, 1) := by decide +kernel
theorem dX7_lowest_81 : decode cX7_lowest 81 = .ok (.iadd, 1) := by decide +kernel
theorem dX7_lowest_82 : decode cX7_lowest 82 = .ok (.ireturn, 1) := by decide +kernel
theorem dX7_lowest_83 : decode cX7_lowest 83 = .ok (.iinc 5 1, 3) := by decide +kernel
theorem dX7_lowest_86 : decode cX7_lowest 86 = .ok (.goto (-48), 3) := by decide +kernel
theorem dX7_lowest_89 : decode cX7_lowest 89 = .ok (.iinc 4 1, 3) := by decide +kernel
theorem dX7_lowest_92 : decode cX7_lowest 92 = .ok (.goto (-80), 3) := by decide +kernel
theorem dX7_lowest_95 : decode cX7_lowest 95 = .ok (.iconst (-1), 1) := by decide +kernel
theorem dX7_lowest_96 : decode cX7_lowest 96 = .ok (.ireturn, 1) := by decide +kernel
theorem dX7_exchange_0 : decode cX7_exchange 0 = .ok (.iconst 0, 1) := by decide +kernel
theorem dX7_exchange_1 : decode cX7_exchange 1 = .ok (.istore_n 3, 1) := by decide +kernel
theorem dX7_exchange_2 : decode cX7_exchange 2 = .ok (.iload_n 3, 1) := by decide +kernel
theorem dX7_exchange_3 : decode cX7_exchange 3 = .ok (.iconst 3, 1) := by decide +kernel
theorem dX7_exchange_4 : decode cX7_exchange 4 = .ok (.if_icmp .ge 53, 3) := by decide +kernel
theorem dX7_exchange_7 : decode cX7_exchange 7 = .ok (.aload_n 0, 1) := by decide +kernel
theorem dX7_exchange_8 : decode cX7_exchange 8 = .ok (.getfield 81, 3) := by decide +kernel
theorem dX7_exchange_11 : decode cX7_exchange 11 = .ok (.iconst 3, 1) := by decide +kernel
theorem dX7_exchange_12 : decode cX7_exchange 12 = .ok (.iload_n 1, 1) := by decide +kernel
theorem dX7_exchange_13 : decode cX7_exchange 13 = .ok (.imul, 1) := by decide +kernel
theorem dX7_exchange_14 : decode cX7_exchange 14 = .ok (.iload_n 3, 1) := by decide +kernel
theorem dX7_exchange_15 : decode cX7_exchange 15 = .ok (.iadd, 1) := by decide +kernel
theorem dX7_exchange_16 : decode cX7_exchange 16 = .ok (.iaload, 1) := by decide +kernel
theorem dX7_exchange_17 : decode cX7_exchange 17 = .ok (.istore 4, 2) := by decide +kernel
theorem dX7_exchange_19 : decode cX7_exchange 19 = .ok (.aload_n 0, 1) := by decide +kernel
theorem dX7_exchange_20 : decode cX7_exchange 20 = .ok (.getfield 81, 3) := by decide +kernel
theorem dX7_exchange_23 : decode cX7_exchange 23 = .ok (.iconst 3, 1) := by decide +kernel
theorem dX7_exchange_24 : decode cX7_exchange 24 = .ok (.iload_n 1, 1) := by decide +kernel
theorem dX7_exchange_25 : decode cX7_exchange 25 = .ok (.imul, 1) := by decide +kernel
theorem dX7_exchange_26 : decode cX7_exchange 26 = .ok (.iload_n 3, 1) := by decide +kernel
theorem dX7_exchange_27 : decode cX7_exchange 27 = .ok (.iadd, 1) := by decide +kernel
theorem dX7_exchange_28 : decode cX7_exchange 28 = .ok (.aload_n 0, 1) := by decide +kernel
theorem dX7_exchange_29 : decode cX7_exchange 29 = .ok (.getfield 81, 3) := by decide +kernel
theorem dX7_exchange_32 : decode cX7_exchange 32 = .ok (.iconst 3, 1) := by decide +kernel
theorem dX7_exchange_33 : decode cX7_exchange 33 = .ok (.iload_n 2, 1) := by decide +kernel
theorem dX7_exchange_34 : decode cX7_exchange 34 = .ok (.imul, 1) := by decide +kernel
theorem dX7_exchange_35 : decode cX7_exchange 35 = .ok (.iload_n 3, 1) := by decide +kernel
theorem dX7_exchange_36 : decode cX7_exchange 36 = .ok (.iadd, 1) := by decide +kernel
theorem dX7_exchange_37 : decode cX7_exchange 37 = .ok (.iaload, 1) := by decide +kernel
theorem dX7_exchange_38 : decode cX7_exchange 38 = .ok (.iastore, 1) := by decide +kernel
theorem dX7_exchange_39 : decode cX7_exchange 39 = .ok (.aload_n 0, 1) := by decide +kernel
theorem dX7_exchange_40 : decode cX7_exchange 40 = .ok (.getfield 81, 3) := by decide +kernel
theorem dX7_exchange_43 : decode cX7_exchange 43 = .ok (.iconst 3, 1) := by decide +kernel
theorem dX7_exchange_44 : decode cX7_exchange 44 = .ok (.iload_n 2, 1) := by decide +kernel
theorem dX7_exchange_45 : decode cX7_exchange 45 = .ok (.imul, 1) := by decide +kernel
theorem dX7_exchange_46 : decode cX7_exchange 46 = .ok (.iload_n 3, 1) := by decide +kernel
theorem dX7_exchange_47 : decode cX7_exchange 47 = .ok (.iadd, 1) := by decide +kernel
theorem dX7_exchange_48 : decode cX7_exchange 48 = .ok (.iload 4, 2) := by decide +kernel
theorem dX7_exchange_50 : decode cX7_exchange 50 = .ok (.iastore, 1) := by decide +kernel
theorem dX7_exchange_51 : decode cX7_exchange 51 = .ok (.iinc 3 1, 3) := by decide +kernel
theorem dX7_exchange_54 : decode cX7_exchange 54 = .ok (.goto (-52), 3) := by decide +kernel
theorem dX7_exchange_57 : decode cX7_exchange 57 = .ok (.aload_n 0, 1) := by decide +kernel
theorem dX7_exchange_58 : decode cX7_exchange 58 = .ok (.getfield 78, 3) := by decide +kernel
theorem dX7_exchange_61 : decode cX7_exchange 61 = .ok (.iload_n 1, 1) := by decide +kernel
theorem dX7_exchange_62 : decode cX7_exchange 62 = .ok (.iaload, 1) := by decide +kernel
theorem dX7_exchange_63 : decode cX7_exchange 63 = .ok (.istore_n 3, 1) := by decide +kernel
theorem dX7_exchange_64 : decode cX7_exchange 64 = .ok (.aload_n 0, 1) := by decide +kernel
theorem dX7_exchange_65 : decode cX7_exchange 65 = .ok (.getfield 78, 3) := by decide +kernel
theorem dX7_exchange_68 : decode cX7_exchange 68 = .ok (.iload_n 1, 1) := by decide +kernel
theorem dX7_exchange_69 : decode cX7_exchange 69 = .ok (.aload_n 0, 1) := by decide +kernel
theorem dX7_exchange_70 : decode cX7_exchange 70 = .ok (.getfield 78, 3) := by decide +kernel
theorem dX7_exchange_73 : decode cX7_exchange 73 = .ok (.iload_n 2, 1) := by decide +kernel
theorem dX7_exchange_74 : decode cX7_exchange 74 = .ok (.iaload, 1) := by decide +kernel
theorem dX7_exchange_75 : decode cX7_exchange 75 = .ok (.iastore, 1) := by decide +kernel
theorem dX7_exchange_76 : decode cX7_exchange 76 = .ok (.aload_n 0, 1) := by decide +kernel
theorem dX7_exchange_77 : decode cX7_exchange 77 = .ok (.getfield 78, 3) := by decide +kernel
theorem dX7_exchange_80 : decode cX7_exchange 80 = .ok (.iload_n 2, 1) := by decide +kernel
theorem dX7_exchange_81 : decode cX7_exchange 81 = .ok (.iload_n 3, 1) := by decide +kernel
theorem dX7_exchange_82 : decode cX7_exchange 82 = .ok (.iastore, 1) := by decide +kernel
theorem dX7_exchange_83 : decode cX7_exchange 83 = .ok (.return_, 1) := by decide +kernel
theorem dX7_out_0 : decode cX7_out 0 = .ok (.iload_n 1, 1) := by decide +kernel
theorem dX7_out_1 : decode cX7_out 1 = .ok (.iload_n 2, 1) := by decide +kernel
theorem dX7_out_2 : decode cX7_out 2 = .ok (.iload_n 3, 1) := by decide +kernel
theorem dX7_out_3 : decode cX7_out 3 = .ok (.iconst 0, 1) := by decide +kernel
theorem dX7_out_4 : decode cX7_out 4 = .ok (.invokestatic 190, 3) := by decide +kernel
theorem dX7_out_7 : decode cX7_out 7 = .ok (.istore 4, 2) := by decide +kernel
theorem dX7_out_9 : decode cX7_out 9 = .ok (.iload 4, 2) := by decide +kernel
theorem dX7_out_11 : decode cX7_out 11 = .ok (.iconst 1, 1) := by decide +kernel
theorem dX7_out_12 : decode cX7_out 12 = .ok (.iadd, 1) := by decide +kernel
theorem dX7_out_13 : decode cX7_out 13 = .ok (.istore 5, 2) := by decide +kernel
theorem dX7_out_15 : decode cX7_out 15 = .ok (.bipush 9, 2) := by decide +kernel
theorem dX7_out_17 : decode cX7_out 17 = .ok (.iload_n 1, 1) := by decide +kernel
theorem dX7_out_18 : decode cX7_out 18 = .ok (.imul, 1) := by decide +kernel
theorem dX7_out_19 : decode cX7_out 19 = .ok (.iload_n 2, 1) := by decide +kernel
theorem dX7_out_20 : decode cX7_out 20 = .ok (.iadd, 1) := by decide +kernel
theorem dX7_out_21 : decode cX7_out 21 = .ok (.istore 6, 2) := by decide +kernel
theorem dX7_out_23 : decode cX7_out 23 = .ok (.aload_n 0, 1) := by decide +kernel
theorem dX7_out_24 : decode cX7_out 24 = .ok (.getfield 78, 3) := by decide +kernel
theorem dX7_out_27 : decode cX7_out 27 = .ok (.iload 4, 2) := by decide +kernel
theorem dX7_out_29 : decode cX7_out 29 = .ok (.iaload, 1) := by decide +kernel
theorem dX7_out_30 : decode cX7_out 30 = .ok (.ifCond .ne 24, 3) := by decide +kernel
theorem dX7_out_33 : decode cX7_out 33 = .ok (.aload_n 0, 1) := by decide +kernel
theorem dX7_out_34 : decode cX7_out 34 = .ok (.getfield 78, 3) := by decide +kernel
theorem dX7_out_37 : decode cX7_out 37 = .ok (.iload 5, 2) := by decide +kernel
theorem dX7_out_39 : decode cX7_out 39 = .ok (.iaload, 1) := by decide +kernel
theorem dX7_out_40 : decode cX7_out 40 = .ok (.ifCond .le 14, 3) := by decide +kernel
theorem dX7_out_43 : decode cX7_out 43 = .ok (.aload_n 0, 1) := by decide +kernel
theorem dX7_out_44 : decode cX7_out 44 = .ok (.iload 4, 2) := by decide +kernel
theorem dX7_out_46 : decode cX7_out 46 = .ok (.iload 5, 2) := by decide +kernel
theorem dX7_out_48 : decode cX7_out 48 = .ok (.invokevirtual 206, 3) := by decide +kernel
theorem dX7_out_51 : decode cX7_out 51 = .ok (.goto 100, 3) := by decide +kernel
theorem dX7_out_54 : decode cX7_out 54 = .ok (.aload_n 0, 1) := by decide +kernel
theorem dX7_out_55 : decode cX7_out 55 = .ok (.getfield 78, 3) := by decide +kernel
theorem dX7_out_58 : decode cX7_out 58 = .ok (.iload 4, 2) := by decide +kernel
theorem dX7_out_60 : decode cX7_out 60 = .ok (.iaload, 1) := by decide +kernel
theorem dX7_out_61 : decode cX7_out 61 = .ok (.ifCond .ne 90, 3) := by decide +kernel
theorem dX7_out_64 : decode cX7_out 64 = .ok (.aload_n 0, 1) := by decide +kernel
theorem dX7_out_65 : decode cX7_out 65 = .ok (.getfield 84, 3) := by decide +kernel
theorem dX7_out_68 : decode cX7_out 68 = .ok (.iload 6, 2) := by decide +kernel
theorem dX7_out_70 : decode cX7_out 70 = .ok (.iaload, 1) := by decide +kernel
theorem dX7_out_71 : decode cX7_out 71 = .ok (.ifCond .le 80, 3) := by decide +kernel
theorem dX7_out_74 : decode cX7_out 74 = .ok (.aload_n 0, 1) := by decide +kernel
theorem dX7_out_75 : decode cX7_out 75 = .ok (.iload 4, 2) := by decide +kernel
theorem dX7_out_77 : decode cX7_out 77 = .ok (.iload 5, 2) := by decide +kernel
theorem dX7_out_79 : decode cX7_out 79 = .ok (.invokevirtual 206, 3) := by decide +kernel
theorem dX7_out_82 : decode cX7_out 82 = .ok (.aload_n 0, 1) := by decide +kernel
theorem dX7_out_83 : decode cX7_out 83 = .ok (.getfield 84, 3) := by decide +kernel
theorem dX7_out_86 : decode cX7_out 86 = .ok (.iload 6, 2) := by decide +kernel
theorem dX7_out_88 : decode cX7_out 88 = .ok (.dup2, 1) := by decide +kernel
theorem dX7_out_89 : decode cX7_out 89 = .ok (.iaload, 1) := by decide +kernel
theorem dX7_out_90 : decode cX7_out 90 = .ok (.iconst 1, 1) := by decide +kernel
theorem dX7_out_91 : decode cX7_out 91 = .ok (.isub, 1) := by decide +kernel
theorem dX7_out_92 : decode cX7_out 92 = .ok (.iastore, 1) := by decide +kernel
theorem dX7_out_93 : decode cX7_out 93 = .ok (.iconst 0, 1) := by decide +kernel
theorem dX7_out_94 : decode cX7_out 94 = .ok (.istore 7, 2) := by decide +kernel
theorem dX7_out_96 : decode cX7_out 96 = .ok (.iload 7, 2) := by decide +kernel
theorem dX7_out_98 : decode cX7_out 98 = .ok (.iconst 3, 1) := by decide +kernel
theorem dX7_out_99 : decode cX7_out 99 = .ok (.if_icmp .ge 44, 3) := by decide +kernel
theorem dX7_out_102 : decode cX7_out 102 = .ok (.aload_n 0, 1) := by decide +kernel
theorem dX7_out_103 : decode cX7_out 103 = .ok (.getfield 81, 3) := by decide +kernel
theorem dX7_out_106 : decode cX7_out 106 = .ok (.iconst 3, 1) := by decide +kernel
theorem dX7_out_107 : decode cX7_out 107 = .ok (.iload 4, 2) := by decide +kernel
theorem dX7_out_109 : decode cX7_out 109 = .ok (.imul, 1) := by decide +kernel
theorem dX7_out_110 : decode cX7_out 110 = .ok (.iload 7, 2) := by decide +kernel
theorem dX7_out_112 : decode cX7_out 112 = .ok (.iadd, 1) := by decide +kernel
theorem dX7_out_113 : decode cX7_out 113 = .ok (.aload_n 0, 1) := by decide +kernel
theorem dX7_out_114 : decode cX7_out 114 = .ok (.getfield 87, 3) := by decide +kernel
theorem dX7_out_117 : decode cX7_out 117 = .ok (.bipush 12, 2) := by decide +kernel
theorem dX7_out_119 : decode cX7_out 119 = .ok (.iload 6, 2) := by decide +kernel
theorem dX7_out_121 : decode cX7_out 121 = .ok (.imul, 1) := by decide +kernel
theorem dX7_out_122 : decode cX7_out 122 = .ok (.iconst 3, 1) := by decide +kernel
theorem dX7_out_123 : decode cX7_out 123 = .ok (.aload_n 0, 1) := by decide +kernel
theorem dX7_out_124 : decode cX7_out 124 = .ok (.getfield 84, 3) := by decide +kernel
theorem dX7_out_127 : decode cX7_out 127 = .ok (.iload 6, 2) := by decide +kernel
theorem dX7_out_129 : decode cX7_out 129 = .ok (.iaload, 1) := by decide +kernel
theorem dX7_out_130 : decode cX7_out 130 = .ok (.imul, 1) := by decide +kernel
theorem dX7_out_131 : decode cX7_out 131 = .ok (.iadd, 1) := by decide +kernel
theorem dX7_out_132 : decode cX7_out 132 = .ok (.iload 7, 2) := by decide +kernel
theorem dX7_out_134 : decode cX7_out 134 = .ok (.iadd, 1) := by decide +kernel
theorem dX7_out_135 : decode cX7_out 135 = .ok (.iaload, 1) := by decide +kernel
theorem dX7_out_136 : decode cX7_out 136 = .ok (.iastore, 1) := by decide +kernel
theorem dX7_out_137 : decode cX7_out 137 = .ok (.iinc 7 1, 3) := by decide +kernel
theorem dX7_out_140 : decode cX7_out 140 = .ok (.goto (-44), 3) := by decide +kernel
theorem dX7_out_143 : decode cX7_out 143 = .ok (.aload_n 0, 1) := by decide +kernel
theorem dX7_out_144 : decode cX7_out 144 = .ok (.getfield 78, 3) := by decide +kernel
theorem dX7_out_147 : decode cX7_out 147 = .ok (.iload 4, 2) := by decide +kernel
theorem dX7_out_149 : decode cX7_out 149 = .ok (.iconst 3, 1) := by decide +kernel
theorem dX7_out_150 : decode cX7_out 150 = .ok (.iastore, 1) := by decide +kernel
theorem dX7_out_151 : decode cX7_out 151 = .ok (.aload_n 0, 1) := by decide +kernel
theorem dX7_out_152 : decode cX7_out 152 = .ok (.getfield 78, 3) := by decide +kernel
theorem dX7_out_155 : decode cX7_out 155 = .ok (.iload 4, 2) := by decide +kernel
theorem dX7_out_157 : decode cX7_out 157 = .ok (.iaload, 1) := by decide +kernel
theorem dX7_out_158 : decode cX7_out 158 = .ok (.ifCond .le 32, 3) := by decide +kernel
theorem dX7_out_161 : decode cX7_out 161 = .ok (.aload_n 0, 1) := by decide +kernel
theorem dX7_out_162 : decode cX7_out 162 = .ok (.getfield 78, 3) := by decide +kernel
theorem dX7_out_165 : decode cX7_out 165 = .ok (.iload 4, 2) := by decide +kernel
theorem dX7_out_167 : decode cX7_out 167 = .ok (.dup2, 1) := by decide +kernel
theorem dX7_out_168 : decode cX7_out 168 = .ok (.iaload, 1) := by decide +kernel
theorem dX7_out_169 : decode cX7_out 169 = .ok (.iconst 1, 1) := by decide +kernel
theorem dX7_out_170 : decode cX7_out 170 = .ok (.isub, 1) := by decide +kernel
theorem dX7_out_171 : decode cX7_out 171 = .ok (.iastore, 1) := by decide +kernel
theorem dX7_out_172 : decode cX7_out 172 = .ok (.aload_n 0, 1) := by decide +kernel
theorem dX7_out_173 : decode cX7_out 173 = .ok (.getfield 81, 3) := by decide +kernel
theorem dX7_out_176 : decode cX7_out 176 = .ok (.iconst 3, 1) := by decide +kernel
theorem dX7_out_177 : decode cX7_out 177 = .ok (.iload 4, 2) := by decide +kernel
theorem dX7_out_179 : decode cX7_out 179 = .ok (.imul, 1) := by decide +kernel
theorem dX7_out_180 : decode cX7_out 180 = .ok (.aload_n 0, 1) := by decide +kernel
theorem dX7_out_181 : decode cX7_out 181 = .ok (.getfield 78, 3) := by decide +kernel
theorem dX7_out_184 : decode cX7_out 184 = .ok (.iload 4, 2) := by decide +kernel
theorem dX7_out_186 : decode cX7_out 186 = .ok (.iaload, 1) := by decide +kernel
theorem dX7_out_187 : decode cX7_out 187 = .ok (.iadd, 1) := by decide +kernel
theorem dX7_out_188 : decode cX7_out 188 = .ok (.iaload, 1) := by decide +kernel
theorem dX7_out_189 : decode cX7_out 189 = .ok (.ireturn, 1) := by decide +kernel
theorem dX7_out_190 : decode cX7_out 190 = .ok (.aload_n 0, 1) := by decide +kernel
theorem dX7_out_191 : decode cX7_out 191 = .ok (.iload_n 1, 1) := by decide +kernel
theorem dX7_out_192 : decode cX7_out 192 = .ok (.iload_n 2, 1) := by decide +kernel
theorem dX7_out_193 : decode cX7_out 193 = .ok (.invokevirtual 209, 3) := by decide +kernel
theorem dX7_out_196 : decode cX7_out 196 = .ok (.istore 7, 2) := by decide +kernel
theorem dX7_out_198 : decode cX7_out 198 = .ok (.iload 7, 2) := by decide +kernel
theorem dX7_out_200 : decode cX7_out 200 = .ok (.iconst (-1), 1) := by decide +kernel
theorem dX7_out_201 : decode cX7_out 201 = .ok (.if_icmp .eq 6, 3) := by decide +kernel
theorem dX7_out_204 : decode cX7_out 204 = .ok (.iload 7, 2) := by decide +kernel
theorem dX7_out_206 : decode cX7_out 206 = .ok (.ireturn, 1) := by decide +kernel
theorem dX7_out_207 : decode cX7_out 207 = .ok (.aload_n 0, 1) := by decide +kernel
theorem dX7_out_208 : decode cX7_out 208 = .ok (.iload_n 1, 1) := by decide +kernel
theorem dX7_out_209 : decode cX7_out 209 = .ok (.aload_n 0, 1) := by decide +kernel
theorem dX7_out_210 : decode cX7_out 210 = .ok (.iload_n 1, 1) := by decide +kernel
theorem dX7_out_211 : decode cX7_out 211 = .ok (.invokevirtual 193, 3) := by decide +kernel
theorem dX7_out_214 : decode cX7_out 214 = .ok (.i2l, 1) := by decide +kernel
theorem dX7_out_215 : decode cX7_out 215 = .ok (.aload_n 0, 1) := by decide +kernel
theorem dX7_out_216 : decode cX7_out 216 = .ok (.getfield 7, 3) := by decide +kernel
theorem dX7_out_219 : decode cX7_out 219 = .ok (.iload_n 1, 1) := by decide +kernel
theorem dX7_out_220 : decode cX7_out 220 = .ok (.iaload, 1) := by decide +kernel
theorem dX7_out_221 : decode cX7_out 221 = .ok (.i2l, 1) := by decide +kernel
theorem dX7_out_222 : decode cX7_out 222 = .ok (.lmul, 1) := by decide +kernel
theorem dX7_out_223 : decode cX7_out 223 = .ok (.iconst 1, 1) := by decide +kernel
theorem dX7_out_224 : decode cX7_out 224 = .ok (.iconst 2, 1) := by decide +kernel
theorem dX7_out_225 : decode cX7_out 225 = .ok (.invokevirtual 173, 3) := by decide +kernel
theorem dX7_out_228 : decode cX7_out 228 = .ok (.istore 7, 2) := by decide +kernel
theorem dX7_out_230 : decode cX7_out 230 = .ok (.iload 7, 2) := by decide +kernel
theorem dX7_out_232 : decode cX7_out 232 = .ok (.iconst (-1), 1) := by decide +kernel
theorem dX7_out_233 : decode cX7_out 233 = .ok (.if_icmp .eq 17, 3) := by decide +kernel
theorem dX7_out_236 : decode cX7_out 236 = .ok (.aload_n 0, 1) := by decide +kernel
theorem dX7_out_237 : decode cX7_out 237 = .ok (.getfield 52, 3) := by decide +kernel
theorem dX7_out_240 : decode cX7_out 240 = .ok (.aload_n 0, 1) := by decide +kernel
theorem dX7_out_241 : decode cX7_out 241 = .ok (.iload_n 1, 1) := by decide +kernel
theorem dX7_out_242 : decode cX7_out 242 = .ok (.iload 7, 2) := by decide +kernel
theorem dX7_out_244 : decode cX7_out 244 = .ok (.i2l, 1) := by decide +kernel
theorem dX7_out_245 : decode cX7_out 245 = .ok (.invokevirtual 113, 3) := by decide +kernel
theorem dX7_out_248 : decode cX7_out 248 = .ok (.iload_n 2, 1) := by decide +kernel
theorem dX7_out_249 : decode cX7_out 249 = .ok (.iastore, 1) := by decide +kernel
theorem dX7_out_250 : decode cX7_out 250 = .ok (.iload 7, 2) := by decide +kernel
theorem dX7_out_252 : decode cX7_out 252 = .ok (.ireturn, 1) := by decide +kernel
theorem dX7_into_0 : decode cX7_into 0 = .ok (.iload_n 1, 1) := by decide +kernel
theorem dX7_into_1 : decode cX7_into 1 = .ok (.iload_n 2, 1) := by decide +kernel
theorem dX7_into_2 : decode cX7_into 2 = .ok (.iload_n 3, 1) := by decide +kernel
theorem dX7_into_3 : decode cX7_into 3 = .ok (.iconst 0, 1) := by decide +kernel
theorem dX7_into_4 : decode cX7_into 4 = .ok (.invokestatic 190, 3) := by decide +kernel
theorem dX7_into_7 : decode cX7_into 7 = .ok (.istore 5, 2) := by decide +kernel
theorem dX7_into_9 : decode cX7_into 9 = .ok (.iload 5, 2) := by decide +kernel
theorem dX7_into_11 : decode cX7_into 11 = .ok (.iconst 1, 1) := by decide +kernel
theorem dX7_into_12 : decode cX7_into 12 = .ok (.iadd, 1) := by decide +kernel
theorem dX7_into_13 : decode cX7_into 13 = .ok (.istore 6, 2) := by decide +kernel
theorem dX7_into_15 : decode cX7_into 15 = .ok (.bipush 9, 2) := by decide +kernel
theorem dX7_into_17 : decode cX7_into 17 = .ok (.iload_n 1, 1) := by decide +kernel
theorem dX7_into_18 : decode cX7_into 18 = .ok (.imul, 1) := by decide +kernel
theorem dX7_into_19 : decode cX7_into 19 = .ok (.iload_n 2, 1) := by decide +kernel
theorem dX7_into_20 : decode cX7_into 20 = .ok (.iadd, 1) := by decide +kernel
theorem dX7_into_21 : decode cX7_into 21 = .ok (.istore 7, 2) := by decide +kernel
theorem dX7_into_23 : decode cX7_into 23 = .ok (.aload_n 0, 1) := by decide +kernel
theorem dX7_into_24 : decode cX7_into 24 = .ok (.getfield 78, 3) := by decide +kernel
theorem dX7_into_27 : decode cX7_into 27 = .ok (.iload 5, 2) := by decide +kernel
theorem dX7_into_29 : decode cX7_into 29 = .ok (.iaload, 1) := by decide +kernel
theorem dX7_into_30 : decode cX7_into 30 = .ok (.iconst 3, 1) := by decide +kernel
theorem dX7_into_31 : decode cX7_into 31 = .ok (.if_icmp .ne 33, 3) := by decide +kernel
theorem dX7_into_34 : decode cX7_into 34 = .ok (.aload_n 0, 1) := by decide +kernel
theorem dX7_into_35 : decode cX7_into 35 = .ok (.getfield 78, 3) := by decide +kernel
theorem dX7_into_38 : decode cX7_into 38 = .ok (.iload 6, 2) := by decide +kernel
theorem dX7_into_40 : decode cX7_into 40 = .ok (.iaload, 1) := by decide +kernel
theorem dX7_into_41 : decode cX7_into 41 = .ok (.iconst 3, 1) := by decide +kernel
theorem dX7_into_42 : decode cX7_into 42 = .ok (.if_icmp .ge 22, 3) := by decide +kernel
theorem dX7_into_45 : decode cX7_into 45 = .ok (.aload_n 0, 1) := by decide +kernel
theorem dX7_into_46 : decode cX7_into 46 = .ok (.getfield 78, 3) := by decide +kernel
theorem dX7_into_49 : decode cX7_into 49 = .ok (.iload 6, 2) := by decide +kernel
theorem dX7_into_51 : decode cX7_into 51 = .ok (.iconst 0, 1) := by decide +kernel
theorem dX7_into_52 : decode cX7_into 52 = .ok (.iastore, 1) := by decide +kernel
theorem dX7_into_53 : decode cX7_into 53 = .ok (.aload_n 0, 1) := by decide +kernel
theorem dX7_into_54 : decode cX7_into 54 = .ok (.iload 5, 2) := by decide +kernel
theorem dX7_into_56 : decode cX7_into 56 = .ok (.iload 6, 2) := by decide +kernel
theorem dX7_into_58 : decode cX7_into 58 = .ok (.invokevirtual 206, 3) := by decide +kernel
theorem dX7_into_61 : decode cX7_into 61 = .ok (.goto 103, 3) := by decide +kernel
theorem dX7_into_64 : decode cX7_into 64 = .ok (.aload_n 0, 1) := by decide +kernel
theorem dX7_into_65 : decode cX7_into 65 = .ok (.getfield 78, 3) := by decide +kernel
theorem dX7_into_68 : decode cX7_into 68 = .ok (.iload 5, 2) := by decide +kernel
theorem dX7_into_70 : decode cX7_into 70 = .ok (.iaload, 1) := by decide +kernel
theorem dX7_into_71 : decode cX7_into 71 = .ok (.iconst 3, 1) := by decide +kernel
theorem dX7_into_72 : decode cX7_into 72 = .ok (.if_icmp .ne 92, 3) := by decide +kernel
theorem dX7_into_75 : decode cX7_into 75 = .ok (.aload_n 0, 1) := by decide +kernel
theorem dX7_into_76 : decode cX7_into 76 = .ok (.getfield 84, 3) := by decide +kernel
theorem dX7_into_79 : decode cX7_into 79 = .ok (.iload 7, 2) := by decide +kernel
theorem dX7_into_81 : decode cX7_into 81 = .ok (.iaload, 1) := by decide +kernel
theorem dX7_into_82 : decode cX7_into 82 = .ok (.iconst 4, 1) := by decide +kernel
theorem dX7_into_83 : decode cX7_into 83 = .ok (.if_icmp .ne 4, 3) := by decide +kernel
theorem dX7_into_86 : decode cX7_into 86 = .ok (.return_, 1) := by decide +kernel
theorem dX7_into_87 : decode cX7_into 87 = .ok (.iconst 0, 1) := by decide +kernel
theorem dX7_into_88 : decode cX7_into 88 = .ok (.istore 8, 2) := by decide +kernel
theorem dX7_into_90 : decode cX7_into 90 = .ok (.iload 8, 2) := by decide +kernel
theorem dX7_into_92 : decode cX7_into 92 = .ok (.iconst 3, 1) := by decide +kernel
theorem dX7_into_93 : decode cX7_into 93 = .ok (.if_icmp .ge 44, 3) := by decide +kernel
theorem dX7_into_96 : decode cX7_into 96 = .ok (.aload_n 0, 1) := by decide +kernel
theorem dX7_into_97 : decode cX7_into 97 = .ok (.getfield 87, 3) := by decide +kernel
theorem dX7_into_100 : decode cX7_into 100 = .ok (.bipush 12, 2) := by decide +kernel
theorem dX7_into_102 : decode cX7_into 102 = .ok (.iload 7, 2) := by decide +kernel
theorem dX7_into_104 : decode cX7_into 104 = .ok (.imul, 1) := by decide +kernel
theorem dX7_into_105 : decode cX7_into 105 = .ok (.iconst 3, 1) := by decide +kernel
theorem dX7_into_106 : decode cX7_into 106 = .ok (.aload_n 0, 1) := by decide +kernel
theorem dX7_into_107 : decode cX7_into 107 = .ok (.getfield 84, 3) := by decide +kernel
theorem dX7_into_110 : decode cX7_into 110 = .ok (.iload 7, 2) := by decide +kernel
theorem dX7_into_112 : decode cX7_into 112 = .ok (.iaload, 1) := by decide +kernel
theorem dX7_into_113 : decode cX7_into 113 = .ok (.imul, 1) := by decide +kernel
theorem dX7_into_114 : decode cX7_into 114 = .ok (.iadd, 1) := by decide +kernel
theorem dX7_into_115 : decode cX7_into 115 = .ok (.iload 8, 2) := by decide +kernel
theorem dX7_into_117 : decode cX7_into 117 = .ok (.iadd, 1) := by decide +kernel
theorem dX7_into_118 : decode cX7_into 118 = .ok (.aload_n 0, 1) := by decide +kernel
theorem dX7_into_119 : decode cX7_into 119 = .ok (.getfield 81, 3) := by decide +kernel
theorem dX7_into_122 : decode cX7_into 122 = .ok (.iconst 3, 1) := by decide +kernel
theorem dX7_into_123 : decode cX7_into 123 = .ok (.iload 6, 2) := by decide +kernel
theorem dX7_into_125 : decode cX7_into 125 = .ok (.imul, 1) := by decide +kernel
theorem dX7_into_126 : decode cX7_into 126 = .ok (.iload 8, 2) := by decide +kernel
theorem dX7_into_128 : decode cX7_into 128 = .ok (.iadd, 1) := by decide +kernel
theorem dX7_into_129 : decode cX7_into 129 = .ok (.iaload, 1) := by decide +kernel
theorem dX7_into_130 : decode cX7_into 130 = .ok (.iastore, 1) := by decide +kernel
theorem dX7_into_131 : decode cX7_into 131 = .ok (.iinc 8 1, 3) := by decide +kernel
theorem dX7_into_134 : decode cX7_into 134 = .ok (.goto (-44), 3) := by decide +kernel
theorem dX7_into_137 : decode cX7_into 137 = .ok (.aload_n 0, 1) := by decide +kernel
theorem dX7_into_138 : decode cX7_into 138 = .ok (.getfield 84, 3) := by decide +kernel
theorem dX7_into_141 : decode cX7_into 141 = .ok (.iload 7, 2) := by decide +kernel
theorem dX7_into_143 : decode cX7_into 143 = .ok (.dup2, 1) := by decide +kernel
theorem dX7_into_144 : decode cX7_into 144 = .ok (.iaload, 1) := by decide +kernel
theorem dX7_into_145 : decode cX7_into 145 = .ok (.iconst 1, 1) := by decide +kernel
theorem dX7_into_146 : decode cX7_into 146 = .ok (.iadd, 1) := by decide +kernel
theorem dX7_into_147 : decode cX7_into 147 = .ok (.iastore, 1) := by decide +kernel
theorem dX7_into_148 : decode cX7_into 148 = .ok (.aload_n 0, 1) := by decide +kernel
theorem dX7_into_149 : decode cX7_into 149 = .ok (.getfield 78, 3) := by decide +kernel
theorem dX7_into_152 : decode cX7_into 152 = .ok (.iload 6, 2) := by decide +kernel
theorem dX7_into_154 : decode cX7_into 154 = .ok (.iconst 0, 1) := by decide +kernel
theorem dX7_into_155 : decode cX7_into 155 = .ok (.iastore, 1) := by decide +kernel
theorem dX7_into_156 : decode cX7_into 156 = .ok (.aload_n 0, 1) := by decide +kernel
theorem dX7_into_157 : decode cX7_into 157 = .ok (.iload 5, 2) := by decide +kernel
theorem dX7_into_159 : decode cX7_into 159 = .ok (.iload 6, 2) := by decide +kernel
theorem dX7_into_161 : decode cX7_into 161 = .ok (.invokevirtual 206, 3) := by decide +kernel
theorem dX7_into_164 : decode cX7_into 164 = .ok (.aload_n 0, 1) := by decide +kernel
theorem dX7_into_165 : decode cX7_into 165 = .ok (.getfield 81, 3) := by decide +kernel
theorem dX7_into_168 : decode cX7_into 168 = .ok (.iconst 3, 1) := by decide +kernel
theorem dX7_into_169 : decode cX7_into 169 = .ok (.iload 5, 2) := by decide +kernel
theorem dX7_into_171 : decode cX7_into 171 = .ok (.imul, 1) := by decide +kernel
theorem dX7_into_172 : decode cX7_into 172 = .ok (.aload_n 0, 1) := by decide +kernel
theorem dX7_into_173 : decode cX7_into 173 = .ok (.getfield 78, 3) := by decide +kernel
theorem dX7_into_176 : decode cX7_into 176 = .ok (.iload 5, 2) := by decide +kernel
theorem dX7_into_178 : decode cX7_into 178 = .ok (.iaload, 1) := by decide +kernel
theorem dX7_into_179 : decode cX7_into 179 = .ok (.iadd, 1) := by decide +kernel
theorem dX7_into_180 : decode cX7_into 180 = .ok (.iload 4, 2) := by decide +kernel
theorem dX7_into_182 : decode cX7_into 182 = .ok (.iastore, 1) := by decide +kernel
theorem dX7_into_183 : decode cX7_into 183 = .ok (.aload_n 0, 1) := by decide +kernel
theorem dX7_into_184 : decode cX7_into 184 = .ok (.getfield 78, 3) := by decide +kernel
theorem dX7_into_187 : decode cX7_into 187 = .ok (.iload 5, 2) := by decide +kernel
theorem dX7_into_189 : decode cX7_into 189 = .ok (.dup2, 1) := by decide +kernel
theorem dX7_into_190 : decode cX7_into 190 = .ok (.iaload, 1) := by decide +kernel
theorem dX7_into_191 : decode cX7_into 191 = .ok (.iconst 1, 1) := by decide +kernel
theorem dX7_into_192 : decode cX7_into 192 = .ok (.iadd, 1) := by decide +kernel
theorem dX7_into_193 : decode cX7_into 193 = .ok (.iastore, 1) := by decide +kernel
theorem dX7_into_194 : decode cX7_into 194 = .ok (.return_, 1) := by decide +kernel
theorem dX7_purges_0 : decode cX7_purges 0 = .ok (.aload_n 0, 1) := by decide +kernel
theorem dX7_purges_1 : decode cX7_purges 1 = .ok (.getfield 31, 3) := by decide +kernel
theorem dX7_purges_4 : decode cX7_purges 4 = .ok (.iload_n 1, 1) := by decide +kernel
theorem dX7_purges_5 : decode cX7_purges 5 = .ok (.dup2, 1) := by decide +kernel
theorem dX7_purges_6 : decode cX7_purges 6 = .ok (.iaload, 1) := by decide +kernel
theorem dX7_purges_7 : decode cX7_purges 7 = .ok (.iconst 1, 1) := by decide +kernel
theorem dX7_purges_8 : decode cX7_purges 8 = .ok (.iadd, 1) := by decide +kernel
theorem dX7_purges_9 : decode cX7_purges 9 = .ok (.iastore, 1) := by decide +kernel
theorem dX7_purges_10 : decode cX7_purges 10 = .ok (.iconst 0, 1) := by decide +kernel
theorem dX7_purges_11 : decode cX7_purges 11 = .ok (.istore_n 2, 1) := by decide +kernel
theorem dX7_purges_12 : decode cX7_purges 12 = .ok (.iconst 1, 1) := by decide +kernel
theorem dX7_purges_13 : decode cX7_purges 13 = .ok (.istore_n 3, 1) := by decide +kernel
theorem dX7_purges_14 : decode cX7_purges 14 = .ok (.iload_n 3, 1) := by decide +kernel
theorem dX7_purges_15 : decode cX7_purges 15 = .ok (.aload_n 0, 1) := by decide +kernel
theorem dX7_purges_16 : decode cX7_purges 16 = .ok (.getfield 16, 3) := by decide +kernel
theorem dX7_purges_19 : decode cX7_purges 19 = .ok (.iload_n 1, 1) := by decide +kernel
theorem dX7_purges_20 : decode cX7_purges 20 = .ok (.iaload, 1) := by decide +kernel
theorem dX7_purges_21 : decode cX7_purges 21 = .ok (.if_icmp .gt 136, 3) := by decide +kernel
theorem dX7_purges_24 : decode cX7_purges 24 = .ok (.iload_n 1, 1) := by decide +kernel
theorem dX7_purges_25 : decode cX7_purges 25 = .ok (.iload_n 3, 1) := by decide +kernel
theorem dX7_purges_26 : decode cX7_purges 26 = .ok (.iconst 0, 1) := by decide +kernel
theorem dX7_purges_27 : decode cX7_purges 27 = .ok (.iconst 0, 1) := by decide +kernel
theorem dX7_purges_28 : decode cX7_purges 28 = .ok (.invokestatic 190, 3) := by decide +kernel
theorem dX7_purges_31 : decode cX7_purges 31 = .ok (.istore 4, 2) := by decide +kernel
theorem dX7_purges_33 : decode cX7_purges 33 = .ok (.iload 4, 2) := by decide +kernel
theorem dX7_purges_35 : decode cX7_purges 35 = .ok (.iload_n 1, 1) := by decide +kernel
theorem dX7_purges_36 : decode cX7_purges 36 = .ok (.iload_n 3, 1) := by decide +kernel
theorem dX7_purges_37 : decode cX7_purges 37 = .ok (.iconst 1, 1) := by decide +kernel
theorem dX7_purges_38 : decode cX7_purges 38 = .ok (.iconst 1, 1) := by decide +kernel
theorem dX7_purges_39 : decode cX7_purges 39 = .ok (.invokestatic 190, 3) := by decide +kernel
theorem dX7_purges_42 : decode cX7_purges 42 = .ok (.if_icmp .gt 17, 3) := by decide +kernel
theorem dX7_purges_45 : decode cX7_purges 45 = .ok (.aload_n 0, 1) := by decide +kernel
theorem dX7_purges_46 : decode cX7_purges 46 = .ok (.getfield 78, 3) := by decide +kernel
theorem dX7_purges_49 : decode cX7_purges 49 = .ok (.iload 4, 2) := by decide +kernel
theorem dX7_purges_51 : decode cX7_purges 51 = .ok (.iconst 0, 1) := by decide +kernel
theorem dX7_purges_52 : decode cX7_purges 52 = .ok (.iastore, 1) := by decide +kernel
theorem dX7_purges_53 : decode cX7_purges 53 = .ok (.iinc 4 1, 3) := by decide +kernel
theorem dX7_purges_56 : decode cX7_purges 56 = .ok (.goto (-23), 3) := by decide +kernel
theorem dX7_purges_59 : decode cX7_purges 59 = .ok (.aload_n 0, 1) := by decide +kernel
theorem dX7_purges_60 : decode cX7_purges 60 = .ok (.getfield 84, 3) := by decide +kernel
theorem dX7_purges_63 : decode cX7_purges 63 = .ok (.bipush 9, 2) := by decide +kernel
theorem dX7_purges_65 : decode cX7_purges 65 = .ok (.iload_n 1, 1) := by decide +kernel
theorem dX7_purges_66 : decode cX7_purges 66 = .ok (.imul, 1) := by decide +kernel
theorem dX7_purges_67 : decode cX7_purges 67 = .ok (.iload_n 3, 1) := by decide +kernel
theorem dX7_purges_68 : decode cX7_purges 68 = .ok (.iadd, 1) := by decide +kernel
theorem dX7_purges_69 : decode cX7_purges 69 = .ok (.iconst 0, 1) := by decide +kernel
theorem dX7_purges_70 : decode cX7_purges 70 = .ok (.iastore, 1) := by decide +kernel
theorem dX7_purges_71 : decode cX7_purges 71 = .ok (.iconst 0, 1) := by decide +kernel
theorem dX7_purges_72 : decode cX7_purges 72 = .ok (.istore 4, 2) := by decide +kernel
theorem dX7_purges_74 : decode cX7_purges 74 = .ok (.iload 4, 2) := by decide +kernel
theorem dX7_purges_76 : decode cX7_purges 76 = .ok (.aload_n 0, 1) := by decide +kernel
theorem dX7_purges_77 : decode cX7_purges 77 = .ok (.getfield 107, 3) := by decide +kernel
theorem dX7_purges_80 : decode cX7_purges 80 = .ok (.if_icmp .ge 71, 3) := by decide +kernel
theorem dX7_purges_83 : decode cX7_purges 83 = .ok (.aload_n 0, 1) := by decide +kernel
theorem dX7_purges_84 : decode cX7_purges 84 = .ok (.iload 4, 2) := by decide +kernel
theorem dX7_purges_86 : decode cX7_purges 86 = .ok (.iload_n 1, 1) := by decide +kernel
theorem dX7_purges_87 : decode cX7_purges 87 = .ok (.iload_n 3, 1) := by decide +kernel
theorem dX7_purges_88 : decode cX7_purges 88 = .ok (.invokevirtual 196, 3) := by decide +kernel
theorem dX7_purges_91 : decode cX7_purges 91 = .ok (.ifCond .eq 54, 3) := by decide +kernel
theorem dX7_purges_94 : decode cX7_purges 94 = .ok (.aload_n 0, 1) := by decide +kernel
theorem dX7_purges_95 : decode cX7_purges 95 = .ok (.iload 4, 2) := by decide +kernel
theorem dX7_purges_97 : decode cX7_purges 97 = .ok (.iload_n 1, 1) := by decide +kernel
theorem dX7_purges_98 : decode cX7_purges 98 = .ok (.iload_n 3, 1) := by decide +kernel
theorem dX7_purges_99 : decode cX7_purges 99 = .ok (.invokevirtual 212, 3) := by decide +kernel
theorem dX7_purges_102 : decode cX7_purges 102 = .ok (.ifCond .eq 43, 3) := by decide +kernel
theorem dX7_purges_105 : decode cX7_purges 105 = .ok (.aload_n 0, 1) := by decide +kernel
theorem dX7_purges_106 : decode cX7_purges 106 = .ok (.getfield 37, 3) := by decide +kernel
theorem dX7_purges_109 : decode cX7_purges 109 = .ok (.iload 4, 2) := by decide +kernel
theorem dX7_purges_111 : decode cX7_purges 111 = .ok (.iaload, 1) := by decide +kernel
theorem dX7_purges_112 : decode cX7_purges 112 = .ok (.istore 5, 2) := by decide +kernel
theorem dX7_purges_114 : decode cX7_purges 114 = .ok (.aload_n 0, 1) := by decide +kernel
theorem dX7_purges_115 : decode cX7_purges 115 = .ok (.getfield 52, 3) := by decide +kernel
theorem dX7_purges_118 : decode cX7_purges 118 = .ok (.iload 4, 2) := by decide +kernel
theorem dX7_purges_120 : decode cX7_purges 120 = .ok (.iconst 0, 1) := by decide +kernel
theorem dX7_purges_121 : decode cX7_purges 121 = .ok (.iastore, 1) := by decide +kernel
theorem dX7_purges_122 : decode cX7_purges 122 = .ok (.aload_n 0, 1) := by decide +kernel
theorem dX7_purges_123 : decode cX7_purges 123 = .ok (.iload_n 1, 1) := by decide +kernel
theorem dX7_purges_124 : decode cX7_purges 124 = .ok (.iload 5, 2) := by decide +kernel
theorem dX7_purges_126 : decode cX7_purges 126 = .ok (.invokevirtual 180, 3) := by decide +kernel
theorem dX7_purges_129 : decode cX7_purges 129 = .ok (.iinc 2 1, 3) := by decide +kernel
theorem dX7_purges_132 : decode cX7_purges 132 = .ok (.aload_n 0, 1) := by decide +kernel
theorem dX7_purges_133 : decode cX7_purges 133 = .ok (.iload_n 1, 1) := by decide +kernel
theorem dX7_purges_134 : decode cX7_purges 134 = .ok (.iload 5, 2) := by decide +kernel
theorem dX7_purges_136 : decode cX7_purges 136 = .ok (.i2l, 1) := by decide +kernel
theorem dX7_purges_137 : decode cX7_purges 137 = .ok (.invokevirtual 113, 3) := by decide +kernel
theorem dX7_purges_140 : decode cX7_purges 140 = .ok (.istore 4, 2) := by decide +kernel
theorem dX7_purges_142 : decode cX7_purges 142 = .ok (.goto (-68), 3) := by decide +kernel
theorem dX7_purges_145 : decode cX7_purges 145 = .ok (.iinc 4 1, 3) := by decide +kernel
theorem dX7_purges_148 : decode cX7_purges 148 = .ok (.goto (-74), 3) := by decide +kernel
theorem dX7_purges_151 : decode cX7_purges 151 = .ok (.iinc 3 1, 3) := by decide +kernel
theorem dX7_purges_154 : decode cX7_purges 154 = .ok (.goto (-140), 3) := by decide +kernel
theorem dX7_purges_157 : decode cX7_purges 157 = .ok (.iload_n 2, 1) := by decide +kernel
theorem dX7_purges_158 : decode cX7_purges 158 = .ok (.ireturn, 1) := by decide +kernel
theorem dX7_isWhole_0 : decode cX7_isWhole 0 = .ok (.iconst 0, 1) := by decide +kernel
theorem dX7_isWhole_1 : decode cX7_isWhole 1 = .ok (.istore 4, 2) := by decide +kernel
theorem dX7_isWhole_3 : decode cX7_isWhole 3 = .ok (.iload 4, 2) := by decide +kernel
theorem dX7_isWhole_5 : decode cX7_isWhole 5 = .ok (.aload_n 0, 1) := by decide +kernel
theorem dX7_isWhole_6 : decode cX7_isWhole 6 = .ok (.iload_n 2, 1) := by decide +kernel
theorem dX7_isWhole_7 : decode cX7_isWhole 7 = .ok (.iload_n 3, 1) := by decide +kernel
theorem dX7_isWhole_8 : decode cX7_isWhole 8 = .ok (.invokevirtual 200, 3) := by decide +kernel
theorem dX7_isWhole_11 : decode cX7_isWhole 11 = .ok (.if_icmp .ge 37, 3) := by decide +kernel
theorem dX7_isWhole_14 : decode cX7_isWhole 14 = .ok (.aload_n 0, 1) := by decide +kernel
theorem dX7_isWhole_15 : decode cX7_isWhole 15 = .ok (.iload_n 2, 1) := by decide +kernel
theorem dX7_isWhole_16 : decode cX7_isWhole 16 = .ok (.aload_n 0, 1) := by decide +kernel
theorem dX7_isWhole_17 : decode cX7_isWhole 17 = .ok (.getfield 37, 3) := by decide +kernel
theorem dX7_isWhole_20 : decode cX7_isWhole 20 = .ok (.iload_n 1, 1) := by decide +kernel
theorem dX7_isWhole_21 : decode cX7_isWhole 21 = .ok (.iaload, 1) := by decide +kernel
theorem dX7_isWhole_22 : decode cX7_isWhole 22 = .ok (.iload 4, 2) := by decide +kernel
theorem dX7_isWhole_24 : decode cX7_isWhole 24 = .ok (.iload_n 3, 1) := by decide +kernel
theorem dX7_isWhole_25 : decode cX7_isWhole 25 = .ok (.imul, 1) := by decide +kernel
theorem dX7_isWhole_26 : decode cX7_isWhole 26 = .ok (.aload_n 0, 1) := by decide +kernel
theorem dX7_isWhole_27 : decode cX7_isWhole 27 = .ok (.getfield 7, 3) := by decide +kernel
