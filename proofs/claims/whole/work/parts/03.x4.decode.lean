theorem dX7_isWhole_30 : decode cX7_isWhole 30 = .ok (.iload_n 2, 1) := by decide +kernel
theorem dX7_isWhole_31 : decode cX7_isWhole 31 = .ok (.iaload, 1) := by decide +kernel
theorem dX7_isWhole_32 : decode cX7_isWhole 32 = .ok (.imul, 1) := by decide +kernel
theorem dX7_isWhole_33 : decode cX7_isWhole 33 = .ok (.iadd, 1) := by decide +kernel
theorem dX7_isWhole_34 : decode cX7_isWhole 34 = .ok (.invokevirtual 186, 3) := by decide +kernel
theorem dX7_isWhole_37 : decode cX7_isWhole 37 = .ok (.ifCond .eq 5, 3) := by decide +kernel
theorem dX7_isWhole_40 : decode cX7_isWhole 40 = .ok (.iconst 0, 1) := by decide +kernel
theorem dX7_isWhole_41 : decode cX7_isWhole 41 = .ok (.ireturn, 1) := by decide +kernel
theorem dX7_isWhole_42 : decode cX7_isWhole 42 = .ok (.iinc 4 1, 3) := by decide +kernel
theorem dX7_isWhole_45 : decode cX7_isWhole 45 = .ok (.goto (-42), 3) := by decide +kernel
theorem dX7_isWhole_48 : decode cX7_isWhole 48 = .ok (.iconst 1, 1) := by decide +kernel
theorem dX7_isWhole_49 : decode cX7_isWhole 49 = .ok (.ireturn, 1) := by decide +kernel
theorem dX7_rounded_0 : decode cX7_rounded 0 = .ok (.aload_n 0, 1) := by decide +kernel
theorem dX7_rounded_1 : decode cX7_rounded 1 = .ok (.getfield 7, 3) := by decide +kernel
theorem dX7_rounded_4 : decode cX7_rounded 4 = .ok (.iload_n 1, 1) := by decide +kernel
theorem dX7_rounded_5 : decode cX7_rounded 5 = .ok (.iaload, 1) := by decide +kernel
theorem dX7_rounded_6 : decode cX7_rounded 6 = .ok (.i2l, 1) := by decide +kernel
theorem dX7_rounded_7 : decode cX7_rounded 7 = .ok (.lstore_n 3, 1) := by decide +kernel
theorem dX7_rounded_8 : decode cX7_rounded 8 = .ok (.iload_n 2, 1) := by decide +kernel
theorem dX7_rounded_9 : decode cX7_rounded 9 = .ok (.i2l, 1) := by decide +kernel
theorem dX7_rounded_10 : decode cX7_rounded 10 = .ok (.lload_n 3, 1) := by decide +kernel
theorem dX7_rounded_11 : decode cX7_rounded 11 = .ok (.ladd, 1) := by decide +kernel
theorem dX7_rounded_12 : decode cX7_rounded 12 = .ok (.lconst 1, 1) := by decide +kernel
theorem dX7_rounded_13 : decode cX7_rounded 13 = .ok (.lsub, 1) := by decide +kernel
theorem dX7_rounded_14 : decode cX7_rounded 14 = .ok (.lload_n 3, 1) := by decide +kernel
theorem dX7_rounded_15 : decode cX7_rounded 15 = .ok (.ldiv, 1) := by decide +kernel
theorem dX7_rounded_16 : decode cX7_rounded 16 = .ok (.lload_n 3, 1) := by decide +kernel
theorem dX7_rounded_17 : decode cX7_rounded 17 = .ok (.lmul, 1) := by decide +kernel
theorem dX7_rounded_18 : decode cX7_rounded 18 = .ok (.lreturn, 1) := by decide +kernel
theorem dX7_take_0 : decode cX7_take 0 = .ok (.aload_n 0, 1) := by decide +kernel
theorem dX7_take_1 : decode cX7_take 1 = .ok (.iload_n 1, 1) := by decide +kernel
theorem dX7_take_2 : decode cX7_take 2 = .ok (.invokevirtual 132, 3) := by decide +kernel
theorem dX7_take_5 : decode cX7_take 5 = .ok (.ifCond .ne 5, 3) := by decide +kernel
theorem dX7_take_8 : decode cX7_take 8 = .ok (.iconst 0, 1) := by decide +kernel
theorem dX7_take_9 : decode cX7_take 9 = .ok (.ireturn, 1) := by decide +kernel
theorem dX7_take_10 : decode cX7_take 10 = .ok (.aload_n 0, 1) := by decide +kernel
theorem dX7_take_11 : decode cX7_take 11 = .ok (.iload_n 2, 1) := by decide +kernel
theorem dX7_take_12 : decode cX7_take 12 = .ok (.ifCond .le 27, 3) := by decide +kernel
theorem dX7_take_15 : decode cX7_take 15 = .ok (.iload_n 3, 1) := by decide +kernel
theorem dX7_take_16 : decode cX7_take 16 = .ok (.ifCond .lt 23, 3) := by decide +kernel
theorem dX7_take_19 : decode cX7_take 19 = .ok (.iload_n 3, 1) := by decide +kernel
theorem dX7_take_20 : decode cX7_take 20 = .ok (.iconst 2, 1) := by decide +kernel
theorem dX7_take_21 : decode cX7_take 21 = .ok (.if_icmp .gt 18, 3) := by decide +kernel
theorem dX7_take_24 : decode cX7_take 24 = .ok (.iload 4, 2) := by decide +kernel
theorem dX7_take_26 : decode cX7_take 26 = .ok (.ifCond .eq 9, 3) := by decide +kernel
theorem dX7_take_29 : decode cX7_take 29 = .ok (.iload 4, 2) := by decide +kernel
theorem dX7_take_31 : decode cX7_take 31 = .ok (.iconst 1, 1) := by decide +kernel
theorem dX7_take_32 : decode cX7_take 32 = .ok (.if_icmp .ne 7, 3) := by decide +kernel
theorem dX7_take_35 : decode cX7_take 35 = .ok (.iconst 1, 1) := by decide +kernel
theorem dX7_take_36 : decode cX7_take 36 = .ok (.goto 4, 3) := by decide +kernel
theorem dX7_take_39 : decode cX7_take 39 = .ok (.iconst 0, 1) := by decide +kernel
theorem dX7_take_40 : decode cX7_take 40 = .ok (.iconst 2, 1) := by decide +kernel
theorem dX7_take_41 : decode cX7_take 41 = .ok (.invokevirtual 97, 3) := by decide +kernel
theorem dX7_take_44 : decode cX7_take 44 = .ok (.ifCond .ne 5, 3) := by decide +kernel
theorem dX7_take_47 : decode cX7_take 47 = .ok (.iconst 0, 1) := by decide +kernel
theorem dX7_take_48 : decode cX7_take 48 = .ok (.ireturn, 1) := by decide +kernel
theorem dX7_take_49 : decode cX7_take 49 = .ok (.aload_n 0, 1) := by decide +kernel
theorem dX7_take_50 : decode cX7_take 50 = .ok (.invokevirtual 135, 3) := by decide +kernel
theorem dX7_take_53 : decode cX7_take 53 = .ok (.bipush 40, 2) := by decide +kernel
theorem dX7_take_55 : decode cX7_take 55 = .ok (.if_icmp .ge 6, 3) := by decide +kernel
theorem dX7_take_58 : decode cX7_take 58 = .ok (.bipush (-2), 2) := by decide +kernel
theorem dX7_take_60 : decode cX7_take 60 = .ok (.ireturn, 1) := by decide +kernel
theorem dX7_take_61 : decode cX7_take 61 = .ok (.aload_n 0, 1) := by decide +kernel
theorem dX7_take_62 : decode cX7_take 62 = .ok (.iload_n 1, 1) := by decide +kernel
theorem dX7_take_63 : decode cX7_take 63 = .ok (.iload_n 2, 1) := by decide +kernel
theorem dX7_take_64 : decode cX7_take 64 = .ok (.invokevirtual 215, 3) := by decide +kernel
theorem dX7_take_67 : decode cX7_take 67 = .ok (.lstore 5, 2) := by decide +kernel
theorem dX7_take_69 : decode cX7_take 69 = .ok (.lload 5, 2) := by decide +kernel
theorem dX7_take_71 : decode cX7_take 71 = .ok (.aload_n 0, 1) := by decide +kernel
theorem dX7_take_72 : decode cX7_take 72 = .ok (.getfield 16, 3) := by decide +kernel
theorem dX7_take_75 : decode cX7_take 75 = .ok (.iload_n 1, 1) := by decide +kernel
theorem dX7_take_76 : decode cX7_take 76 = .ok (.iaload, 1) := by decide +kernel
theorem dX7_take_77 : decode cX7_take 77 = .ok (.i2l, 1) := by decide +kernel
theorem dX7_take_78 : decode cX7_take 78 = .ok (.aload_n 0, 1) := by decide +kernel
theorem dX7_take_79 : decode cX7_take 79 = .ok (.getfield 7, 3) := by decide +kernel
theorem dX7_take_82 : decode cX7_take 82 = .ok (.iload_n 1, 1) := by decide +kernel
theorem dX7_take_83 : decode cX7_take 83 = .ok (.iaload, 1) := by decide +kernel
theorem dX7_take_84 : decode cX7_take 84 = .ok (.i2l, 1) := by decide +kernel
theorem dX7_take_85 : decode cX7_take 85 = .ok (.lmul, 1) := by decide +kernel
theorem dX7_take_86 : decode cX7_take 86 = .ok (.lcmp, 1) := by decide +kernel
theorem dX7_take_87 : decode cX7_take 87 = .ok (.ifCond .le 13, 3) := by decide +kernel
theorem dX7_take_90 : decode cX7_take 90 = .ok (.aload_n 0, 1) := by decide +kernel
theorem dX7_take_91 : decode cX7_take 91 = .ok (.iload_n 1, 1) := by decide +kernel
theorem dX7_take_92 : decode cX7_take 92 = .ok (.lload 5, 2) := by decide +kernel
theorem dX7_take_94 : decode cX7_take 94 = .ok (.iload_n 3, 1) := by decide +kernel
theorem dX7_take_95 : decode cX7_take 95 = .ok (.iconst 1, 1) := by decide +kernel
theorem dX7_take_96 : decode cX7_take 96 = .ok (.invokevirtual 173, 3) := by decide +kernel
theorem dX7_take_99 : decode cX7_take 99 = .ok (.ireturn, 1) := by decide +kernel
theorem dX7_take_100 : decode cX7_take 100 = .ok (.aload_n 0, 1) := by decide +kernel
theorem dX7_take_101 : decode cX7_take 101 = .ok (.iload_n 1, 1) := by decide +kernel
theorem dX7_take_102 : decode cX7_take 102 = .ok (.lload 5, 2) := by decide +kernel
theorem dX7_take_104 : decode cX7_take 104 = .ok (.aload_n 0, 1) := by decide +kernel
theorem dX7_take_105 : decode cX7_take 105 = .ok (.getfield 7, 3) := by decide +kernel
theorem dX7_take_108 : decode cX7_take 108 = .ok (.iload_n 1, 1) := by decide +kernel
theorem dX7_take_109 : decode cX7_take 109 = .ok (.iaload, 1) := by decide +kernel
theorem dX7_take_110 : decode cX7_take 110 = .ok (.i2l, 1) := by decide +kernel
theorem dX7_take_111 : decode cX7_take 111 = .ok (.ldiv, 1) := by decide +kernel
theorem dX7_take_112 : decode cX7_take 112 = .ok (.l2i, 1) := by decide +kernel
theorem dX7_take_113 : decode cX7_take 113 = .ok (.iload 4, 2) := by decide +kernel
theorem dX7_take_115 : decode cX7_take 115 = .ok (.invokevirtual 219, 3) := by decide +kernel
theorem dX7_take_118 : decode cX7_take 118 = .ok (.istore 7, 2) := by decide +kernel
theorem dX7_take_120 : decode cX7_take 120 = .ok (.iload 7, 2) := by decide +kernel
theorem dX7_take_122 : decode cX7_take 122 = .ok (.iconst (-1), 1) := by decide +kernel
theorem dX7_take_123 : decode cX7_take 123 = .ok (.if_icmp .ne 5, 3) := by decide +kernel
theorem dX7_take_126 : decode cX7_take 126 = .ok (.iconst (-1), 1) := by decide +kernel
theorem dX7_take_127 : decode cX7_take 127 = .ok (.ireturn, 1) := by decide +kernel
theorem dX7_take_128 : decode cX7_take 128 = .ok (.aload_n 0, 1) := by decide +kernel
theorem dX7_take_129 : decode cX7_take 129 = .ok (.getfield 72, 3) := by decide +kernel
theorem dX7_take_132 : decode cX7_take 132 = .ok (.aload_n 0, 1) := by decide +kernel
theorem dX7_take_133 : decode cX7_take 133 = .ok (.getfield 183, 3) := by decide +kernel
theorem dX7_take_136 : decode cX7_take 136 = .ok (.iload_n 1, 1) := by decide +kernel
theorem dX7_take_137 : decode cX7_take 137 = .ok (.iastore, 1) := by decide +kernel
theorem dX7_take_138 : decode cX7_take 138 = .ok (.aload_n 0, 1) := by decide +kernel
theorem dX7_take_139 : decode cX7_take 139 = .ok (.getfield 75, 3) := by decide +kernel
theorem dX7_take_142 : decode cX7_take 142 = .ok (.aload_n 0, 1) := by decide +kernel
theorem dX7_take_143 : decode cX7_take 143 = .ok (.getfield 183, 3) := by decide +kernel
theorem dX7_take_146 : decode cX7_take 146 = .ok (.iload 7, 2) := by decide +kernel
theorem dX7_take_148 : decode cX7_take 148 = .ok (.iastore, 1) := by decide +kernel
theorem dX7_take_149 : decode cX7_take 149 = .ok (.aload_n 0, 1) := by decide +kernel
theorem dX7_take_150 : decode cX7_take 150 = .ok (.dup, 1) := by decide +kernel
theorem dX7_take_151 : decode cX7_take 151 = .ok (.getfield 183, 3) := by decide +kernel
theorem dX7_take_154 : decode cX7_take 154 = .ok (.iconst 1, 1) := by decide +kernel
theorem dX7_take_155 : decode cX7_take 155 = .ok (.iadd, 1) := by decide +kernel
theorem dX7_take_156 : decode cX7_take 156 = .ok (.putfield 183, 3) := by decide +kernel
theorem dX7_take_159 : decode cX7_take 159 = .ok (.iload 7, 2) := by decide +kernel
theorem dX7_take_161 : decode cX7_take 161 = .ok (.ireturn, 1) := by decide +kernel
theorem dX7_heldAt_0 : decode cX7_heldAt 0 = .ok (.aload_n 0, 1) := by decide +kernel
theorem dX7_heldAt_1 : decode cX7_heldAt 1 = .ok (.iload_n 1, 1) := by decide +kernel
theorem dX7_heldAt_2 : decode cX7_heldAt 2 = .ok (.iload_n 2, 1) := by decide +kernel
theorem dX7_heldAt_3 : decode cX7_heldAt 3 = .ok (.invokevirtual 222, 3) := by decide +kernel
theorem dX7_heldAt_6 : decode cX7_heldAt 6 = .ok (.istore 4, 2) := by decide +kernel
theorem dX7_heldAt_8 : decode cX7_heldAt 8 = .ok (.iload 4, 2) := by decide +kernel
theorem dX7_heldAt_10 : decode cX7_heldAt 10 = .ok (.iconst (-1), 1) := by decide +kernel
theorem dX7_heldAt_11 : decode cX7_heldAt 11 = .ok (.if_icmp .eq 35, 3) := by decide +kernel
theorem dX7_heldAt_14 : decode cX7_heldAt 14 = .ok (.aload_n 0, 1) := by decide +kernel
theorem dX7_heldAt_15 : decode cX7_heldAt 15 = .ok (.getfield 52, 3) := by decide +kernel
theorem dX7_heldAt_18 : decode cX7_heldAt 18 = .ok (.iload 4, 2) := by decide +kernel
theorem dX7_heldAt_20 : decode cX7_heldAt 20 = .ok (.iaload, 1) := by decide +kernel
theorem dX7_heldAt_21 : decode cX7_heldAt 21 = .ok (.iload_n 3, 1) := by decide +kernel
theorem dX7_heldAt_22 : decode cX7_heldAt 22 = .ok (.if_icmp .ne 24, 3) := by decide +kernel
theorem dX7_heldAt_25 : decode cX7_heldAt 25 = .ok (.iload_n 2, 1) := by decide +kernel
theorem dX7_heldAt_26 : decode cX7_heldAt 26 = .ok (.aload_n 0, 1) := by decide +kernel
theorem dX7_heldAt_27 : decode cX7_heldAt 27 = .ok (.getfield 37, 3) := by decide +kernel
theorem dX7_heldAt_30 : decode cX7_heldAt 30 = .ok (.iload 4, 2) := by decide +kernel
theorem dX7_heldAt_32 : decode cX7_heldAt 32 = .ok (.iaload, 1) := by decide +kernel
theorem dX7_heldAt_33 : decode cX7_heldAt 33 = .ok (.isub, 1) := by decide +kernel
theorem dX7_heldAt_34 : decode cX7_heldAt 34 = .ok (.iload_n 3, 1) := by decide +kernel
theorem dX7_heldAt_35 : decode cX7_heldAt 35 = .ok (.aload_n 0, 1) := by decide +kernel
theorem dX7_heldAt_36 : decode cX7_heldAt 36 = .ok (.getfield 7, 3) := by decide +kernel
theorem dX7_heldAt_39 : decode cX7_heldAt 39 = .ok (.iload_n 1, 1) := by decide +kernel
theorem dX7_heldAt_40 : decode cX7_heldAt 40 = .ok (.iaload, 1) := by decide +kernel
theorem dX7_heldAt_41 : decode cX7_heldAt 41 = .ok (.imul, 1) := by decide +kernel
theorem dX7_heldAt_42 : decode cX7_heldAt 42 = .ok (.irem, 1) := by decide +kernel
theorem dX7_heldAt_43 : decode cX7_heldAt 43 = .ok (.ifCond .eq 5, 3) := by decide +kernel
theorem dX7_heldAt_46 : decode cX7_heldAt 46 = .ok (.iconst (-1), 1) := by decide +kernel
theorem dX7_heldAt_47 : decode cX7_heldAt 47 = .ok (.ireturn, 1) := by decide +kernel
theorem dX7_heldAt_48 : decode cX7_heldAt 48 = .ok (.iconst 0, 1) := by decide +kernel
theorem dX7_heldAt_49 : decode cX7_heldAt 49 = .ok (.istore 5, 2) := by decide +kernel
theorem dX7_heldAt_51 : decode cX7_heldAt 51 = .ok (.iload 5, 2) := by decide +kernel
theorem dX7_heldAt_53 : decode cX7_heldAt 53 = .ok (.aload_n 0, 1) := by decide +kernel
theorem dX7_heldAt_54 : decode cX7_heldAt 54 = .ok (.getfield 183, 3) := by decide +kernel
theorem dX7_heldAt_57 : decode cX7_heldAt 57 = .ok (.if_icmp .ge 34, 3) := by decide +kernel
theorem dX7_heldAt_60 : decode cX7_heldAt 60 = .ok (.aload_n 0, 1) := by decide +kernel
theorem dX7_heldAt_61 : decode cX7_heldAt 61 = .ok (.getfield 72, 3) := by decide +kernel
theorem dX7_heldAt_64 : decode cX7_heldAt 64 = .ok (.iload 5, 2) := by decide +kernel
theorem dX7_heldAt_66 : decode cX7_heldAt 66 = .ok (.iaload, 1) := by decide +kernel
theorem dX7_heldAt_67 : decode cX7_heldAt 67 = .ok (.iload_n 1, 1) := by decide +kernel
theorem dX7_heldAt_68 : decode cX7_heldAt 68 = .ok (.if_icmp .ne 17, 3) := by decide +kernel
theorem dX7_heldAt_71 : decode cX7_heldAt 71 = .ok (.aload_n 0, 1) := by decide +kernel
theorem dX7_heldAt_72 : decode cX7_heldAt 72 = .ok (.getfield 75, 3) := by decide +kernel
theorem dX7_heldAt_75 : decode cX7_heldAt 75 = .ok (.iload 5, 2) := by decide +kernel
theorem dX7_heldAt_77 : decode cX7_heldAt 77 = .ok (.iaload, 1) := by decide +kernel
theorem dX7_heldAt_78 : decode cX7_heldAt 78 = .ok (.iload_n 2, 1) := by decide +kernel
theorem dX7_heldAt_79 : decode cX7_heldAt 79 = .ok (.if_icmp .ne 6, 3) := by decide +kernel
theorem dX7_heldAt_82 : decode cX7_heldAt 82 = .ok (.iload 5, 2) := by decide +kernel
theorem dX7_heldAt_84 : decode cX7_heldAt 84 = .ok (.ireturn, 1) := by decide +kernel
theorem dX7_heldAt_85 : decode cX7_heldAt 85 = .ok (.iinc 5 1, 3) := by decide +kernel
theorem dX7_heldAt_88 : decode cX7_heldAt 88 = .ok (.goto (-37), 3) := by decide +kernel
theorem dX7_heldAt_91 : decode cX7_heldAt 91 = .ok (.iconst (-1), 1) := by decide +kernel
theorem dX7_heldAt_92 : decode cX7_heldAt 92 = .ok (.ireturn, 1) := by decide +kernel
theorem dX7_slabAt_0 : decode cX7_slabAt 0 = .ok (.iconst 0, 1) := by decide +kernel
theorem dX7_slabAt_1 : decode cX7_slabAt 1 = .ok (.istore_n 3, 1) := by decide +kernel
theorem dX7_slabAt_2 : decode cX7_slabAt 2 = .ok (.iload_n 3, 1) := by decide +kernel
theorem dX7_slabAt_3 : decode cX7_slabAt 3 = .ok (.aload_n 0, 1) := by decide +kernel
theorem dX7_slabAt_4 : decode cX7_slabAt 4 = .ok (.getfield 107, 3) := by decide +kernel
theorem dX7_slabAt_7 : decode cX7_slabAt 7 = .ok (.if_icmp .ge 58, 3) := by decide +kernel
theorem dX7_slabAt_10 : decode cX7_slabAt 10 = .ok (.aload_n 0, 1) := by decide +kernel
theorem dX7_slabAt_11 : decode cX7_slabAt 11 = .ok (.getfield 34, 3) := by decide +kernel
theorem dX7_slabAt_14 : decode cX7_slabAt 14 = .ok (.iload_n 3, 1) := by decide +kernel
theorem dX7_slabAt_15 : decode cX7_slabAt 15 = .ok (.iaload, 1) := by decide +kernel
theorem dX7_slabAt_16 : decode cX7_slabAt 16 = .ok (.iload_n 1, 1) := by decide +kernel
theorem dX7_slabAt_17 : decode cX7_slabAt 17 = .ok (.if_icmp .ne 42, 3) := by decide +kernel
theorem dX7_slabAt_20 : decode cX7_slabAt 20 = .ok (.aload_n 0, 1) := by decide +kernel
theorem dX7_slabAt_21 : decode cX7_slabAt 21 = .ok (.getfield 43, 3) := by decide +kernel
theorem dX7_slabAt_24 : decode cX7_slabAt 24 = .ok (.iload_n 3, 1) := by decide +kernel
theorem dX7_slabAt_25 : decode cX7_slabAt 25 = .ok (.iaload, 1) := by decide +kernel
theorem dX7_slabAt_26 : decode cX7_slabAt 26 = .ok (.iconst 2, 1) := by decide +kernel
theorem dX7_slabAt_27 : decode cX7_slabAt 27 = .ok (.if_icmp .ne 32, 3) := by decide +kernel
theorem dX7_slabAt_30 : decode cX7_slabAt 30 = .ok (.aload_n 0, 1) := by decide +kernel
theorem dX7_slabAt_31 : decode cX7_slabAt 31 = .ok (.getfield 37, 3) := by decide +kernel
theorem dX7_slabAt_34 : decode cX7_slabAt 34 = .ok (.iload_n 3, 1) := by decide +kernel
theorem dX7_slabAt_35 : decode cX7_slabAt 35 = .ok (.iaload, 1) := by decide +kernel
theorem dX7_slabAt_36 : decode cX7_slabAt 36 = .ok (.iload_n 2, 1) := by decide +kernel
theorem dX7_slabAt_37 : decode cX7_slabAt 37 = .ok (.if_icmp .gt 22, 3) := by decide +kernel
theorem dX7_slabAt_40 : decode cX7_slabAt 40 = .ok (.iload_n 2, 1) := by decide +kernel
theorem dX7_slabAt_41 : decode cX7_slabAt 41 = .ok (.aload_n 0, 1) := by decide +kernel
theorem dX7_slabAt_42 : decode cX7_slabAt 42 = .ok (.getfield 37, 3) := by decide +kernel
theorem dX7_slabAt_45 : decode cX7_slabAt 45 = .ok (.iload_n 3, 1) := by decide +kernel
theorem dX7_slabAt_46 : decode cX7_slabAt 46 = .ok (.iaload, 1) := by decide +kernel
theorem dX7_slabAt_47 : decode cX7_slabAt 47 = .ok (.aload_n 0, 1) := by decide +kernel
theorem dX7_slabAt_48 : decode cX7_slabAt 48 = .ok (.getfield 40, 3) := by decide +kernel
theorem dX7_slabAt_51 : decode cX7_slabAt 51 = .ok (.iload_n 3, 1) := by decide +kernel
theorem dX7_slabAt_52 : decode cX7_slabAt 52 = .ok (.iaload, 1) := by decide +kernel
theorem dX7_slabAt_53 : decode cX7_slabAt 53 = .ok (.iadd, 1) := by decide +kernel
theorem dX7_slabAt_54 : decode cX7_slabAt 54 = .ok (.if_icmp .ge 5, 3) := by decide +kernel
theorem dX7_slabAt_57 : decode cX7_slabAt 57 = .ok (.iload_n 3, 1) := by decide +kernel
theorem dX7_slabAt_58 : decode cX7_slabAt 58 = .ok (.ireturn, 1) := by decide +kernel
theorem dX7_slabAt_59 : decode cX7_slabAt 59 = .ok (.iinc 3 1, 3) := by decide +kernel
theorem dX7_slabAt_62 : decode cX7_slabAt 62 = .ok (.goto (-60), 3) := by decide +kernel
theorem dX7_slabAt_65 : decode cX7_slabAt 65 = .ok (.iconst (-1), 1) := by decide +kernel
theorem dX7_slabAt_66 : decode cX7_slabAt 66 = .ok (.ireturn, 1) := by decide +kernel
theorem dX7_just_0 : decode cX7_just 0 = .ok (.aload_n 0, 1) := by decide +kernel
theorem dX7_just_1 : decode cX7_just 1 = .ok (.iload_n 1, 1) := by decide +kernel
theorem dX7_just_2 : decode cX7_just 2 = .ok (.iload_n 2, 1) := by decide +kernel
theorem dX7_just_3 : decode cX7_just 3 = .ok (.i2l, 1) := by decide +kernel
theorem dX7_just_4 : decode cX7_just 4 = .ok (.invokevirtual 113, 3) := by decide +kernel
theorem dX7_just_7 : decode cX7_just 7 = .ok (.istore 6, 2) := by decide +kernel
theorem dX7_just_9 : decode cX7_just 9 = .ok (.iload 6, 2) := by decide +kernel
theorem dX7_just_11 : decode cX7_just 11 = .ok (.aload_n 0, 1) := by decide +kernel
theorem dX7_just_12 : decode cX7_just 12 = .ok (.getfield 107, 3) := by decide +kernel
theorem dX7_just_15 : decode cX7_just 15 = .ok (.if_icmp .ge 55, 3) := by decide +kernel
theorem dX7_just_18 : decode cX7_just 18 = .ok (.aload_n 0, 1) := by decide +kernel
theorem dX7_just_19 : decode cX7_just 19 = .ok (.getfield 34, 3) := by decide +kernel
theorem dX7_just_22 : decode cX7_just 22 = .ok (.iload 6, 2) := by decide +kernel
theorem dX7_just_24 : decode cX7_just 24 = .ok (.iaload, 1) := by decide +kernel
theorem dX7_just_25 : decode cX7_just 25 = .ok (.iload_n 1, 1) := by decide +kernel
theorem dX7_just_26 : decode cX7_just 26 = .ok (.if_icmp .ne 44, 3) := by decide +kernel
theorem dX7_just_29 : decode cX7_just 29 = .ok (.aload_n 0, 1) := by decide +kernel
theorem dX7_just_30 : decode cX7_just 30 = .ok (.getfield 37, 3) := by decide +kernel
theorem dX7_just_33 : decode cX7_just 33 = .ok (.iload 6, 2) := by decide +kernel
theorem dX7_just_35 : decode cX7_just 35 = .ok (.iaload, 1) := by decide +kernel
theorem dX7_just_36 : decode cX7_just 36 = .ok (.iload_n 2, 1) := by decide +kernel
theorem dX7_just_37 : decode cX7_just 37 = .ok (.if_icmp .ne 33, 3) := by decide +kernel
theorem dX7_just_40 : decode cX7_just 40 = .ok (.aload_n 0, 1) := by decide +kernel
theorem dX7_just_41 : decode cX7_just 41 = .ok (.getfield 40, 3) := by decide +kernel
theorem dX7_just_44 : decode cX7_just 44 = .ok (.iload 6, 2) := by decide +kernel
theorem dX7_just_46 : decode cX7_just 46 = .ok (.iaload, 1) := by decide +kernel
theorem dX7_just_47 : decode cX7_just 47 = .ok (.i2l, 1) := by decide +kernel
theorem dX7_just_48 : decode cX7_just 48 = .ok (.lload_n 3, 1) := by decide +kernel
theorem dX7_just_49 : decode cX7_just 49 = .ok (.lcmp, 1) := by decide +kernel
theorem dX7_just_50 : decode cX7_just 50 = .ok (.ifCond .ne 20, 3) := by decide +kernel
theorem dX7_just_53 : decode cX7_just 53 = .ok (.aload_n 0, 1) := by decide +kernel
theorem dX7_just_54 : decode cX7_just 54 = .ok (.getfield 43, 3) := by decide +kernel
theorem dX7_just_57 : decode cX7_just 57 = .ok (.iload 6, 2) := by decide +kernel
theorem dX7_just_59 : decode cX7_just 59 = .ok (.iaload, 1) := by decide +kernel
theorem dX7_just_60 : decode cX7_just 60 = .ok (.iload 5, 2) := by decide +kernel
theorem dX7_just_62 : decode cX7_just 62 = .ok (.if_icmp .ne 8, 3) := by decide +kernel
theorem dX7_just_65 : decode cX7_just 65 = .ok (.iload 6, 2) := by decide +kernel
theorem dX7_just_67 : decode cX7_just 67 = .ok (.goto 4, 3) := by decide +kernel
theorem dX7_just_70 : decode cX7_just 70 = .ok (.iconst (-1), 1) := by decide +kernel
theorem dX7_just_71 : decode cX7_just 71 = .ok (.ireturn, 1) := by decide +kernel
theorem dX7_give_0 : decode cX7_give 0 = .ok (.aload_n 0, 1) := by decide +kernel
theorem dX7_give_1 : decode cX7_give 1 = .ok (.iload_n 1, 1) := by decide +kernel
theorem dX7_give_2 : decode cX7_give 2 = .ok (.invokevirtual 132, 3) := by decide +kernel
theorem dX7_give_5 : decode cX7_give 5 = .ok (.ifCond .ne 5, 3) := by decide +kernel
theorem dX7_give_8 : decode cX7_give 8 = .ok (.iconst 0, 1) := by decide +kernel
theorem dX7_give_9 : decode cX7_give 9 = .ok (.ireturn, 1) := by decide +kernel
theorem dX7_give_10 : decode cX7_give 10 = .ok (.aload_n 0, 1) := by decide +kernel
theorem dX7_give_11 : decode cX7_give 11 = .ok (.iload_n 3, 1) := by decide +kernel
theorem dX7_give_12 : decode cX7_give 12 = .ok (.ifCond .le 18, 3) := by decide +kernel
theorem dX7_give_15 : decode cX7_give 15 = .ok (.iload 4, 2) := by decide +kernel
theorem dX7_give_17 : decode cX7_give 17 = .ok (.ifCond .eq 9, 3) := by decide +kernel
theorem dX7_give_20 : decode cX7_give 20 = .ok (.iload 4, 2) := by decide +kernel
theorem dX7_give_22 : decode cX7_give 22 = .ok (.iconst 1, 1) := by decide +kernel
theorem dX7_give_23 : decode cX7_give 23 = .ok (.if_icmp .ne 7, 3) := by decide +kernel
theorem dX7_give_26 : decode cX7_give 26 = .ok (.iconst 1, 1) := by decide +kernel
theorem dX7_give_27 : decode cX7_give 27 = .ok (.goto 4, 3) := by decide +kernel
theorem dX7_give_30 : decode cX7_give 30 = .ok (.iconst 0, 1) := by decide +kernel
theorem dX7_give_31 : decode cX7_give 31 = .ok (.iconst 2, 1) := by decide +kernel
theorem dX7_give_32 : decode cX7_give 32 = .ok (.invokevirtual 97, 3) := by decide +kernel
theorem dX7_give_35 : decode cX7_give 35 = .ok (.ifCond .ne 5, 3) := by decide +kernel
theorem dX7_give_38 : decode cX7_give 38 = .ok (.iconst 0, 1) := by decide +kernel
theorem dX7_give_39 : decode cX7_give 39 = .ok (.ireturn, 1) := by decide +kernel
theorem dX7_give_40 : decode cX7_give 40 = .ok (.aload_n 0, 1) := by decide +kernel
theorem dX7_give_41 : decode cX7_give 41 = .ok (.iload_n 1, 1) := by decide +kernel
theorem dX7_give_42 : decode cX7_give 42 = .ok (.iload_n 3, 1) := by decide +kernel
theorem dX7_give_43 : decode cX7_give 43 = .ok (.invokevirtual 215, 3) := by decide +kernel
theorem dX7_give_46 : decode cX7_give 46 = .ok (.lstore 5, 2) := by decide +kernel
theorem dX7_give_48 : decode cX7_give 48 = .ok (.lload 5, 2) := by decide +kernel
theorem dX7_give_50 : decode cX7_give 50 = .ok (.aload_n 0, 1) := by decide +kernel
theorem dX7_give_51 : decode cX7_give 51 = .ok (.getfield 16, 3) := by decide +kernel
theorem dX7_give_54 : decode cX7_give 54 = .ok (.iload_n 1, 1) := by decide +kernel
theorem dX7_give_55 : decode cX7_give 55 = .ok (.iaload, 1) := by decide +kernel
theorem dX7_give_56 : decode cX7_give 56 = .ok (.i2l, 1) := by decide +kernel
theorem dX7_give_57 : decode cX7_give 57 = .ok (.aload_n 0, 1) := by decide +kernel
theorem dX7_give_58 : decode cX7_give 58 = .ok (.getfield 7, 3) := by decide +kernel
theorem dX7_give_61 : decode cX7_give 61 = .ok (.iload_n 1, 1) := by decide +kernel
theorem dX7_give_62 : decode cX7_give 62 = .ok (.iaload, 1) := by decide +kernel
theorem dX7_give_63 : decode cX7_give 63 = .ok (.i2l, 1) := by decide +kernel
theorem dX7_give_64 : decode cX7_give 64 = .ok (.lmul, 1) := by decide +kernel
theorem dX7_give_65 : decode cX7_give 65 = .ok (.lcmp, 1) := by decide +kernel
theorem dX7_give_66 : decode cX7_give 66 = .ok (.ifCond .le 37, 3) := by decide +kernel
theorem dX7_give_69 : decode cX7_give 69 = .ok (.aload_n 0, 1) := by decide +kernel
theorem dX7_give_70 : decode cX7_give 70 = .ok (.aload_n 0, 1) := by decide +kernel
theorem dX7_give_71 : decode cX7_give 71 = .ok (.iload_n 1, 1) := by decide +kernel
theorem dX7_give_72 : decode cX7_give 72 = .ok (.iload_n 2, 1) := by decide +kernel
theorem dX7_give_73 : decode cX7_give 73 = .ok (.lload 5, 2) := by decide +kernel
theorem dX7_give_75 : decode cX7_give 75 = .ok (.iconst 1, 1) := by decide +kernel
theorem dX7_give_76 : decode cX7_give 76 = .ok (.invokevirtual 225, 3) := by decide +kernel
theorem dX7_give_79 : decode cX7_give 79 = .ok (.iconst (-1), 1) := by decide +kernel
theorem dX7_give_80 : decode cX7_give 80 = .ok (.if_icmp .eq 7, 3) := by decide +kernel
theorem dX7_give_83 : decode cX7_give 83 = .ok (.iconst 1, 1) := by decide +kernel
theorem dX7_give_84 : decode cX7_give 84 = .ok (.goto 4, 3) := by decide +kernel
theorem dX7_give_87 : decode cX7_give 87 = .ok (.iconst 0, 1) := by decide +kernel
theorem dX7_give_88 : decode cX7_give 88 = .ok (.iconst 2, 1) := by decide +kernel
theorem dX7_give_89 : decode cX7_give 89 = .ok (.invokevirtual 97, 3) := by decide +kernel
theorem dX7_give_92 : decode cX7_give 92 = .ok (.ifCond .eq 9, 3) := by decide +kernel
theorem dX7_give_95 : decode cX7_give 95 = .ok (.aload_n 0, 1) := by decide +kernel
theorem dX7_give_96 : decode cX7_give 96 = .ok (.iload_n 1, 1) := by decide +kernel
theorem dX7_give_97 : decode cX7_give 97 = .ok (.iload_n 2, 1) := by decide +kernel
theorem dX7_give_98 : decode cX7_give 98 = .ok (.invokevirtual 180, 3) := by decide +kernel
theorem dX7_give_101 : decode cX7_give 101 = .ok (.iconst 0, 1) := by decide +kernel
theorem dX7_give_102 : decode cX7_give 102 = .ok (.ireturn, 1) := by decide +kernel
theorem dX7_give_103 : decode cX7_give 103 = .ok (.lload 5, 2) := by decide +kernel
theorem dX7_give_105 : decode cX7_give 105 = .ok (.aload_n 0, 1) := by decide +kernel
theorem dX7_give_106 : decode cX7_give 106 = .ok (.getfield 7, 3) := by decide +kernel
theorem dX7_give_109 : decode cX7_give 109 = .ok (.iload_n 1, 1) := by decide +kernel
theorem dX7_give_110 : decode cX7_give 110 = .ok (.iaload, 1) := by decide +kernel
theorem dX7_give_111 : decode cX7_give 111 = .ok (.i2l, 1) := by decide +kernel
theorem dX7_give_112 : decode cX7_give 112 = .ok (.ldiv, 1) := by decide +kernel
theorem dX7_give_113 : decode cX7_give 113 = .ok (.l2i, 1) := by decide +kernel
theorem dX7_give_114 : decode cX7_give 114 = .ok (.istore 7, 2) := by decide +kernel
theorem dX7_give_116 : decode cX7_give 116 = .ok (.aload_n 0, 1) := by decide +kernel
theorem dX7_give_117 : decode cX7_give 117 = .ok (.iload_n 1, 1) := by decide +kernel
theorem dX7_give_118 : decode cX7_give 118 = .ok (.iload_n 2, 1) := by decide +kernel
theorem dX7_give_119 : decode cX7_give 119 = .ok (.iload 7, 2) := by decide +kernel
theorem dX7_give_121 : decode cX7_give 121 = .ok (.invokevirtual 229, 3) := by decide +kernel
theorem dX7_give_124 : decode cX7_give 124 = .ok (.istore 8, 2) := by decide +kernel
theorem dX7_give_126 : decode cX7_give 126 = .ok (.aload_n 0, 1) := by decide +kernel
theorem dX7_give_127 : decode cX7_give 127 = .ok (.iload 8, 2) := by decide +kernel
theorem dX7_give_129 : decode cX7_give 129 = .ok (.iconst (-1), 1) := by decide +kernel
theorem dX7_give_130 : decode cX7_give 130 = .ok (.if_icmp .eq 7, 3) := by decide +kernel
theorem dX7_give_133 : decode cX7_give 133 = .ok (.iconst 1, 1) := by decide +kernel
theorem dX7_give_134 : decode cX7_give 134 = .ok (.goto 4, 3) := by decide +kernel
theorem dX7_give_137 : decode cX7_give 137 = .ok (.iconst 0, 1) := by decide +kernel
theorem dX7_give_138 : decode cX7_give 138 = .ok (.iconst 2, 1) := by decide +kernel
theorem dX7_give_139 : decode cX7_give 139 = .ok (.invokevirtual 97, 3) := by decide +kernel
theorem dX7_give_142 : decode cX7_give 142 = .ok (.ifCond .ne 5, 3) := by decide +kernel
theorem dX7_give_145 : decode cX7_give 145 = .ok (.iconst 0, 1) := by decide +kernel
theorem dX7_give_146 : decode cX7_give 146 = .ok (.ireturn, 1) := by decide +kernel
theorem dX7_give_147 : decode cX7_give 147 = .ok (.aload_n 0, 1) := by decide +kernel
theorem dX7_give_148 : decode cX7_give 148 = .ok (.dup, 1) := by decide +kernel
theorem dX7_give_149 : decode cX7_give 149 = .ok (.getfield 183, 3) := by decide +kernel
theorem dX7_give_152 : decode cX7_give 152 = .ok (.iconst 1, 1) := by decide +kernel
theorem dX7_give_153 : decode cX7_give 153 = .ok (.isub, 1) := by decide +kernel
theorem dX7_give_154 : decode cX7_give 154 = .ok (.putfield 183, 3) := by decide +kernel
theorem dX7_give_157 : decode cX7_give 157 = .ok (.aload_n 0, 1) := by decide +kernel
theorem dX7_give_158 : decode cX7_give 158 = .ok (.getfield 72, 3) := by decide +kernel
theorem dX7_give_161 : decode cX7_give 161 = .ok (.iload 8, 2) := by decide +kernel
theorem dX7_give_163 : decode cX7_give 163 = .ok (.aload_n 0, 1) := by decide +kernel
theorem dX7_give_164 : decode cX7_give 164 = .ok (.getfield 72, 3) := by decide +kernel
theorem dX7_give_167 : decode cX7_give 167 = .ok (.aload_n 0, 1) := by decide +kernel
theorem dX7_give_168 : decode cX7_give 168 = .ok (.getfield 183, 3) := by decide +kernel
theorem dX7_give_171 : decode cX7_give 171 = .ok (.iaload, 1) := by decide +kernel
theorem dX7_give_172 : decode cX7_give 172 = .ok (.iastore, 1) := by decide +kernel
theorem dX7_give_173 : decode cX7_give 173 = .ok (.aload_n 0, 1) := by decide +kernel
theorem dX7_give_174 : decode cX7_give 174 = .ok (.getfield 75, 3) := by decide +kernel
theorem dX7_give_177 : decode cX7_give 177 = .ok (.iload 8, 2) := by decide +kernel
theorem dX7_give_179 : decode cX7_give 179 = .ok (.aload_n 0, 1) := by decide +kernel
theorem dX7_give_180 : decode cX7_give 180 = .ok (.getfield 75, 3) := by decide +kernel
theorem dX7_give_183 : decode cX7_give 183 = .ok (.aload_n 0, 1) := by decide +kernel
theorem dX7_give_184 : decode cX7_give 184 = .ok (.getfield 183, 3) := by decide +kernel
theorem dX7_give_187 : decode cX7_give 187 = .ok (.iaload, 1) := by decide +kernel
theorem dX7_give_188 : decode cX7_give 188 = .ok (.iastore, 1) := by decide +kernel
theorem dX7_give_189 : decode cX7_give 189 = .ok (.aload_n 0, 1) := by decide +kernel
theorem dX7_give_190 : decode cX7_give 190 = .ok (.iload_n 1, 1) := by decide +kernel
theorem dX7_give_191 : decode cX7_give 191 = .ok (.iload 7, 2) := by decide +kernel
theorem dX7_give_193 : decode cX7_give 193 = .ok (.iload 4, 2) := by decide +kernel
theorem dX7_give_195 : decode cX7_give 195 = .ok (.iload_n 2, 1) := by decide +kernel
theorem dX7_give_196 : decode cX7_give 196 = .ok (.invokevirtual 232, 3) := by decide +kernel
theorem dX7_give_199 : decode cX7_give 199 = .ok (.iconst 0, 1) := by decide +kernel
theorem dX7_give_200 : decode cX7_give 200 = .ok (.ireturn, 1) := by decide +kernel
theorem dX7_within_0 : decode cX7_within 0 = .ok (.aload_n 0, 1) := by decide +kernel
theorem dX7_within_1 : decode cX7_within 1 = .ok (.getfield 34, 3) := by decide +kernel
theorem dX7_within_4 : decode cX7_within 4 = .ok (.iload_n 1, 1) := by decide +kernel
theorem dX7_within_5 : decode cX7_within 5 = .ok (.iaload, 1) := by decide +kernel
theorem dX7_within_6 : decode cX7_within 6 = .ok (.istore 10, 2) := by decide +kernel
theorem dX7_within_8 : decode cX7_within 8 = .ok (.aload_n 0, 1) := by decide +kernel
theorem dX7_within_9 : decode cX7_within 9 = .ok (.getfield 37, 3) := by decide +kernel
theorem dX7_within_12 : decode cX7_within 12 = .ok (.iload_n 1, 1) := by decide +kernel
theorem dX7_within_13 : decode cX7_within 13 = .ok (.iaload, 1) := by decide +kernel
theorem dX7_within_14 : decode cX7_within 14 = .ok (.aload_n 0, 1) := by decide +kernel
theorem dX7_within_15 : decode cX7_within 15 = .ok (.getfield 22, 3) := by decide +kernel
theorem dX7_within_18 : decode cX7_within 18 = .ok (.iload 10, 2) := by decide +kernel
theorem dX7_within_20 : decode cX7_within 20 = .ok (.iaload, 1) := by decide +kernel
theorem dX7_within_21 : decode cX7_within 21 = .ok (.invokestatic 236, 3) := by decide +kernel
theorem dX7_within_24 : decode cX7_within 24 = .ok (.i2l, 1) := by decide +kernel
theorem dX7_within_25 : decode cX7_within 25 = .ok (.lstore 11, 2) := by decide +kernel
theorem dX7_within_27 : decode cX7_within 27 = .ok (.aload_n 0, 1) := by decide +kernel
theorem dX7_within_28 : decode cX7_within 28 = .ok (.getfield 37, 3) := by decide +kernel
theorem dX7_within_31 : decode cX7_within 31 = .ok (.iload_n 1, 1) := by decide +kernel
theorem dX7_within_32 : decode cX7_within 32 = .ok (.iaload, 1) := by decide +kernel
theorem dX7_within_33 : decode cX7_within 33 = .ok (.i2l, 1) := by decide +kernel
theorem dX7_within_34 : decode cX7_within 34 = .ok (.aload_n 0, 1) := by decide +kernel
theorem dX7_within_35 : decode cX7_within 35 = .ok (.getfield 40, 3) := by decide +kernel
theorem dX7_within_38 : decode cX7_within 38 = .ok (.iload_n 1, 1) := by decide +kernel
theorem dX7_within_39 : decode cX7_within 39 = .ok (.iaload, 1) := by decide +kernel
theorem dX7_within_40 : decode cX7_within 40 = .ok (.i2l, 1) := by decide +kernel
theorem dX7_within_41 : decode cX7_within 41 = .ok (.ladd, 1) := by decide +kernel
theorem dX7_within_42 : decode cX7_within 42 = .ok (.aload_n 0, 1) := by decide +kernel
theorem dX7_within_43 : decode cX7_within 43 = .ok (.getfield 25, 3) := by decide +kernel
theorem dX7_within_46 : decode cX7_within 46 = .ok (.iload 10, 2) := by decide +kernel
theorem dX7_within_48 : decode cX7_within 48 = .ok (.iaload, 1) := by decide +kernel
theorem dX7_within_49 : decode cX7_within 49 = .ok (.i2l, 1) := by decide +kernel
theorem dX7_within_50 : decode cX7_within 50 = .ok (.invokestatic 241, 3) := by decide +kernel
theorem dX7_within_53 : decode cX7_within 53 = .ok (.lstore 13, 2) := by decide +kernel
theorem dX7_within_55 : decode cX7_within 55 = .ok (.lload 11, 2) := by decide +kernel
theorem dX7_within_57 : decode cX7_within 57 = .ok (.lload 6, 2) := by decide +kernel
theorem dX7_within_59 : decode cX7_within 59 = .ok (.lsub, 1) := by decide +kernel
theorem dX7_within_60 : decode cX7_within 60 = .ok (.lload 4, 2) := by decide +kernel
theorem dX7_within_62 : decode cX7_within 62 = .ok (.ladd, 1) := by decide +kernel
theorem dX7_within_63 : decode cX7_within 63 = .ok (.lconst 1, 1) := by decide +kernel
theorem dX7_within_64 : decode cX7_within 64 = .ok (.lsub, 1) := by decide +kernel
theorem dX7_within_65 : decode cX7_within 65 = .ok (.lload 4, 2) := by decide +kernel
theorem dX7_within_67 : decode cX7_within 67 = .ok (.ldiv, 1) := by decide +kernel
theorem dX7_within_68 : decode cX7_within 68 = .ok (.lload 4, 2) := by decide +kernel
theorem dX7_within_70 : decode cX7_within 70 = .ok (.lmul, 1) := by decide +kernel
theorem dX7_within_71 : decode cX7_within 71 = .ok (.lload 6, 2) := by decide +kernel
theorem dX7_within_73 : decode cX7_within 73 = .ok (.ladd, 1) := by decide +kernel
theorem dX7_within_74 : decode cX7_within 74 = .ok (.lstore 15, 2) := by decide +kernel
theorem dX7_within_76 : decode cX7_within 76 = .ok (.lload 11, 2) := by decide +kernel
theorem dX7_within_78 : decode cX7_within 78 = .ok (.lload 6, 2) := by decide +kernel
theorem dX7_within_80 : decode cX7_within 80 = .ok (.lcmp, 1) := by decide +kernel
theorem dX7_within_81 : decode cX7_within 81 = .ok (.ifCond .gt 7, 3) := by decide +kernel
theorem dX7_within_84 : decode cX7_within 84 = .ok (.lload 6, 2) := by decide +kernel
theorem dX7_within_86 : decode cX7_within 86 = .ok (.lstore 15, 2) := by decide +kernel
theorem dX7_within_88 : decode cX7_within 88 = .ok (.lload 8, 2) := by decide +kernel
theorem dX7_within_90 : decode cX7_within 90 = .ok (.lconst 0, 1) := by decide +kernel
theorem dX7_within_91 : decode cX7_within 91 = .ok (.lcmp, 1) := by decide +kernel
theorem dX7_within_92 : decode cX7_within 92 = .ok (.ifCond .eq 88, 3) := by decide +kernel
theorem dX7_within_95 : decode cX7_within 95 = .ok (.lload 15, 2) := by decide +kernel
theorem dX7_within_97 : decode cX7_within 97 = .ok (.lload 8, 2) := by decide +kernel
theorem dX7_within_99 : decode cX7_within 99 = .ok (.ldiv, 1) := by decide +kernel
theorem dX7_within_100 : decode cX7_within 100 = .ok (.lload 15, 2) := by decide +kernel
theorem dX7_within_102 : decode cX7_within 102 = .ok (.lload_n 2, 1) := by decide +kernel
theorem dX7_within_103 : decode cX7_within 103 = .ok (.ladd, 1) := by decide +kernel
theorem dX7_within_104 : decode cX7_within 104 = .ok (.lconst 1, 1) := by decide +kernel
theorem dX7_within_105 : decode cX7_within 105 = .ok (.lsub, 1) := by decide +kernel
theorem dX7_within_106 : decode cX7_within 106 = .ok (.lload 8, 2) := by decide +kernel
theorem dX7_within_108 : decode cX7_within 108 = .ok (.ldiv, 1) := by decide +kernel
theorem dX7_within_109 : decode cX7_within 109 = .ok (.lcmp, 1) := by decide +kernel
theorem dX7_within_110 : decode cX7_within 110 = .ok (.ifCond .eq 70, 3) := by decide +kernel
theorem dX7_within_113 : decode cX7_within 113 = .ok (.lload 15, 2) := by decide +kernel
theorem dX7_within_115 : decode cX7_within 115 = .ok (.lload 8, 2) := by decide +kernel
theorem dX7_within_117 : decode cX7_within 117 = .ok (.ldiv, 1) := by decide +kernel
theorem dX7_within_118 : decode cX7_within 118 = .ok (.lconst 1, 1) := by decide +kernel
theorem dX7_within_119 : decode cX7_within 119 = .ok (.ladd, 1) := by decide +kernel
theorem dX7_within_120 : decode cX7_within 120 = .ok (.lload 8, 2) := by decide +kernel
theorem dX7_within_122 : decode cX7_within 122 = .ok (.lmul, 1) := by decide +kernel
theorem dX7_within_123 : decode cX7_within 123 = .ok (.lstore 17, 2) := by decide +kernel
theorem dX7_within_125 : decode cX7_within 125 = .ok (.lload 17, 2) := by decide +kernel
theorem dX7_within_127 : decode cX7_within 127 = .ok (.lload 6, 2) := by decide +kernel
theorem dX7_within_129 : decode cX7_within 129 = .ok (.lsub, 1) := by decide +kernel
theorem dX7_within_130 : decode cX7_within 130 = .ok (.lload 4, 2) := by decide +kernel
theorem dX7_within_132 : decode cX7_within 132 = .ok (.ladd, 1) := by decide +kernel
theorem dX7_within_133 : decode cX7_within 133 = .ok (.lconst 1, 1) := by decide +kernel
theorem dX7_within_134 : decode cX7_within 134 = .ok (.lsub, 1) := by decide +kernel
theorem dX7_within_135 : decode cX7_within 135 = .ok (.lload 4, 2) := by decide +kernel
theorem dX7_within_137 : decode cX7_within 137 = .ok (.ldiv, 1) := by decide +kernel
theorem dX7_within_138 : decode cX7_within 138 = .ok (.lload 4, 2) := by decide +kernel
theorem dX7_within_140 : decode cX7_within 140 = .ok (.lmul, 1) := by decide +kernel
theorem dX7_within_141 : decode cX7_within 141 = .ok (.lload 6, 2) := by decide +kernel
theorem dX7_within_143 : decode cX7_within 143 = .ok (.ladd, 1) := by decide +kernel
theorem dX7_within_144 : decode cX7_within 144 = .ok (.lstore 15, 2) := by decide +kernel
theorem dX7_within_146 : decode cX7_within 146 = .ok (.lload 17, 2) := by decide +kernel
theorem dX7_within_148 : decode cX7_within 148 = .ok (.lload 6, 2) := by decide +kernel
theorem dX7_within_150 : decode cX7_within 150 = .ok (.lcmp, 1) := by decide +kernel
theorem dX7_within_151 : decode cX7_within 151 = .ok (.ifCond .gt 7, 3) := by decide +kernel
theorem dX7_within_154 : decode cX7_within 154 = .ok (.lload 6, 2) := by decide +kernel
theorem dX7_within_156 : decode cX7_within 156 = .ok (.lstore 15, 2) := by decide +kernel
theorem dX7_within_158 : decode cX7_within 158 = .ok (.lload 15, 2) := by decide +kernel
theorem dX7_within_160 : decode cX7_within 160 = .ok (.lload 8, 2) := by decide +kernel
theorem dX7_within_162 : decode cX7_within 162 = .ok (.ldiv, 1) := by decide +kernel
theorem dX7_within_163 : decode cX7_within 163 = .ok (.lload 15, 2) := by decide +kernel
theorem dX7_within_165 : decode cX7_within 165 = .ok (.lload_n 2, 1) := by decide +kernel
theorem dX7_within_166 : decode cX7_within 166 = .ok (.ladd, 1) := by decide +kernel
theorem dX7_within_167 : decode cX7_within 167 = .ok (.lconst 1, 1) := by decide +kernel
theorem dX7_within_168 : decode cX7_within 168 = .ok (.lsub, 1) := by decide +kernel
theorem dX7_within_169 : decode cX7_within 169 = .ok (.lload 8, 2) := by decide +kernel
theorem dX7_within_171 : decode cX7_within 171 = .ok (.ldiv, 1) := by decide +kernel
theorem dX7_within_172 : decode cX7_within 172 = .ok (.lcmp, 1) := by decide +kernel
theorem dX7_within_173 : decode cX7_within 173 = .ok (.ifCond .eq 7, 3) := by decide +kernel
theorem dX7_within_176 : decode cX7_within 176 = .ok (.ldc2_w 245, 3) := by decide +kernel
theorem dX7_within_179 : decode cX7_within 179 = .ok (.lreturn, 1) := by decide +kernel
theorem dX7_within_180 : decode cX7_within 180 = .ok (.lload 15, 2) := by decide +kernel
theorem dX7_within_182 : decode cX7_within 182 = .ok (.lload_n 2, 1) := by decide +kernel
theorem dX7_within_183 : decode cX7_within 183 = .ok (.ladd, 1) := by decide +kernel
theorem dX7_within_184 : decode cX7_within 184 = .ok (.lload 13, 2) := by decide +kernel
theorem dX7_within_186 : decode cX7_within 186 = .ok (.lcmp, 1) := by decide +kernel
theorem dX7_within_187 : decode cX7_within 187 = .ok (.ifCond .gt 8, 3) := by decide +kernel
theorem dX7_within_190 : decode cX7_within 190 = .ok (.lload 15, 2) := by decide +kernel
theorem dX7_within_192 : decode cX7_within 192 = .ok (.goto 6, 3) := by decide +kernel
theorem dX7_within_195 : decode cX7_within 195 = .ok (.ldc2_w 245, 3) := by decide +kernel
theorem dX7_within_198 : decode cX7_within 198 = .ok (.lreturn, 1) := by decide +kernel
theorem dX7_narrow_0 : decode cX7_narrow 0 = .ok (.iconst (-1), 1) := by decide +kernel
theorem dX7_narrow_1 : decode cX7_narrow 1 = .ok (.istore 7, 2) := by decide +kernel
theorem dX7_narrow_3 : decode cX7_narrow 3 = .ok (.iconst 0, 1) := by decide +kernel
theorem dX7_narrow_4 : decode cX7_narrow 4 = .ok (.istore 8, 2) := by decide +kernel
theorem dX7_narrow_6 : decode cX7_narrow 6 = .ok (.iload 8, 2) := by decide +kernel
theorem dX7_narrow_8 : decode cX7_narrow 8 = .ok (.aload_n 0, 1) := by decide +kernel
theorem dX7_narrow_9 : decode cX7_narrow 9 = .ok (.getfield 107, 3) := by decide +kernel
theorem dX7_narrow_12 : decode cX7_narrow 12 = .ok (.if_icmp .ge 96, 3) := by decide +kernel
theorem dX7_narrow_15 : decode cX7_narrow 15 = .ok (.aload_n 0, 1) := by decide +kernel
theorem dX7_narrow_16 : decode cX7_narrow 16 = .ok (.getfield 34, 3) := by decide +kernel
theorem dX7_narrow_19 : decode cX7_narrow 19 = .ok (.iload 8, 2) := by decide +kernel
theorem dX7_narrow_21 : decode cX7_narrow 21 = .ok (.iaload, 1) := by decide +kernel
theorem dX7_narrow_22 : decode cX7_narrow 22 = .ok (.iload_n 1, 1) := by decide +kernel
theorem dX7_narrow_23 : decode cX7_narrow 23 = .ok (.if_icmp .ne 79, 3) := by decide +kernel
theorem dX7_narrow_26 : decode cX7_narrow 26 = .ok (.aload_n 0, 1) := by decide +kernel
theorem dX7_narrow_27 : decode cX7_narrow 27 = .ok (.getfield 43, 3) := by decide +kernel
theorem dX7_narrow_30 : decode cX7_narrow 30 = .ok (.iload 8, 2) := by decide +kernel
theorem dX7_narrow_32 : decode cX7_narrow 32 = .ok (.iaload, 1) := by decide +kernel
theorem dX7_narrow_33 : decode cX7_narrow 33 = .ok (.ifCond .ne 69, 3) := by decide +kernel
theorem dX7_narrow_36 : decode cX7_narrow 36 = .ok (.aload_n 0, 1) := by decide +kernel
theorem dX7_narrow_37 : decode cX7_narrow 37 = .ok (.getfield 40, 3) := by decide +kernel
theorem dX7_narrow_40 : decode cX7_narrow 40 = .ok (.iload 8, 2) := by decide +kernel
theorem dX7_narrow_42 : decode cX7_narrow 42 = .ok (.iaload, 1) := by decide +kernel
theorem dX7_narrow_43 : decode cX7_narrow 43 = .ok (.i2l, 1) := by decide +kernel
theorem dX7_narrow_44 : decode cX7_narrow 44 = .ok (.lload_n 2, 1) := by decide +kernel
theorem dX7_narrow_45 : decode cX7_narrow 45 = .ok (.lcmp, 1) := by decide +kernel
theorem dX7_narrow_46 : decode cX7_narrow 46 = .ok (.ifCond .lt 56, 3) := by decide +kernel
theorem dX7_narrow_49 : decode cX7_narrow 49 = .ok (.iload 7, 2) := by decide +kernel
theorem dX7_narrow_51 : decode cX7_narrow 51 = .ok (.iconst (-1), 1) := by decide +kernel
theorem dX7_narrow_52 : decode cX7_narrow 52 = .ok (.if_icmp .eq 23, 3) := by decide +kernel
theorem dX7_narrow_55 : decode cX7_narrow 55 = .ok (.aload_n 0, 1) := by decide +kernel
theorem dX7_narrow_56 : decode cX7_narrow 56 = .ok (.getfield 40, 3) := by decide +kernel
theorem dX7_narrow_59 : decode cX7_narrow 59 = .ok (.iload 8, 2) := by decide +kernel
theorem dX7_narrow_61 : decode cX7_narrow 61 = .ok (.iaload, 1) := by decide +kernel
theorem dX7_narrow_62 : decode cX7_narrow 62 = .ok (.aload_n 0, 1) := by decide +kernel
theorem dX7_narrow_63 : decode cX7_narrow 63 = .ok (.getfield 40, 3) := by decide +kernel
theorem dX7_narrow_66 : decode cX7_narrow 66 = .ok (.iload 7, 2) := by decide +kernel
theorem dX7_narrow_68 : decode cX7_narrow 68 = .ok (.iaload, 1) := by decide +kernel
theorem dX7_narrow_69 : decode cX7_narrow 69 = .ok (.if_icmp .lt 6, 3) := by decide +kernel
theorem dX7_narrow_72 : decode cX7_narrow 72 = .ok (.goto 30, 3) := by decide +kernel
theorem dX7_narrow_75 : decode cX7_narrow 75 = .ok (.aload_n 0, 1) := by decide +kernel
theorem dX7_narrow_76 : decode cX7_narrow 76 = .ok (.iload 8, 2) := by decide +kernel
theorem dX7_narrow_78 : decode cX7_narrow 78 = .ok (.lload_n 2, 1) := by decide +kernel
theorem dX7_narrow_79 : decode cX7_narrow 79 = .ok (.iload 4, 2) := by decide +kernel
theorem dX7_narrow_81 : decode cX7_narrow 81 = .ok (.i2l, 1) := by decide +kernel
theorem dX7_narrow_82 : decode cX7_narrow 82 = .ok (.iload 5, 2) := by decide +kernel
theorem dX7_narrow_84 : decode cX7_narrow 84 = .ok (.i2l, 1) := by decide +kernel
theorem dX7_narrow_85 : decode cX7_narrow 85 = .ok (.iload 6, 2) := by decide +kernel
theorem dX7_narrow_87 : decode cX7_narrow 87 = .ok (.i2l, 1) := by decide +kernel
theorem dX7_narrow_88 : decode cX7_narrow 88 = .ok (.invokevirtual 247, 3) := by decide +kernel
theorem dX7_narrow_91 : decode cX7_narrow 91 = .ok (.ldc2_w 245, 3) := by decide +kernel
theorem dX7_narrow_94 : decode cX7_narrow 94 = .ok (.lcmp, 1) := by decide +kernel
theorem dX7_narrow_95 : decode cX7_narrow 95 = .ok (.ifCond .eq 7, 3) := by decide +kernel
theorem dX7_narrow_98 : decode cX7_narrow 98 = .ok (.iload 8, 2) := by decide +kernel
theorem dX7_narrow_100 : decode cX7_narrow 100 = .ok (.istore 7, 2) := by decide +kernel
theorem dX7_narrow_102 : decode cX7_narrow 102 = .ok (.iinc 8 1, 3) := by decide +kernel
theorem dX7_narrow_105 : decode cX7_narrow 105 = .ok (.goto (-99), 3) := by decide +kernel
theorem dX7_narrow_108 : decode cX7_narrow 108 = .ok (.iload 7, 2) := by decide +kernel
theorem dX7_narrow_110 : decode cX7_narrow 110 = .ok (.ireturn, 1) := by decide +kernel
theorem dX7_takeWithin_0 : decode cX7_takeWithin 0 = .ok (.aload_n 0, 1) := by decide +kernel
theorem dX7_takeWithin_1 : decode cX7_takeWithin 1 = .ok (.iload_n 1, 1) := by decide +kernel
theorem dX7_takeWithin_2 : decode cX7_takeWithin 2 = .ok (.invokevirtual 132, 3) := by decide +kernel
theorem dX7_takeWithin_5 : decode cX7_takeWithin 5 = .ok (.ifCond .ne 5, 3) := by decide +kernel
theorem dX7_takeWithin_8 : decode cX7_takeWithin 8 = .ok (.iconst 0, 1) := by decide +kernel
theorem dX7_takeWithin_9 : decode cX7_takeWithin 9 = .ok (.ireturn, 1) := by decide +kernel
theorem dX7_takeWithin_10 : decode cX7_takeWithin 10 = .ok (.aload_n 0, 1) := by decide +kernel
theorem dX7_takeWithin_11 : decode cX7_takeWithin 11 = .ok (.getfield 7, 3) := by decide +kernel
theorem dX7_takeWithin_14 : decode cX7_takeWithin 14 = .ok (.iload_n 1, 1) := by decide +kernel
theorem dX7_takeWithin_15 : decode cX7_takeWithin 15 = .ok (.iaload, 1) := by decide +kernel
theorem dX7_takeWithin_16 : decode cX7_takeWithin 16 = .ok (.istore 6, 2) := by decide +kernel
theorem dX7_takeWithin_18 : decode cX7_takeWithin 18 = .ok (.iload_n 2, 1) := by decide +kernel
theorem dX7_takeWithin_19 : decode cX7_takeWithin 19 = .ok (.ifCond .le 40, 3) := by decide +kernel
theorem dX7_takeWithin_22 : decode cX7_takeWithin 22 = .ok (.iload_n 3, 1) := by decide +kernel
theorem dX7_takeWithin_23 : decode cX7_takeWithin 23 = .ok (.invokestatic 101, 3) := by decide +kernel
theorem dX7_takeWithin_26 : decode cX7_takeWithin 26 = .ok (.ifCond .eq 33, 3) := by decide +kernel
theorem dX7_takeWithin_29 : decode cX7_takeWithin 29 = .ok (.iload_n 3, 1) := by decide +kernel
theorem dX7_takeWithin_30 : decode cX7_takeWithin 30 = .ok (.iload 6, 2) := by decide +kernel
theorem dX7_takeWithin_32 : decode cX7_takeWithin 32 = .ok (.if_icmp .lt 27, 3) := by decide +kernel
theorem dX7_takeWithin_35 : decode cX7_takeWithin 35 = .ok (.iload 5, 2) := by decide +kernel
theorem dX7_takeWithin_37 : decode cX7_takeWithin 37 = .ok (.ifCond .eq 18, 3) := by decide +kernel
theorem dX7_takeWithin_40 : decode cX7_takeWithin 40 = .ok (.iload 5, 2) := by decide +kernel
theorem dX7_takeWithin_42 : decode cX7_takeWithin 42 = .ok (.invokestatic 101, 3) := by decide +kernel
theorem dX7_takeWithin_45 : decode cX7_takeWithin 45 = .ok (.ifCond .eq 14, 3) := by decide +kernel
theorem dX7_takeWithin_48 : decode cX7_takeWithin 48 = .ok (.iload 5, 2) := by decide +kernel
theorem dX7_takeWithin_50 : decode cX7_takeWithin 50 = .ok (.iload 6, 2) := by decide +kernel
theorem dX7_takeWithin_52 : decode cX7_takeWithin 52 = .ok (.if_icmp .lt 7, 3) := by decide +kernel
theorem dX7_takeWithin_55 : decode cX7_takeWithin 55 = .ok (.iconst 1, 1) := by decide +kernel
theorem dX7_takeWithin_56 : decode cX7_takeWithin 56 = .ok (.goto 4, 3) := by decide +kernel
theorem dX7_takeWithin_59 : decode cX7_takeWithin 59 = .ok (.iconst 0, 1) := by decide +kernel
theorem dX7_takeWithin_60 : decode cX7_takeWithin 60 = .ok (.istore 7, 2) := by decide +kernel
theorem dX7_takeWithin_62 : decode cX7_takeWithin 62 = .ok (.aload_n 0, 1) := by decide +kernel
theorem dX7_takeWithin_63 : decode cX7_takeWithin 63 = .ok (.iload 7, 2) := by decide +kernel
theorem dX7_takeWithin_65 : decode cX7_takeWithin 65 = .ok (.ifCond .eq 26, 3) := by decide +kernel
theorem dX7_takeWithin_68 : decode cX7_takeWithin 68 = .ok (.iload 4, 2) := by decide +kernel
theorem dX7_takeWithin_70 : decode cX7_takeWithin 70 = .ok (.ifCond .lt 21, 3) := by decide +kernel
theorem dX7_takeWithin_73 : decode cX7_takeWithin 73 = .ok (.iload 4, 2) := by decide +kernel
theorem dX7_takeWithin_75 : decode cX7_takeWithin 75 = .ok (.iload_n 3, 1) := by decide +kernel
theorem dX7_takeWithin_76 : decode cX7_takeWithin 76 = .ok (.if_icmp .ge 15, 3) := by decide +kernel
theorem dX7_takeWithin_79 : decode cX7_takeWithin 79 = .ok (.iload 4, 2) := by decide +kernel
theorem dX7_takeWithin_81 : decode cX7_takeWithin 81 = .ok (.iload 6, 2) := by decide +kernel
theorem dX7_takeWithin_83 : decode cX7_takeWithin 83 = .ok (.irem, 1) := by decide +kernel
theorem dX7_takeWithin_84 : decode cX7_takeWithin 84 = .ok (.ifCond .ne 7, 3) := by decide +kernel
theorem dX7_takeWithin_87 : decode cX7_takeWithin 87 = .ok (.iconst 1, 1) := by decide +kernel
theorem dX7_takeWithin_88 : decode cX7_takeWithin 88 = .ok (.goto 4, 3) := by decide +kernel
theorem dX7_takeWithin_91 : decode cX7_takeWithin 91 = .ok (.iconst 0, 1) := by decide +kernel
theorem dX7_takeWithin_92 : decode cX7_takeWithin 92 = .ok (.iconst 2, 1) := by decide +kernel
theorem dX7_takeWithin_93 : decode cX7_takeWithin 93 = .ok (.invokevirtual 97, 3) := by decide +kernel
theorem dX7_takeWithin_96 : decode cX7_takeWithin 96 = .ok (.ifCond .ne 5, 3) := by decide +kernel
theorem dX7_takeWithin_99 : decode cX7_takeWithin 99 = .ok (.iconst 0, 1) := by decide +kernel
theorem dX7_takeWithin_100 : decode cX7_takeWithin 100 = .ok (.ireturn, 1) := by decide +kernel
theorem dX7_takeWithin_101 : decode cX7_takeWithin 101 = .ok (.aload_n 0, 1) := by decide +kernel
theorem dX7_takeWithin_102 : decode cX7_takeWithin 102 = .ok (.invokevirtual 135, 3) := by decide +kernel
theorem dX7_takeWithin_105 : decode cX7_takeWithin 105 = .ok (.bipush 40, 2) := by decide +kernel
theorem dX7_takeWithin_107 : decode cX7_takeWithin 107 = .ok (.if_icmp .ge 6, 3) := by decide +kernel
theorem dX7_takeWithin_110 : decode cX7_takeWithin 110 = .ok (.bipush (-2), 2) := by decide +kernel
theorem dX7_takeWithin_112 : decode cX7_takeWithin 112 = .ok (.ireturn, 1) := by decide +kernel
theorem dX7_takeWithin_113 : decode cX7_takeWithin 113 = .ok (.aload_n 0, 1) := by decide +kernel
theorem dX7_takeWithin_114 : decode cX7_takeWithin 114 = .ok (.iload_n 1, 1) := by decide +kernel
theorem dX7_takeWithin_115 : decode cX7_takeWithin 115 = .ok (.iload_n 2, 1) := by decide +kernel
theorem dX7_takeWithin_116 : decode cX7_takeWithin 116 = .ok (.invokevirtual 215, 3) := by decide +kernel
theorem dX7_takeWithin_119 : decode cX7_takeWithin 119 = .ok (.lstore 8, 2) := by decide +kernel
theorem dX7_takeWithin_121 : decode cX7_takeWithin 121 = .ok (.aload_n 0, 1) := by decide +kernel
theorem dX7_takeWithin_122 : decode cX7_takeWithin 122 = .ok (.iload_n 1, 1) := by decide +kernel
theorem dX7_takeWithin_123 : decode cX7_takeWithin 123 = .ok (.lload 8, 2) := by decide +kernel
theorem dX7_takeWithin_125 : decode cX7_takeWithin 125 = .ok (.iload_n 3, 1) := by decide +kernel
theorem dX7_takeWithin_126 : decode cX7_takeWithin 126 = .ok (.iload 4, 2) := by decide +kernel
theorem dX7_takeWithin_128 : decode cX7_takeWithin 128 = .ok (.iload 5, 2) := by decide +kernel
theorem dX7_takeWithin_130 : decode cX7_takeWithin 130 = .ok (.invokevirtual 251, 3) := by decide +kernel
theorem dX7_takeWithin_133 : decode cX7_takeWithin 133 = .ok (.istore 10, 2) := by decide +kernel
theorem dX7_takeWithin_135 : decode cX7_takeWithin 135 = .ok (.iload 10, 2) := by decide +kernel
theorem dX7_takeWithin_137 : decode cX7_takeWithin 137 = .ok (.iconst (-1), 1) := by decide +kernel
theorem dX7_takeWithin_138 : decode cX7_takeWithin 138 = .ok (.if_icmp .ne 25, 3) := by decide +kernel
theorem dX7_takeWithin_141 : decode cX7_takeWithin 141 = .ok (.aload_n 0, 1) := by decide +kernel
theorem dX7_takeWithin_142 : decode cX7_takeWithin 142 = .ok (.iload_n 1, 1) := by decide +kernel
theorem dX7_takeWithin_143 : decode cX7_takeWithin 143 = .ok (.invokevirtual 166, 3) := by decide +kernel
theorem dX7_takeWithin_146 : decode cX7_takeWithin 146 = .ok (.ifCond .le 17, 3) := by decide +kernel
theorem dX7_takeWithin_149 : decode cX7_takeWithin 149 = .ok (.aload_n 0, 1) := by decide +kernel
theorem dX7_takeWithin_150 : decode cX7_takeWithin 150 = .ok (.iload_n 1, 1) := by decide +kernel
theorem dX7_takeWithin_151 : decode cX7_takeWithin 151 = .ok (.lload 8, 2) := by decide +kernel
theorem dX7_takeWithin_153 : decode cX7_takeWithin 153 = .ok (.iload_n 3, 1) := by decide +kernel
theorem dX7_takeWithin_154 : decode cX7_takeWithin 154 = .ok (.iload 4, 2) := by decide +kernel
theorem dX7_takeWithin_156 : decode cX7_takeWithin 156 = .ok (.iload 5, 2) := by decide +kernel
theorem dX7_takeWithin_158 : decode cX7_takeWithin 158 = .ok (.invokevirtual 251, 3) := by decide +kernel
theorem dX7_takeWithin_161 : decode cX7_takeWithin 161 = .ok (.istore 10, 2) := by decide +kernel
theorem dX7_takeWithin_163 : decode cX7_takeWithin 163 = .ok (.iload 10, 2) := by decide +kernel
theorem dX7_takeWithin_165 : decode cX7_takeWithin 165 = .ok (.iconst (-1), 1) := by decide +kernel
theorem dX7_takeWithin_166 : decode cX7_takeWithin 166 = .ok (.if_icmp .ne 5, 3) := by decide +kernel
theorem dX7_takeWithin_169 : decode cX7_takeWithin 169 = .ok (.iconst (-1), 1) := by decide +kernel
theorem dX7_takeWithin_170 : decode cX7_takeWithin 170 = .ok (.ireturn, 1) := by decide +kernel
theorem dX7_takeWithin_171 : decode cX7_takeWithin 171 = .ok (.aload_n 0, 1) := by decide +kernel
theorem dX7_takeWithin_172 : decode cX7_takeWithin 172 = .ok (.iload 10, 2) := by decide +kernel
theorem dX7_takeWithin_174 : decode cX7_takeWithin 174 = .ok (.lload 8, 2) := by decide +kernel
theorem dX7_takeWithin_176 : decode cX7_takeWithin 176 = .ok (.iload_n 3, 1) := by decide +kernel
theorem dX7_takeWithin_177 : decode cX7_takeWithin 177 = .ok (.i2l, 1) := by decide +kernel
theorem dX7_takeWithin_178 : decode cX7_takeWithin 178 = .ok (.iload 4, 2) := by decide +kernel
theorem dX7_takeWithin_180 : decode cX7_takeWithin 180 = .ok (.i2l, 1) := by decide +kernel
theorem dX7_takeWithin_181 : decode cX7_takeWithin 181 = .ok (.iload 5, 2) := by decide +kernel
theorem dX7_takeWithin_183 : decode cX7_takeWithin 183 = .ok (.i2l, 1) := by decide +kernel
theorem dX7_takeWithin_184 : decode cX7_takeWithin 184 = .ok (.invokevirtual 247, 3) := by decide +kernel
theorem dX7_takeWithin_187 : decode cX7_takeWithin 187 = .ok (.l2i, 1) := by decide +kernel
theorem dX7_takeWithin_188 : decode cX7_takeWithin 188 = .ok (.istore 11, 2) := by decide +kernel
theorem dX7_takeWithin_190 : decode cX7_takeWithin 190 = .ok (.aload_n 0, 1) := by decide +kernel
theorem dX7_takeWithin_191 : decode cX7_takeWithin 191 = .ok (.getfield 37, 3) := by decide +kernel
theorem dX7_takeWithin_194 : decode cX7_takeWithin 194 = .ok (.iload 10, 2) := by decide +kernel
theorem dX7_takeWithin_196 : decode cX7_takeWithin 196 = .ok (.iaload, 1) := by decide +kernel
theorem dX7_takeWithin_197 : decode cX7_takeWithin 197 = .ok (.aload_n 0, 1) := by decide +kernel
theorem dX7_takeWithin_198 : decode cX7_takeWithin 198 = .ok (.getfield 40, 3) := by decide +kernel
theorem dX7_takeWithin_201 : decode cX7_takeWithin 201 = .ok (.iload 10, 2) := by decide +kernel
theorem dX7_takeWithin_203 : decode cX7_takeWithin 203 = .ok (.iaload, 1) := by decide +kernel
theorem dX7_takeWithin_204 : decode cX7_takeWithin 204 = .ok (.iadd, 1) := by decide +kernel
theorem dX7_takeWithin_205 : decode cX7_takeWithin 205 = .ok (.istore 12, 2) := by decide +kernel
theorem dX7_takeWithin_207 : decode cX7_takeWithin 207 = .ok (.aload_n 0, 1) := by decide +kernel
theorem dX7_takeWithin_208 : decode cX7_takeWithin 208 = .ok (.getfield 49, 3) := by decide +kernel
theorem dX7_takeWithin_211 : decode cX7_takeWithin 211 = .ok (.iload 10, 2) := by decide +kernel
theorem dX7_takeWithin_213 : decode cX7_takeWithin 213 = .ok (.iaload, 1) := by decide +kernel
theorem dX7_takeWithin_214 : decode cX7_takeWithin 214 = .ok (.istore 13, 2) := by decide +kernel
theorem dX7_takeWithin_216 : decode cX7_takeWithin 216 = .ok (.iload 11, 2) := by decide +kernel
theorem dX7_takeWithin_218 : decode cX7_takeWithin 218 = .ok (.aload_n 0, 1) := by decide +kernel
theorem dX7_takeWithin_219 : decode cX7_takeWithin 219 = .ok (.getfield 37, 3) := by decide +kernel
theorem dX7_takeWithin_222 : decode cX7_takeWithin 222 = .ok (.iload 10, 2) := by decide +kernel
theorem dX7_takeWithin_224 : decode cX7_takeWithin 224 = .ok (.iaload, 1) := by decide +kernel
theorem dX7_takeWithin_225 : decode cX7_takeWithin 225 = .ok (.isub, 1) := by decide +kernel
theorem dX7_takeWithin_226 : decode cX7_takeWithin 226 = .ok (.istore 14, 2) := by decide +kernel
theorem dX7_takeWithin_228 : decode cX7_takeWithin 228 = .ok (.iload 14, 2) := by decide +kernel
theorem dX7_takeWithin_230 : decode cX7_takeWithin 230 = .ok (.ifCond .le 34, 3) := by decide +kernel
theorem dX7_takeWithin_233 : decode cX7_takeWithin 233 = .ok (.aload_n 0, 1) := by decide +kernel
theorem dX7_takeWithin_234 : decode cX7_takeWithin 234 = .ok (.getfield 40, 3) := by decide +kernel
theorem dX7_takeWithin_237 : decode cX7_takeWithin 237 = .ok (.iload 10, 2) := by decide +kernel
theorem dX7_takeWithin_239 : decode cX7_takeWithin 239 = .ok (.iload 14, 2) := by decide +kernel
theorem dX7_takeWithin_241 : decode cX7_takeWithin 241 = .ok (.iastore, 1) := by decide +kernel
theorem dX7_takeWithin_242 : decode cX7_takeWithin 242 = .ok (.aload_n 0, 1) := by decide +kernel
theorem dX7_takeWithin_243 : decode cX7_takeWithin 243 = .ok (.iload 10, 2) := by decide +kernel
theorem dX7_takeWithin_245 : decode cX7_takeWithin 245 = .ok (.invokevirtual 121, 3) := by decide +kernel
theorem dX7_takeWithin_248 : decode cX7_takeWithin 248 = .ok (.aload_n 0, 1) := by decide +kernel
theorem dX7_takeWithin_249 : decode cX7_takeWithin 249 = .ok (.iload_n 1, 1) := by decide +kernel
theorem dX7_takeWithin_250 : decode cX7_takeWithin 250 = .ok (.iload 11, 2) := by decide +kernel
theorem dX7_takeWithin_252 : decode cX7_takeWithin 252 = .ok (.iload 12, 2) := by decide +kernel
theorem dX7_takeWithin_254 : decode cX7_takeWithin 254 = .ok (.iload 11, 2) := by decide +kernel
theorem dX7_takeWithin_256 : decode cX7_takeWithin 256 = .ok (.isub, 1) := by decide +kernel
theorem dX7_takeWithin_257 : decode cX7_takeWithin 257 = .ok (.iload 13, 2) := by decide +kernel
theorem dX7_takeWithin_259 : decode cX7_takeWithin 259 = .ok (.invokevirtual 128, 3) := by decide +kernel
theorem dX7_takeWithin_262 : decode cX7_takeWithin 262 = .ok (.istore 10, 2) := by decide +kernel
theorem dX7_takeWithin_264 : decode cX7_takeWithin 264 = .ok (.aload_n 0, 1) := by decide +kernel
theorem dX7_takeWithin_265 : decode cX7_takeWithin 265 = .ok (.iload 10, 2) := by decide +kernel
theorem dX7_takeWithin_267 : decode cX7_takeWithin 267 = .ok (.lload 8, 2) := by decide +kernel
theorem dX7_takeWithin_269 : decode cX7_takeWithin 269 = .ok (.l2i, 1) := by decide +kernel
theorem dX7_takeWithin_270 : decode cX7_takeWithin 270 = .ok (.iconst 4, 1) := by decide +kernel
theorem dX7_takeWithin_271 : decode cX7_takeWithin 271 = .ok (.invokevirtual 169, 3) := by decide +kernel
theorem dX7_takeWithin_274 : decode cX7_takeWithin 274 = .ok (.iload 11, 2) := by decide +kernel
theorem dX7_takeWithin_276 : decode cX7_takeWithin 276 = .ok (.ireturn, 1) := by decide +kernel
theorem dX7_giveWithin_0 : decode cX7_giveWithin 0 = .ok (.aload_n 0, 1) := by decide +kernel
theorem dX7_giveWithin_1 : decode cX7_giveWithin 1 = .ok (.iload_n 1, 1) := by decide +kernel
theorem dX7_giveWithin_2 : decode cX7_giveWithin 2 = .ok (.invokevirtual 132, 3) := by decide +kernel
theorem dX7_giveWithin_5 : decode cX7_giveWithin 5 = .ok (.ifCond .ne 5, 3) := by decide +kernel
theorem dX7_giveWithin_8 : decode cX7_giveWithin 8 = .ok (.iconst 0, 1) := by decide +kernel
theorem dX7_giveWithin_9 : decode cX7_giveWithin 9 = .ok (.ireturn, 1) := by decide +kernel
theorem dX7_giveWithin_10 : decode cX7_giveWithin 10 = .ok (.aload_n 0, 1) := by decide +kernel
theorem dX7_giveWithin_11 : decode cX7_giveWithin 11 = .ok (.iload_n 3, 1) := by decide +kernel
theorem dX7_giveWithin_12 : decode cX7_giveWithin 12 = .ok (.ifCond .le 24, 3) := by decide +kernel
theorem dX7_giveWithin_15 : decode cX7_giveWithin 15 = .ok (.aload_n 0, 1) := by decide +kernel
theorem dX7_giveWithin_16 : decode cX7_giveWithin 16 = .ok (.iload_n 1, 1) := by decide +kernel
theorem dX7_giveWithin_17 : decode cX7_giveWithin 17 = .ok (.iload_n 2, 1) := by decide +kernel
theorem dX7_giveWithin_18 : decode cX7_giveWithin 18 = .ok (.aload_n 0, 1) := by decide +kernel
theorem dX7_giveWithin_19 : decode cX7_giveWithin 19 = .ok (.iload_n 1, 1) := by decide +kernel
theorem dX7_giveWithin_20 : decode cX7_giveWithin 20 = .ok (.iload_n 3, 1) := by decide +kernel
theorem dX7_giveWithin_21 : decode cX7_giveWithin 21 = .ok (.invokevirtual 215, 3) := by decide +kernel
theorem dX7_giveWithin_24 : decode cX7_giveWithin 24 = .ok (.iconst 4, 1) := by decide +kernel
theorem dX7_giveWithin_25 : decode cX7_giveWithin 25 = .ok (.invokevirtual 225, 3) := by decide +kernel
theorem dX7_giveWithin_28 : decode cX7_giveWithin 28 = .ok (.iconst (-1), 1) := by decide +kernel
theorem dX7_giveWithin_29 : decode cX7_giveWithin 29 = .ok (.if_icmp .eq 7, 3) := by decide +kernel
theorem dX7_giveWithin_32 : decode cX7_giveWithin 32 = .ok (.iconst 1, 1) := by decide +kernel
theorem dX7_giveWithin_33 : decode cX7_giveWithin 33 = .ok (.goto 4, 3) := by decide +kernel
theorem dX7_giveWithin_36 : decode cX7_giveWithin 36 = .ok (.iconst 0, 1) := by decide +kernel
theorem dX7_giveWithin_37 : decode cX7_giveWithin 37 = .ok (.iconst 2, 1) := by decide +kernel
theorem dX7_giveWithin_38 : decode cX7_giveWithin 38 = .ok (.invokevirtual 97, 3) := by decide +kernel
theorem dX7_giveWithin_41 : decode cX7_giveWithin 41 = .ok (.ifCond .eq 9, 3) := by decide +kernel
theorem dX7_giveWithin_44 : decode cX7_giveWithin 44 = .ok (.aload_n 0, 1) := by decide +kernel
theorem dX7_giveWithin_45 : decode cX7_giveWithin 45 = .ok (.iload_n 1, 1) := by decide +kernel
theorem dX7_giveWithin_46 : decode cX7_giveWithin 46 = .ok (.iload_n 2, 1) := by decide +kernel
theorem dX7_giveWithin_47 : decode cX7_giveWithin 47 = .ok (.invokevirtual 180, 3) := by decide +kernel
theorem dX7_giveWithin_50 : decode cX7_giveWithin 50 = .ok (.iconst 0, 1) := by decide +kernel
theorem dX7_giveWithin_51 : decode cX7_giveWithin 51 = .ok (.ireturn, 1) := by decide +kernel
theorem dX7_bounds_0 : decode cX7_bounds 0 = .ok (.aload_n 0, 1) := by decide +kernel
theorem dX7_bounds_1 : decode cX7_bounds 1 = .ok (.iload_n 1, 1) := by decide +kernel
theorem dX7_bounds_2 : decode cX7_bounds 2 = .ok (.invokevirtual 132, 3) := by decide +kernel
theorem dX7_bounds_5 : decode cX7_bounds 5 = .ok (.ifCond .ne 4, 3) := by decide +kernel
theorem dX7_bounds_8 : decode cX7_bounds 8 = .ok (.return_, 1) := by decide +kernel
theorem dX7_bounds_9 : decode cX7_bounds 9 = .ok (.aload_n 0, 1) := by decide +kernel
theorem dX7_bounds_10 : decode cX7_bounds 10 = .ok (.iload_n 2, 1) := by decide +kernel
theorem dX7_bounds_11 : decode cX7_bounds 11 = .ok (.ifCond .lt 18, 3) := by decide +kernel
theorem dX7_bounds_14 : decode cX7_bounds 14 = .ok (.iload_n 3, 1) := by decide +kernel
theorem dX7_bounds_15 : decode cX7_bounds 15 = .ok (.iload_n 2, 1) := by decide +kernel
theorem dX7_bounds_16 : decode cX7_bounds 16 = .ok (.if_icmp .lt 13, 3) := by decide +kernel
theorem dX7_bounds_19 : decode cX7_bounds 19 = .ok (.iload_n 3, 1) := by decide +kernel
theorem dX7_bounds_20 : decode cX7_bounds 20 = .ok (.ldc 106, 2) := by decide +kernel
theorem dX7_bounds_22 : decode cX7_bounds 22 = .ok (.if_icmp .gt 7, 3) := by decide +kernel
theorem dX7_bounds_25 : decode cX7_bounds 25 = .ok (.iconst 1, 1) := by decide +kernel
theorem dX7_bounds_26 : decode cX7_bounds 26 = .ok (.goto 4, 3) := by decide +kernel
theorem dX7_bounds_29 : decode cX7_bounds 29 = .ok (.iconst 0, 1) := by decide +kernel
theorem dX7_bounds_30 : decode cX7_bounds 30 = .ok (.iconst 2, 1) := by decide +kernel
theorem dX7_bounds_31 : decode cX7_bounds 31 = .ok (.invokevirtual 97, 3) := by decide +kernel
theorem dX7_bounds_34 : decode cX7_bounds 34 = .ok (.ifCond .ne 4, 3) := by decide +kernel
theorem dX7_bounds_37 : decode cX7_bounds 37 = .ok (.return_, 1) := by decide +kernel
theorem dX7_bounds_38 : decode cX7_bounds 38 = .ok (.aload_n 0, 1) := by decide +kernel
theorem dX7_bounds_39 : decode cX7_bounds 39 = .ok (.getfield 22, 3) := by decide +kernel
theorem dX7_bounds_42 : decode cX7_bounds 42 = .ok (.iload_n 1, 1) := by decide +kernel
theorem dX7_bounds_43 : decode cX7_bounds 43 = .ok (.iload_n 2, 1) := by decide +kernel
theorem dX7_bounds_44 : decode cX7_bounds 44 = .ok (.iastore, 1) := by decide +kernel
theorem dX7_bounds_45 : decode cX7_bounds 45 = .ok (.aload_n 0, 1) := by decide +kernel
theorem dX7_bounds_46 : decode cX7_bounds 46 = .ok (.getfield 25, 3) := by decide +kernel
theorem dX7_bounds_49 : decode cX7_bounds 49 = .ok (.iload_n 1, 1) := by decide +kernel
theorem dX7_bounds_50 : decode cX7_bounds 50 = .ok (.iload_n 3, 1) := by decide +kernel
theorem dX7_bounds_51 : decode cX7_bounds 51 = .ok (.iastore, 1) := by decide +kernel
theorem dX7_bounds_52 : decode cX7_bounds 52 = .ok (.return_, 1) := by decide +kernel
theorem dX7_purge_0 : decode cX7_purge 0 = .ok (.aload_n 0, 1) := by decide +kernel
theorem dX7_purge_1 : decode cX7_purge 1 = .ok (.iload_n 1, 1) := by decide +kernel
theorem dX7_purge_2 : decode cX7_purge 2 = .ok (.invokevirtual 132, 3) := by decide +kernel
theorem dX7_purge_5 : decode cX7_purge 5 = .ok (.ifCond .eq 11, 3) := by decide +kernel
theorem dX7_purge_8 : decode cX7_purge 8 = .ok (.aload_n 0, 1) := by decide +kernel
theorem dX7_purge_9 : decode cX7_purge 9 = .ok (.iload_n 1, 1) := by decide +kernel
theorem dX7_purge_10 : decode cX7_purge 10 = .ok (.invokevirtual 166, 3) := by decide +kernel
theorem dX7_purge_13 : decode cX7_purge 13 = .ok (.goto 4, 3) := by decide +kernel
theorem dX7_purge_16 : decode cX7_purge 16 = .ok (.iconst 0, 1) := by decide +kernel
theorem dX7_purge_17 : decode cX7_purge 17 = .ok (.ireturn, 1) := by decide +kernel
theorem dX7_tags_0 : decode cX7_tags 0 = .ok (.aload_n 0, 1) := by decide +kernel
theorem dX7_tags_1 : decode cX7_tags 1 = .ok (.iconst 0, 1) := by decide +kernel
theorem dX7_tags_2 : decode cX7_tags 2 = .ok (.putfield 90, 3) := by decide +kernel
theorem dX7_tags_5 : decode cX7_tags 5 = .ok (.aload_n 0, 1) := by decide +kernel
theorem dX7_tags_6 : decode cX7_tags 6 = .ok (.invokevirtual 135, 3) := by decide +kernel
theorem dX7_tags_9 : decode cX7_tags 9 = .ok (.ireturn, 1) := by decide +kernel
theorem dX7_heldIn_0 : decode cX7_heldIn 0 = .ok (.iconst 0, 1) := by decide +kernel
theorem dX7_heldIn_1 : decode cX7_heldIn 1 = .ok (.istore_n 2, 1) := by decide +kernel
theorem dX7_heldIn_2 : decode cX7_heldIn 2 = .ok (.iconst 0, 1) := by decide +kernel
theorem dX7_heldIn_3 : decode cX7_heldIn 3 = .ok (.istore_n 3, 1) := by decide +kernel
theorem dX7_heldIn_4 : decode cX7_heldIn 4 = .ok (.iload_n 3, 1) := by decide +kernel
theorem dX7_heldIn_5 : decode cX7_heldIn 5 = .ok (.aload_n 0, 1) := by decide +kernel
theorem dX7_heldIn_6 : decode cX7_heldIn 6 = .ok (.getfield 183, 3) := by decide +kernel
theorem dX7_heldIn_9 : decode cX7_heldIn 9 = .ok (.if_icmp .ge 45, 3) := by decide +kernel
theorem dX7_heldIn_12 : decode cX7_heldIn 12 = .ok (.aload_n 0, 1) := by decide +kernel
theorem dX7_heldIn_13 : decode cX7_heldIn 13 = .ok (.getfield 72, 3) := by decide +kernel
theorem dX7_heldIn_16 : decode cX7_heldIn 16 = .ok (.iload_n 3, 1) := by decide +kernel
theorem dX7_heldIn_17 : decode cX7_heldIn 17 = .ok (.iaload, 1) := by decide +kernel
theorem dX7_heldIn_18 : decode cX7_heldIn 18 = .ok (.iload_n 1, 1) := by decide +kernel
theorem dX7_heldIn_19 : decode cX7_heldIn 19 = .ok (.if_icmp .ne 29, 3) := by decide +kernel
theorem dX7_heldIn_22 : decode cX7_heldIn 22 = .ok (.iload_n 2, 1) := by decide +kernel
theorem dX7_heldIn_23 : decode cX7_heldIn 23 = .ok (.aload_n 0, 1) := by decide +kernel
theorem dX7_heldIn_24 : decode cX7_heldIn 24 = .ok (.getfield 52, 3) := by decide +kernel
theorem dX7_heldIn_27 : decode cX7_heldIn 27 = .ok (.aload_n 0, 1) := by decide +kernel
theorem dX7_heldIn_28 : decode cX7_heldIn 28 = .ok (.iload_n 1, 1) := by decide +kernel
theorem dX7_heldIn_29 : decode cX7_heldIn 29 = .ok (.aload_n 0, 1) := by decide +kernel
theorem dX7_heldIn_30 : decode cX7_heldIn 30 = .ok (.getfield 75, 3) := by decide +kernel
theorem dX7_heldIn_33 : decode cX7_heldIn 33 = .ok (.iload_n 3, 1) := by decide +kernel
theorem dX7_heldIn_34 : decode cX7_heldIn 34 = .ok (.iaload, 1) := by decide +kernel
theorem dX7_heldIn_35 : decode cX7_heldIn 35 = .ok (.invokevirtual 222, 3) := by decide +kernel
theorem dX7_heldIn_38 : decode cX7_heldIn 38 = .ok (.iaload, 1) := by decide +kernel
theorem dX7_heldIn_39 : decode cX7_heldIn 39 = .ok (.aload_n 0, 1) := by decide +kernel
theorem dX7_heldIn_40 : decode cX7_heldIn 40 = .ok (.getfield 7, 3) := by decide +kernel
theorem dX7_heldIn_43 : decode cX7_heldIn 43 = .ok (.iload_n 1, 1) := by decide +kernel
theorem dX7_heldIn_44 : decode cX7_heldIn 44 = .ok (.iaload, 1) := by decide +kernel
theorem dX7_heldIn_45 : decode cX7_heldIn 45 = .ok (.imul, 1) := by decide +kernel
theorem dX7_heldIn_46 : decode cX7_heldIn 46 = .ok (.iadd, 1) := by decide +kernel
theorem dX7_heldIn_47 : decode cX7_heldIn 47 = .ok (.istore_n 2, 1) := by decide +kernel
theorem dX7_heldIn_48 : decode cX7_heldIn 48 = .ok (.iinc 3 1, 3) := by decide +kernel
theorem dX7_heldIn_51 : decode cX7_heldIn 51 = .ok (.goto (-47), 3) := by decide +kernel
theorem dX7_heldIn_54 : decode cX7_heldIn 54 = .ok (.iload_n 2, 1) := by decide +kernel
theorem dX7_heldIn_55 : decode cX7_heldIn 55 = .ok (.ireturn, 1) := by decide +kernel
theorem dX7_of_0 : decode cX7_of 0 = .ok (.iconst 0, 1) := by decide +kernel
theorem dX7_of_1 : decode cX7_of 1 = .ok (.istore 4, 2) := by decide +kernel
theorem dX7_of_3 : decode cX7_of 3 = .ok (.iconst 0, 1) := by decide +kernel
theorem dX7_of_4 : decode cX7_of 4 = .ok (.istore 5, 2) := by decide +kernel
theorem dX7_of_6 : decode cX7_of 6 = .ok (.iload 5, 2) := by decide +kernel
theorem dX7_of_8 : decode cX7_of 8 = .ok (.aload_n 0, 1) := by decide +kernel
theorem dX7_of_9 : decode cX7_of 9 = .ok (.getfield 107, 3) := by decide +kernel
theorem dX7_of_12 : decode cX7_of 12 = .ok (.if_icmp .ge 57, 3) := by decide +kernel
theorem dX7_of_15 : decode cX7_of 15 = .ok (.aload_n 0, 1) := by decide +kernel
theorem dX7_of_16 : decode cX7_of 16 = .ok (.getfield 34, 3) := by decide +kernel
theorem dX7_of_19 : decode cX7_of 19 = .ok (.iload 5, 2) := by decide +kernel
theorem dX7_of_21 : decode cX7_of 21 = .ok (.iaload, 1) := by decide +kernel
theorem dX7_of_22 : decode cX7_of 22 = .ok (.iload_n 1, 1) := by decide +kernel
theorem dX7_of_23 : decode cX7_of 23 = .ok (.if_icmp .ne 40, 3) := by decide +kernel
theorem dX7_of_26 : decode cX7_of 26 = .ok (.iload_n 2, 1) := by decide +kernel
theorem dX7_of_27 : decode cX7_of 27 = .ok (.bipush 9, 2) := by decide +kernel
theorem dX7_of_29 : decode cX7_of 29 = .ok (.if_icmp .eq 14, 3) := by decide +kernel
theorem dX7_of_32 : decode cX7_of 32 = .ok (.aload_n 0, 1) := by decide +kernel
theorem dX7_of_33 : decode cX7_of 33 = .ok (.getfield 43, 3) := by decide +kernel
theorem dX7_of_36 : decode cX7_of 36 = .ok (.iload 5, 2) := by decide +kernel
theorem dX7_of_38 : decode cX7_of 38 = .ok (.iaload, 1) := by decide +kernel
theorem dX7_of_39 : decode cX7_of 39 = .ok (.iload_n 2, 1) := by decide +kernel
theorem dX7_of_40 : decode cX7_of 40 = .ok (.if_icmp .ne 23, 3) := by decide +kernel
theorem dX7_of_43 : decode cX7_of 43 = .ok (.iload 4, 2) := by decide +kernel
theorem dX7_of_45 : decode cX7_of 45 = .ok (.iload_n 3, 1) := by decide +kernel
theorem dX7_of_46 : decode cX7_of 46 = .ok (.ifCond .eq 13, 3) := by decide +kernel
theorem dX7_of_49 : decode cX7_of 49 = .ok (.aload_n 0, 1) := by decide +kernel
theorem dX7_of_50 : decode cX7_of 50 = .ok (.getfield 40, 3) := by decide +kernel
theorem dX7_of_53 : decode cX7_of 53 = .ok (.iload 5, 2) := by decide +kernel
theorem dX7_of_55 : decode cX7_of 55 = .ok (.iaload, 1) := by decide +kernel
theorem dX7_of_56 : decode cX7_of 56 = .ok (.goto 4, 3) := by decide +kernel
theorem dX7_of_59 : decode cX7_of 59 = .ok (.iconst 1, 1) := by decide +kernel
theorem dX7_of_60 : decode cX7_of 60 = .ok (.iadd, 1) := by decide +kernel
theorem dX7_of_61 : decode cX7_of 61 = .ok (.istore 4, 2) := by decide +kernel
theorem dX7_of_63 : decode cX7_of 63 = .ok (.iinc 5 1, 3) := by decide +kernel
theorem dX7_of_66 : decode cX7_of 66 = .ok (.goto (-60), 3) := by decide +kernel
theorem dX7_of_69 : decode cX7_of 69 = .ok (.iload 4, 2) := by decide +kernel
theorem dX7_of_71 : decode cX7_of 71 = .ok (.ireturn, 1) := by decide +kernel
theorem dX7_spansOf_0 : decode cX7_spansOf 0 = .ok (.iconst 0, 1) := by decide +kernel
theorem dX7_spansOf_1 : decode cX7_spansOf 1 = .ok (.istore_n 3, 1) := by decide +kernel
theorem dX7_spansOf_2 : decode cX7_spansOf 2 = .ok (.iconst 0, 1) := by decide +kernel
theorem dX7_spansOf_3 : decode cX7_spansOf 3 = .ok (.istore 4, 2) := by decide +kernel
theorem dX7_spansOf_5 : decode cX7_spansOf 5 = .ok (.iload 4, 2) := by decide +kernel
theorem dX7_spansOf_7 : decode cX7_spansOf 7 = .ok (.sipush 600, 3) := by decide +kernel
theorem dX7_spansOf_10 : decode cX7_spansOf 10 = .ok (.if_icmp .ge 47, 3) := by decide +kernel
theorem dX7_spansOf_13 : decode cX7_spansOf 13 = .ok (.aload_n 0, 1) := by decide +kernel
theorem dX7_spansOf_14 : decode cX7_spansOf 14 = .ok (.getfield 64, 3) := by decide +kernel
theorem dX7_spansOf_17 : decode cX7_spansOf 17 = .ok (.iload 4, 2) := by decide +kernel
theorem dX7_spansOf_19 : decode cX7_spansOf 19 = .ok (.baload, 1) := by decide +kernel
theorem dX7_spansOf_20 : decode cX7_spansOf 20 = .ok (.ifCond .eq 31, 3) := by decide +kernel
theorem dX7_spansOf_23 : decode cX7_spansOf 23 = .ok (.aload_n 0, 1) := by decide +kernel
theorem dX7_spansOf_24 : decode cX7_spansOf 24 = .ok (.getfield 55, 3) := by decide +kernel
theorem dX7_spansOf_27 : decode cX7_spansOf 27 = .ok (.iload 4, 2) := by decide +kernel
theorem dX7_spansOf_29 : decode cX7_spansOf 29 = .ok (.iaload, 1) := by decide +kernel
theorem dX7_spansOf_30 : decode cX7_spansOf 30 = .ok (.iload_n 1, 1) := by decide +kernel
theorem dX7_spansOf_31 : decode cX7_spansOf 31 = .ok (.if_icmp .ne 20, 3) := by decide +kernel
theorem dX7_spansOf_34 : decode cX7_spansOf 34 = .ok (.aload_n 0, 1) := by decide +kernel
theorem dX7_spansOf_35 : decode cX7_spansOf 35 = .ok (.getfield 68, 3) := by decide +kernel
theorem dX7_spansOf_38 : decode cX7_spansOf 38 = .ok (.iload 4, 2) := by decide +kernel
theorem dX7_spansOf_40 : decode cX7_spansOf 40 = .ok (.baload, 1) := by decide +kernel
theorem dX7_spansOf_41 : decode cX7_spansOf 41 = .ok (.ifCond .ne 7, 3) := by decide +kernel
theorem dX7_spansOf_44 : decode cX7_spansOf 44 = .ok (.iload_n 2, 1) := by decide +kernel
theorem dX7_spansOf_45 : decode cX7_spansOf 45 = .ok (.ifCond .ne 6, 3) := by decide +kernel
theorem dX7_spansOf_48 : decode cX7_spansOf 48 = .ok (.iinc 3 1, 3) := by decide +kernel
theorem dX7_spansOf_51 : decode cX7_spansOf 51 = .ok (.iinc 4 1, 3) := by decide +kernel
theorem dX7_spansOf_54 : decode cX7_spansOf 54 = .ok (.goto (-49), 3) := by decide +kernel
theorem dX7_spansOf_57 : decode cX7_spansOf 57 = .ok (.iload_n 3, 1) := by decide +kernel
theorem dX7_spansOf_58 : decode cX7_spansOf 58 = .ok (.ireturn, 1) := by decide +kernel
theorem dX7_count_0 : decode cX7_count 0 = .ok (.aload_n 0, 1) := by decide +kernel
theorem dX7_count_1 : decode cX7_count 1 = .ok (.iload_n 1, 1) := by decide +kernel
theorem dX7_count_2 : decode cX7_count 2 = .ok (.invokevirtual 132, 3) := by decide +kernel
theorem dX7_count_5 : decode cX7_count 5 = .ok (.ifCond .eq 26, 3) := by decide +kernel
theorem dX7_count_8 : decode cX7_count 8 = .ok (.aload_n 0, 1) := by decide +kernel
theorem dX7_count_9 : decode cX7_count 9 = .ok (.iload_n 2, 1) := by decide +kernel
theorem dX7_count_10 : decode cX7_count 10 = .ok (.ifCond .lt 13, 3) := by decide +kernel
theorem dX7_count_13 : decode cX7_count 13 = .ok (.iload_n 2, 1) := by decide +kernel
theorem dX7_count_14 : decode cX7_count 14 = .ok (.bipush 14, 2) := by decide +kernel
theorem dX7_count_16 : decode cX7_count 16 = .ok (.if_icmp .gt 7, 3) := by decide +kernel
theorem dX7_count_19 : decode cX7_count 19 = .ok (.iconst 1, 1) := by decide +kernel
theorem dX7_count_20 : decode cX7_count 20 = .ok (.goto 4, 3) := by decide +kernel
theorem dX7_count_23 : decode cX7_count 23 = .ok (.iconst 0, 1) := by decide +kernel
theorem dX7_count_24 : decode cX7_count 24 = .ok (.iconst 2, 1) := by decide +kernel
theorem dX7_count_25 : decode cX7_count 25 = .ok (.invokevirtual 97, 3) := by decide +kernel
theorem dX7_count_28 : decode cX7_count 28 = .ok (.ifCond .ne 5, 3) := by decide +kernel
theorem dX7_count_31 : decode cX7_count 31 = .ok (.iconst 0, 1) := by decide +kernel
theorem dX7_count_32 : decode cX7_count 32 = .ok (.ireturn, 1) := by decide +kernel
theorem dX7_count_33 : decode cX7_count 33 = .ok (.iload_n 2, 1) := by decide +kernel
theorem dX7_count_34 : decode cX7_count 34 = .ok (.tableswitch 190 0 13 #[70, 77, 84, 91, 98, 107, 115, 123, 145, 153, 161, 169, 176, 183], 70) := by decide +kernel
theorem dX7_count_104 : decode cX7_count 104 = .ok (.aload_n 0, 1) := by decide +kernel
theorem dX7_count_105 : decode cX7_count 105 = .ok (.getfield 7, 3) := by decide +kernel
theorem dX7_count_108 : decode cX7_count 108 = .ok (.iload_n 1, 1) := by decide +kernel
theorem dX7_count_109 : decode cX7_count 109 = .ok (.iaload, 1) := by decide +kernel
theorem dX7_count_110 : decode cX7_count 110 = .ok (.ireturn, 1) := by decide +kernel
theorem dX7_count_111 : decode cX7_count 111 = .ok (.aload_n 0, 1) := by decide +kernel
theorem dX7_count_112 : decode cX7_count 112 = .ok (.getfield 13, 3) := by decide +kernel
theorem dX7_count_115 : decode cX7_count 115 = .ok (.iload_n 1, 1) := by decide +kernel
theorem dX7_count_116 : decode cX7_count 116 = .ok (.iaload, 1) := by decide +kernel
theorem dX7_count_117 : decode cX7_count 117 = .ok (.ireturn, 1) := by decide +kernel
theorem dX7_count_118 : decode cX7_count 118 = .ok (.aload_n 0, 1) := by decide +kernel
theorem dX7_count_119 : decode cX7_count 119 = .ok (.getfield 16, 3) := by decide +kernel
theorem dX7_count_122 : decode cX7_count 122 = .ok (.iload_n 1, 1) := by decide +kernel
theorem dX7_count_123 : decode cX7_count 123 = .ok (.iaload, 1) := by decide +kernel
theorem dX7_count_124 : decode cX7_count 124 = .ok (.ireturn, 1) := by decide +kernel
theorem dX7_count_125 : decode cX7_count 125 = .ok (.aload_n 0, 1) := by decide +kernel
theorem dX7_count_126 : decode cX7_count 126 = .ok (.iload_n 1, 1) := by decide +kernel
theorem dX7_count_127 : decode cX7_count 127 = .ok (.iconst 0, 1) := by decide +kernel
theorem dX7_count_128 : decode cX7_count 128 = .ok (.invokevirtual 255, 3) := by decide +kernel
theorem dX7_count_131 : decode cX7_count 131 = .ok (.ireturn, 1) := by decide +kernel
theorem dX7_count_132 : decode cX7_count 132 = .ok (.aload_n 0, 1) := by decide +kernel
theorem dX7_count_133 : decode cX7_count 133 = .ok (.iload_n 1, 1) := by decide +kernel
theorem dX7_count_134 : decode cX7_count 134 = .ok (.bipush 9, 2) := by decide +kernel
theorem dX7_count_136 : decode cX7_count 136 = .ok (.iconst 0, 1) := by decide +kernel
theorem dX7_count_137 : decode cX7_count 137 = .ok (.invokevirtual 259, 3) := by decide +kernel
theorem dX7_count_140 : decode cX7_count 140 = .ok (.ireturn, 1) := by decide +kernel
theorem dX7_count_141 : decode cX7_count 141 = .ok (.aload_n 0, 1) := by decide +kernel
theorem dX7_count_142 : decode cX7_count 142 = .ok (.iload_n 1, 1) := by decide +kernel
theorem dX7_count_143 : decode cX7_count 143 = .ok (.iconst 0, 1) := by decide +kernel
theorem dX7_count_144 : decode cX7_count 144 = .ok (.iconst 0, 1) := by decide +kernel
theorem dX7_count_145 : decode cX7_count 145 = .ok (.invokevirtual 259, 3) := by decide +kernel
theorem dX7_count_148 : decode cX7_count 148 = .ok (.ireturn, 1) := by decide +kernel
theorem dX7_count_149 : decode cX7_count 149 = .ok (.aload_n 0, 1) := by decide +kernel
theorem dX7_count_150 : decode cX7_count 150 = .ok (.iload_n 1, 1) := by decide +kernel
theorem dX7_count_151 : decode cX7_count 151 = .ok (.iconst 0, 1) := by decide +kernel
theorem dX7_count_152 : decode cX7_count 152 = .ok (.iconst 1, 1) := by decide +kernel
theorem dX7_count_153 : decode cX7_count 153 = .ok (.invokevirtual 259, 3) := by decide +kernel
theorem dX7_count_156 : decode cX7_count 156 = .ok (.ireturn, 1) := by decide +kernel
theorem dX7_count_157 : decode cX7_count 157 = .ok (.aload_n 0, 1) := by decide +kernel
theorem dX7_count_158 : decode cX7_count 158 = .ok (.iload_n 1, 1) := by decide +kernel
theorem dX7_count_159 : decode cX7_count 159 = .ok (.iconst 1, 1) := by decide +kernel
theorem dX7_count_160 : decode cX7_count 160 = .ok (.iconst 1, 1) := by decide +kernel
theorem dX7_count_161 : decode cX7_count 161 = .ok (.invokevirtual 259, 3) := by decide +kernel
theorem dX7_count_164 : decode cX7_count 164 = .ok (.aload_n 0, 1) := by decide +kernel
theorem dX7_count_165 : decode cX7_count 165 = .ok (.iload_n 1, 1) := by decide +kernel
theorem dX7_count_166 : decode cX7_count 166 = .ok (.iconst 4, 1) := by decide +kernel
theorem dX7_count_167 : decode cX7_count 167 = .ok (.iconst 1, 1) := by decide +kernel
theorem dX7_count_168 : decode cX7_count 168 = .ok (.invokevirtual 259, 3) := by decide +kernel
theorem dX7_count_171 : decode cX7_count 171 = .ok (.iadd, 1) := by decide +kernel
theorem dX7_count_172 : decode cX7_count 172 = .ok (.aload_n 0, 1) := by decide +kernel
theorem dX7_count_173 : decode cX7_count 173 = .ok (.iload_n 1, 1) := by decide +kernel
theorem dX7_count_174 : decode cX7_count 174 = .ok (.invokevirtual 263, 3) := by decide +kernel
theorem dX7_count_177 : decode cX7_count 177 = .ok (.iadd, 1) := by decide +kernel
theorem dX7_count_178 : decode cX7_count 178 = .ok (.ireturn, 1) := by decide +kernel
theorem dX7_count_179 : decode cX7_count 179 = .ok (.aload_n 0, 1) := by decide +kernel
theorem dX7_count_180 : decode cX7_count 180 = .ok (.iload_n 1, 1) := by decide +kernel
theorem dX7_count_181 : decode cX7_count 181 = .ok (.iconst 3, 1) := by decide +kernel
theorem dX7_count_182 : decode cX7_count 182 = .ok (.iconst 1, 1) := by decide +kernel
theorem dX7_count_183 : decode cX7_count 183 = .ok (.invokevirtual 259, 3) := by decide +kernel
theorem dX7_count_186 : decode cX7_count 186 = .ok (.ireturn, 1) := by decide +kernel
theorem dX7_count_187 : decode cX7_count 187 = .ok (.aload_n 0, 1) := by decide +kernel
theorem dX7_count_188 : decode cX7_count 188 = .ok (.iload_n 1, 1) := by decide +kernel
theorem dX7_count_189 : decode cX7_count 189 = .ok (.iconst 2, 1) := by decide +kernel
theorem dX7_count_190 : decode cX7_count 190 = .ok (.iconst 1, 1) := by decide +kernel
theorem dX7_count_191 : decode cX7_count 191 = .ok (.invokevirtual 259, 3) := by decide +kernel
theorem dX7_count_194 : decode cX7_count 194 = .ok (.ireturn, 1) := by decide +kernel
theorem dX7_count_195 : decode cX7_count 195 = .ok (.aload_n 0, 1) := by decide +kernel
theorem dX7_count_196 : decode cX7_count 196 = .ok (.iload_n 1, 1) := by decide +kernel
theorem dX7_count_197 : decode cX7_count 197 = .ok (.iconst 2, 1) := by decide +kernel
theorem dX7_count_198 : decode cX7_count 198 = .ok (.iconst 0, 1) := by decide +kernel
theorem dX7_count_199 : decode cX7_count 199 = .ok (.invokevirtual 259, 3) := by decide +kernel
theorem dX7_count_202 : decode cX7_count 202 = .ok (.ireturn, 1) := by decide +kernel
theorem dX7_count_203 : decode cX7_count 203 = .ok (.aload_n 0, 1) := by decide +kernel
theorem dX7_count_204 : decode cX7_count 204 = .ok (.getfield 19, 3) := by decide +kernel
theorem dX7_count_207 : decode cX7_count 207 = .ok (.iload_n 1, 1) := by decide +kernel
theorem dX7_count_208 : decode cX7_count 208 = .ok (.iaload, 1) := by decide +kernel
theorem dX7_count_209 : decode cX7_count 209 = .ok (.ireturn, 1) := by decide +kernel
theorem dX7_count_210 : decode cX7_count 210 = .ok (.aload_n 0, 1) := by decide +kernel
theorem dX7_count_211 : decode cX7_count 211 = .ok (.iload_n 1, 1) := by decide +kernel
theorem dX7_count_212 : decode cX7_count 212 = .ok (.iconst 1, 1) := by decide +kernel
theorem dX7_count_213 : decode cX7_count 213 = .ok (.invokevirtual 255, 3) := by decide +kernel
theorem dX7_count_216 : decode cX7_count 216 = .ok (.ireturn, 1) := by decide +kernel
theorem dX7_count_217 : decode cX7_count 217 = .ok (.aload_n 0, 1) := by decide +kernel
theorem dX7_count_218 : decode cX7_count 218 = .ok (.getfield 28, 3) := by decide +kernel
theorem dX7_count_221 : decode cX7_count 221 = .ok (.iload_n 1, 1) := by decide +kernel
theorem dX7_count_222 : decode cX7_count 222 = .ok (.iaload, 1) := by decide +kernel
theorem dX7_count_223 : decode cX7_count 223 = .ok (.ireturn, 1) := by decide +kernel
theorem dX7_count_224 : decode cX7_count 224 = .ok (.aload_n 0, 1) := by decide +kernel
theorem dX7_count_225 : decode cX7_count 225 = .ok (.getfield 31, 3) := by decide +kernel
theorem dX7_count_228 : decode cX7_count 228 = .ok (.iload_n 1, 1) := by decide +kernel
theorem dX7_count_229 : decode cX7_count 229 = .ok (.iaload, 1) := by decide +kernel
theorem dX7_count_230 : decode cX7_count 230 = .ok (.ireturn, 1) := by decide +kernel
theorem dX7_ahead_0 : decode cX7_ahead 0 = .ok (.iconst 0, 1) := by decide +kernel
theorem dX7_ahead_1 : decode cX7_ahead 1 = .ok (.istore_n 2, 1) := by decide +kernel
theorem dX7_ahead_2 : decode cX7_ahead 2 = .ok (.iconst 0, 1) := by decide +kernel
theorem dX7_ahead_3 : decode cX7_ahead 3 = .ok (.istore_n 3, 1) := by decide +kernel
theorem dX7_ahead_4 : decode cX7_ahead 4 = .ok (.iload_n 3, 1) := by decide +kernel
theorem dX7_ahead_5 : decode cX7_ahead 5 = .ok (.aload_n 0, 1) := by decide +kernel
theorem dX7_ahead_6 : decode cX7_ahead 6 = .ok (.getfield 107, 3) := by decide +kernel
theorem dX7_ahead_9 : decode cX7_ahead 9 = .ok (.if_icmp .ge 64, 3) := by decide +kernel
theorem dX7_ahead_12 : decode cX7_ahead 12 = .ok (.aload_n 0, 1) := by decide +kernel
theorem dX7_ahead_13 : decode cX7_ahead 13 = .ok (.getfield 34, 3) := by decide +kernel
theorem dX7_ahead_16 : decode cX7_ahead 16 = .ok (.iload_n 3, 1) := by decide +kernel
theorem dX7_ahead_17 : decode cX7_ahead 17 = .ok (.iaload, 1) := by decide +kernel
theorem dX7_ahead_18 : decode cX7_ahead 18 = .ok (.aload_n 0, 1) := by decide +kernel
theorem dX7_ahead_19 : decode cX7_ahead 19 = .ok (.getfield 34, 3) := by decide +kernel
theorem dX7_ahead_22 : decode cX7_ahead 22 = .ok (.iload_n 1, 1) := by decide +kernel
theorem dX7_ahead_23 : decode cX7_ahead 23 = .ok (.iaload, 1) := by decide +kernel
theorem dX7_ahead_24 : decode cX7_ahead 24 = .ok (.if_icmp .ne 43, 3) := by decide +kernel
theorem dX7_ahead_27 : decode cX7_ahead 27 = .ok (.aload_n 0, 1) := by decide +kernel
theorem dX7_ahead_28 : decode cX7_ahead 28 = .ok (.getfield 43, 3) := by decide +kernel
theorem dX7_ahead_31 : decode cX7_ahead 31 = .ok (.iload_n 3, 1) := by decide +kernel
theorem dX7_ahead_32 : decode cX7_ahead 32 = .ok (.iaload, 1) := by decide +kernel
theorem dX7_ahead_33 : decode cX7_ahead 33 = .ok (.ifCond .ne 34, 3) := by decide +kernel
theorem dX7_ahead_36 : decode cX7_ahead 36 = .ok (.aload_n 0, 1) := by decide +kernel
theorem dX7_ahead_37 : decode cX7_ahead 37 = .ok (.iload_n 3, 1) := by decide +kernel
theorem dX7_ahead_38 : decode cX7_ahead 38 = .ok (.invokevirtual 145, 3) := by decide +kernel
theorem dX7_ahead_41 : decode cX7_ahead 41 = .ok (.aload_n 0, 1) := by decide +kernel
theorem dX7_ahead_42 : decode cX7_ahead 42 = .ok (.iload_n 1, 1) := by decide +kernel
theorem dX7_ahead_43 : decode cX7_ahead 43 = .ok (.invokevirtual 145, 3) := by decide +kernel
theorem dX7_ahead_46 : decode cX7_ahead 46 = .ok (.if_icmp .ne 21, 3) := by decide +kernel
theorem dX7_ahead_49 : decode cX7_ahead 49 = .ok (.aload_n 0, 1) := by decide +kernel
theorem dX7_ahead_50 : decode cX7_ahead 50 = .ok (.getfield 46, 3) := by decide +kernel
theorem dX7_ahead_53 : decode cX7_ahead 53 = .ok (.iload_n 3, 1) := by decide +kernel
theorem dX7_ahead_54 : decode cX7_ahead 54 = .ok (.iaload, 1) := by decide +kernel
theorem dX7_ahead_55 : decode cX7_ahead 55 = .ok (.aload_n 0, 1) := by decide +kernel
theorem dX7_ahead_56 : decode cX7_ahead 56 = .ok (.getfield 46, 3) := by decide +kernel
theorem dX7_ahead_59 : decode cX7_ahead 59 = .ok (.iload_n 1, 1) := by decide +kernel
theorem dX7_ahead_60 : decode cX7_ahead 60 = .ok (.iaload, 1) := by decide +kernel
theorem dX7_ahead_61 : decode cX7_ahead 61 = .ok (.if_icmp .le 6, 3) := by decide +kernel
theorem dX7_ahead_64 : decode cX7_ahead 64 = .ok (.iinc 2 1, 3) := by decide +kernel
theorem dX7_ahead_67 : decode cX7_ahead 67 = .ok (.iinc 3 1, 3) := by decide +kernel
theorem dX7_ahead_70 : decode cX7_ahead 70 = .ok (.goto (-66), 3) := by decide +kernel
theorem dX7_ahead_73 : decode cX7_ahead 73 = .ok (.iload_n 2, 1) := by decide +kernel
theorem dX7_ahead_74 : decode cX7_ahead 74 = .ok (.ireturn, 1) := by decide +kernel
theorem dX7_segment_0 : decode cX7_segment 0 = .ok (.aload_n 0, 1) := by decide +kernel
theorem dX7_segment_1 : decode cX7_segment 1 = .ok (.iload_n 1, 1) := by decide +kernel
theorem dX7_segment_2 : decode cX7_segment 2 = .ok (.invokevirtual 132, 3) := by decide +kernel
theorem dX7_segment_5 : decode cX7_segment 5 = .ok (.ifCond .ne 5, 3) := by decide +kernel
theorem dX7_segment_8 : decode cX7_segment 8 = .ok (.iconst 0, 1) := by decide +kernel
theorem dX7_segment_9 : decode cX7_segment 9 = .ok (.ireturn, 1) := by decide +kernel
theorem dX7_segment_10 : decode cX7_segment 10 = .ok (.aload_n 0, 1) := by decide +kernel
theorem dX7_segment_11 : decode cX7_segment 11 = .ok (.iload_n 1, 1) := by decide +kernel
theorem dX7_segment_12 : decode cX7_segment 12 = .ok (.ldc2_w 268, 3) := by decide +kernel
theorem dX7_segment_15 : decode cX7_segment 15 = .ok (.invokevirtual 113, 3) := by decide +kernel
theorem dX7_segment_18 : decode cX7_segment 18 = .ok (.iload_n 2, 1) := by decide +kernel
theorem dX7_segment_19 : decode cX7_segment 19 = .ok (.iadd, 1) := by decide +kernel
theorem dX7_segment_20 : decode cX7_segment 20 = .ok (.istore 4, 2) := by decide +kernel
theorem dX7_segment_22 : decode cX7_segment 22 = .ok (.aload_n 0, 1) := by decide +kernel
theorem dX7_segment_23 : decode cX7_segment 23 = .ok (.iload_n 2, 1) := by decide +kernel
theorem dX7_segment_24 : decode cX7_segment 24 = .ok (.ifCond .lt 29, 3) := by decide +kernel
theorem dX7_segment_27 : decode cX7_segment 27 = .ok (.iload_n 2, 1) := by decide +kernel
theorem dX7_segment_28 : decode cX7_segment 28 = .ok (.aload_n 0, 1) := by decide +kernel
theorem dX7_segment_29 : decode cX7_segment 29 = .ok (.iload_n 1, 1) := by decide +kernel
theorem dX7_segment_30 : decode cX7_segment 30 = .ok (.bipush 9, 2) := by decide +kernel
theorem dX7_segment_32 : decode cX7_segment 32 = .ok (.iconst 0, 1) := by decide +kernel
theorem dX7_segment_33 : decode cX7_segment 33 = .ok (.invokevirtual 259, 3) := by decide +kernel
theorem dX7_segment_36 : decode cX7_segment 36 = .ok (.if_icmp .ge 17, 3) := by decide +kernel
theorem dX7_segment_39 : decode cX7_segment 39 = .ok (.iload_n 3, 1) := by decide +kernel
theorem dX7_segment_40 : decode cX7_segment 40 = .ok (.ifCond .lt 13, 3) := by decide +kernel
theorem dX7_segment_43 : decode cX7_segment 43 = .ok (.iload_n 3, 1) := by decide +kernel
theorem dX7_segment_44 : decode cX7_segment 44 = .ok (.bipush 7, 2) := by decide +kernel
theorem dX7_segment_46 : decode cX7_segment 46 = .ok (.if_icmp .gt 7, 3) := by decide +kernel
theorem dX7_segment_49 : decode cX7_segment 49 = .ok (.iconst 1, 1) := by decide +kernel
theorem dX7_segment_50 : decode cX7_segment 50 = .ok (.goto 4, 3) := by decide +kernel
theorem dX7_segment_53 : decode cX7_segment 53 = .ok (.iconst 0, 1) := by decide +kernel
theorem dX7_segment_54 : decode cX7_segment 54 = .ok (.iconst 2, 1) := by decide +kernel
theorem dX7_segment_55 : decode cX7_segment 55 = .ok (.invokevirtual 97, 3) := by decide +kernel
theorem dX7_segment_58 : decode cX7_segment 58 = .ok (.ifCond .ne 5, 3) := by decide +kernel
theorem dX7_segment_61 : decode cX7_segment 61 = .ok (.iconst 0, 1) := by decide +kernel
theorem dX7_segment_62 : decode cX7_segment 62 = .ok (.ireturn, 1) := by decide +kernel
theorem dX7_segment_63 : decode cX7_segment 63 = .ok (.iload_n 3, 1) := by decide +kernel
theorem dX7_segment_64 : decode cX7_segment 64 = .ok (.tableswitch 136 0 6 #[44, 52, 60, 68, 89, 110, 123], 44) := by decide +kernel
theorem dX7_segment_108 : decode cX7_segment 108 = .ok (.aload_n 0, 1) := by decide +kernel
theorem dX7_segment_109 : decode cX7_segment 109 = .ok (.getfield 37, 3) := by decide +kernel
theorem dX7_segment_112 : decode cX7_segment 112 = .ok (.iload 4, 2) := by decide +kernel
theorem dX7_segment_114 : decode cX7_segment 114 = .ok (.iaload, 1) := by decide +kernel
theorem dX7_segment_115 : decode cX7_segment 115 = .ok (.ireturn, 1) := by decide +kernel
theorem dX7_segment_116 : decode cX7_segment 116 = .ok (.aload_n 0, 1) := by decide +kernel
theorem dX7_segment_117 : decode cX7_segment 117 = .ok (.getfield 40, 3) := by decide +kernel
theorem dX7_segment_120 : decode cX7_segment 120 = .ok (.iload 4, 2) := by decide +kernel
theorem dX7_segment_122 : decode cX7_segment 122 = .ok (.iaload, 1) := by decide +kernel
theorem dX7_segment_123 : decode cX7_segment 123 = .ok (.ireturn, 1) := by decide +kernel
theorem dX7_segment_124 : decode cX7_segment 124 = .ok (.aload_n 0, 1) := by decide +kernel
theorem dX7_segment_125 : decode cX7_segment 125 = .ok (.getfield 43, 3) := by decide +kernel
theorem dX7_segment_128 : decode cX7_segment 128 = .ok (.iload 4, 2) := by decide +kernel
theorem dX7_segment_130 : decode cX7_segment 130 = .ok (.iaload, 1) := by decide +kernel
theorem dX7_segment_131 : decode cX7_segment 131 = .ok (.ireturn, 1) := by decide +kernel
theorem dX7_segment_132 : decode cX7_segment 132 = .ok (.aload_n 0, 1) := by decide +kernel
theorem dX7_segment_133 : decode cX7_segment 133 = .ok (.getfield 43, 3) := by decide +kernel
theorem dX7_segment_136 : decode cX7_segment 136 = .ok (.iload 4, 2) := by decide +kernel
theorem dX7_segment_138 : decode cX7_segment 138 = .ok (.iaload, 1) := by decide +kernel
theorem dX7_segment_139 : decode cX7_segment 139 = .ok (.ifCond .ne 12, 3) := by decide +kernel
theorem dX7_segment_142 : decode cX7_segment 142 = .ok (.aload_n 0, 1) := by decide +kernel
theorem dX7_segment_143 : decode cX7_segment 143 = .ok (.iload 4, 2) := by decide +kernel
theorem dX7_segment_145 : decode cX7_segment 145 = .ok (.invokevirtual 145, 3) := by decide +kernel
theorem dX7_segment_148 : decode cX7_segment 148 = .ok (.goto 4, 3) := by decide +kernel
theorem dX7_segment_151 : decode cX7_segment 151 = .ok (.iconst (-1), 1) := by decide +kernel
theorem dX7_segment_152 : decode cX7_segment 152 = .ok (.ireturn, 1) := by decide +kernel
theorem dX7_segment_153 : decode cX7_segment 153 = .ok (.aload_n 0, 1) := by decide +kernel
theorem dX7_segment_154 : decode cX7_segment 154 = .ok (.getfield 43, 3) := by decide +kernel
theorem dX7_segment_157 : decode cX7_segment 157 = .ok (.iload 4, 2) := by decide +kernel
theorem dX7_segment_159 : decode cX7_segment 159 = .ok (.iaload, 1) := by decide +kernel
theorem dX7_segment_160 : decode cX7_segment 160 = .ok (.ifCond .ne 12, 3) := by decide +kernel
theorem dX7_segment_163 : decode cX7_segment 163 = .ok (.aload_n 0, 1) := by decide +kernel
theorem dX7_segment_164 : decode cX7_segment 164 = .ok (.iload 4, 2) := by decide +kernel
theorem dX7_segment_166 : decode cX7_segment 166 = .ok (.invokevirtual 270, 3) := by decide +kernel
theorem dX7_segment_169 : decode cX7_segment 169 = .ok (.goto 4, 3) := by decide +kernel
theorem dX7_segment_172 : decode cX7_segment 172 = .ok (.iconst (-1), 1) := by decide +kernel
theorem dX7_segment_173 : decode cX7_segment 173 = .ok (.ireturn, 1) := by decide +kernel
theorem dX7_segment_174 : decode cX7_segment 174 = .ok (.aload_n 0, 1) := by decide +kernel
theorem dX7_segment_175 : decode cX7_segment 175 = .ok (.getfield 58, 3) := by decide +kernel
theorem dX7_segment_178 : decode cX7_segment 178 = .ok (.aload_n 0, 1) := by decide +kernel
theorem dX7_segment_179 : decode cX7_segment 179 = .ok (.getfield 49, 3) := by decide +kernel
theorem dX7_segment_182 : decode cX7_segment 182 = .ok (.iload 4, 2) := by decide +kernel
theorem dX7_segment_184 : decode cX7_segment 184 = .ok (.iaload, 1) := by decide +kernel
theorem dX7_segment_185 : decode cX7_segment 185 = .ok (.iaload, 1) := by decide +kernel
theorem dX7_segment_186 : decode cX7_segment 186 = .ok (.ireturn, 1) := by decide +kernel
theorem dX7_segment_187 : decode cX7_segment 187 = .ok (.aload_n 0, 1) := by decide +kernel
theorem dX7_segment_188 : decode cX7_segment 188 = .ok (.getfield 61, 3) := by decide +kernel
theorem dX7_segment_191 : decode cX7_segment 191 = .ok (.aload_n 0, 1) := by decide +kernel
theorem dX7_segment_192 : decode cX7_segment 192 = .ok (.getfield 49, 3) := by decide +kernel
theorem dX7_segment_195 : decode cX7_segment 195 = .ok (.iload 4, 2) := by decide +kernel
theorem dX7_segment_197 : decode cX7_segment 197 = .ok (.iaload, 1) := by decide +kernel
theorem dX7_segment_198 : decode cX7_segment 198 = .ok (.iaload, 1) := by decide +kernel
theorem dX7_segment_199 : decode cX7_segment 199 = .ok (.ireturn, 1) := by decide +kernel
theorem dX7_segment_200 : decode cX7_segment 200 = .ok (.aload_n 0, 1) := by decide +kernel
theorem dX7_segment_201 : decode cX7_segment 201 = .ok (.getfield 68, 3) := by decide +kernel
theorem dX7_segment_204 : decode cX7_segment 204 = .ok (.aload_n 0, 1) := by decide +kernel
theorem dX7_segment_205 : decode cX7_segment 205 = .ok (.getfield 49, 3) := by decide +kernel
theorem dX7_segment_208 : decode cX7_segment 208 = .ok (.iload 4, 2) := by decide +kernel
theorem dX7_segment_210 : decode cX7_segment 210 = .ok (.iaload, 1) := by decide +kernel
theorem dX7_segment_211 : decode cX7_segment 211 = .ok (.baload, 1) := by decide +kernel
theorem dX7_segment_212 : decode cX7_segment 212 = .ok (.ifCond .eq 7, 3) := by decide +kernel
theorem dX7_segment_215 : decode cX7_segment 215 = .ok (.iconst 1, 1) := by decide +kernel
theorem dX7_segment_216 : decode cX7_segment 216 = .ok (.goto 4, 3) := by decide +kernel
theorem dX7_segment_219 : decode cX7_segment 219 = .ok (.iconst 0, 1) := by decide +kernel
theorem dX7_segment_220 : decode cX7_segment 220 = .ok (.ireturn, 1) := by decide +kernel
theorem dX7_cache_0 : decode cX7_cache 0 = .ok (.aload_n 0, 1) := by decide +kernel
theorem dX7_cache_1 : decode cX7_cache 1 = .ok (.iload_n 1, 1) := by decide +kernel
theorem dX7_cache_2 : decode cX7_cache 2 = .ok (.invokevirtual 132, 3) := by decide +kernel
theorem dX7_cache_5 : decode cX7_cache 5 = .ok (.ifCond .ne 5, 3) := by decide +kernel
theorem dX7_cache_8 : decode cX7_cache 8 = .ok (.iconst 0, 1) := by decide +kernel
theorem dX7_cache_9 : decode cX7_cache 9 = .ok (.ireturn, 1) := by decide +kernel
theorem dX7_cache_10 : decode cX7_cache 10 = .ok (.aload_n 0, 1) := by decide +kernel
theorem dX7_cache_11 : decode cX7_cache 11 = .ok (.iload_n 2, 1) := by decide +kernel
theorem dX7_cache_12 : decode cX7_cache 12 = .ok (.iconst 1, 1) := by decide +kernel
theorem dX7_cache_13 : decode cX7_cache 13 = .ok (.if_icmp .lt 27, 3) := by decide +kernel
theorem dX7_cache_16 : decode cX7_cache 16 = .ok (.iload_n 2, 1) := by decide +kernel
theorem dX7_cache_17 : decode cX7_cache 17 = .ok (.aload_n 0, 1) := by decide +kernel
theorem dX7_cache_18 : decode cX7_cache 18 = .ok (.getfield 16, 3) := by decide +kernel
theorem dX7_cache_21 : decode cX7_cache 21 = .ok (.iload_n 1, 1) := by decide +kernel
theorem dX7_cache_22 : decode cX7_cache 22 = .ok (.iaload, 1) := by decide +kernel
theorem dX7_cache_23 : decode cX7_cache 23 = .ok (.if_icmp .gt 17, 3) := by decide +kernel
theorem dX7_cache_26 : decode cX7_cache 26 = .ok (.iload_n 3, 1) := by decide +kernel
theorem dX7_cache_27 : decode cX7_cache 27 = .ok (.ifCond .lt 13, 3) := by decide +kernel
theorem dX7_cache_30 : decode cX7_cache 30 = .ok (.iload_n 3, 1) := by decide +kernel
theorem dX7_cache_31 : decode cX7_cache 31 = .ok (.bipush 9, 2) := by decide +kernel
theorem dX7_cache_33 : decode cX7_cache 33 = .ok (.if_icmp .gt 7, 3) := by decide +kernel
theorem dX7_cache_36 : decode cX7_cache 36 = .ok (.iconst 1, 1) := by decide +kernel
theorem dX7_cache_37 : decode cX7_cache 37 = .ok (.goto 4, 3) := by decide +kernel
theorem dX7_cache_40 : decode cX7_cache 40 = .ok (.iconst 0, 1) := by decide +kernel
theorem dX7_cache_41 : decode cX7_cache 41 = .ok (.iconst 2, 1) := by decide +kernel
theorem dX7_cache_42 : decode cX7_cache 42 = .ok (.invokevirtual 97, 3) := by decide +kernel
theorem dX7_cache_45 : decode cX7_cache 45 = .ok (.ifCond .ne 5, 3) := by decide +kernel
theorem dX7_cache_48 : decode cX7_cache 48 = .ok (.iconst 0, 1) := by decide +kernel
theorem dX7_cache_49 : decode cX7_cache 49 = .ok (.ireturn, 1) := by decide +kernel
theorem dX7_cache_50 : decode cX7_cache 50 = .ok (.iload_n 1, 1) := by decide +kernel
theorem dX7_cache_51 : decode cX7_cache 51 = .ok (.iload_n 2, 1) := by decide +kernel
theorem dX7_cache_52 : decode cX7_cache 52 = .ok (.iconst 0, 1) := by decide +kernel
theorem dX7_cache_53 : decode cX7_cache 53 = .ok (.iconst 0, 1) := by decide +kernel
theorem dX7_cache_54 : decode cX7_cache 54 = .ok (.invokestatic 190, 3) := by decide +kernel
theorem dX7_cache_57 : decode cX7_cache 57 = .ok (.istore 4, 2) := by decide +kernel
theorem dX7_cache_59 : decode cX7_cache 59 = .ok (.iload_n 3, 1) := by decide +kernel
theorem dX7_cache_60 : decode cX7_cache 60 = .ok (.tableswitch 80 0 7 #[48, 56, 56, 56, 56, 68, 48, 48], 48) := by decide +kernel
theorem dX7_cache_108 : decode cX7_cache 108 = .ok (.aload_n 0, 1) := by decide +kernel
theorem dX7_cache_109 : decode cX7_cache 109 = .ok (.iload_n 1, 1) := by decide +kernel
theorem dX7_cache_110 : decode cX7_cache 110 = .ok (.iload_n 2, 1) := by decide +kernel
theorem dX7_cache_111 : decode cX7_cache 111 = .ok (.iload_n 3, 1) := by decide +kernel
theorem dX7_cache_112 : decode cX7_cache 112 = .ok (.invokevirtual 273, 3) := by decide +kernel
theorem dX7_cache_115 : decode cX7_cache 115 = .ok (.ireturn, 1) := by decide +kernel
theorem dX7_cache_116 : decode cX7_cache 116 = .ok (.aload_n 0, 1) := by decide +kernel
theorem dX7_cache_117 : decode cX7_cache 117 = .ok (.getfield 78, 3) := by decide +kernel
theorem dX7_cache_120 : decode cX7_cache 120 = .ok (.iload 4, 2) := by decide +kernel
theorem dX7_cache_122 : decode cX7_cache 122 = .ok (.iload_n 3, 1) := by decide +kernel
theorem dX7_cache_123 : decode cX7_cache 123 = .ok (.iadd, 1) := by decide +kernel
theorem dX7_cache_124 : decode cX7_cache 124 = .ok (.iconst 1, 1) := by decide +kernel
theorem dX7_cache_125 : decode cX7_cache 125 = .ok (.isub, 1) := by decide +kernel
theorem dX7_cache_126 : decode cX7_cache 126 = .ok (.iaload, 1) := by decide +kernel
theorem dX7_cache_127 : decode cX7_cache 127 = .ok (.ireturn, 1) := by decide +kernel
theorem dX7_cache_128 : decode cX7_cache 128 = .ok (.aload_n 0, 1) := by decide +kernel
theorem dX7_cache_129 : decode cX7_cache 129 = .ok (.getfield 84, 3) := by decide +kernel
theorem dX7_cache_132 : decode cX7_cache 132 = .ok (.bipush 9, 2) := by decide +kernel
theorem dX7_cache_134 : decode cX7_cache 134 = .ok (.iload_n 1, 1) := by decide +kernel
theorem dX7_cache_135 : decode cX7_cache 135 = .ok (.imul, 1) := by decide +kernel
theorem dX7_cache_136 : decode cX7_cache 136 = .ok (.iload_n 2, 1) := by decide +kernel
theorem dX7_cache_137 : decode cX7_cache 137 = .ok (.iadd, 1) := by decide +kernel
theorem dX7_cache_138 : decode cX7_cache 138 = .ok (.iaload, 1) := by decide +kernel
theorem dX7_cache_139 : decode cX7_cache 139 = .ok (.ireturn, 1) := by decide +kernel
theorem dX7_cache_140 : decode cX7_cache 140 = .ok (.iload_n 3, 1) := by decide +kernel
theorem dX7_cache_141 : decode cX7_cache 141 = .ok (.bipush 8, 2) := by decide +kernel
theorem dX7_cache_143 : decode cX7_cache 143 = .ok (.if_icmp .ne 8, 3) := by decide +kernel
theorem dX7_cache_146 : decode cX7_cache 146 = .ok (.iload 4, 2) := by decide +kernel
theorem dX7_cache_148 : decode cX7_cache 148 = .ok (.goto 7, 3) := by decide +kernel
theorem dX7_cache_151 : decode cX7_cache 151 = .ok (.iload 4, 2) := by decide +kernel
theorem dX7_cache_153 : decode cX7_cache 153 = .ok (.iconst 2, 1) := by decide +kernel
theorem dX7_cache_154 : decode cX7_cache 154 = .ok (.iadd, 1) := by decide +kernel
theorem dX7_cache_155 : decode cX7_cache 155 = .ok (.istore 5, 2) := by decide +kernel
theorem dX7_cache_157 : decode cX7_cache 157 = .ok (.aload_n 0, 1) := by decide +kernel
theorem dX7_cache_158 : decode cX7_cache 158 = .ok (.getfield 78, 3) := by decide +kernel
theorem dX7_cache_161 : decode cX7_cache 161 = .ok (.iload 5, 2) := by decide +kernel
theorem dX7_cache_163 : decode cX7_cache 163 = .ok (.iaload, 1) := by decide +kernel
theorem dX7_cache_164 : decode cX7_cache 164 = .ok (.ifCond .le 25, 3) := by decide +kernel
theorem dX7_cache_167 : decode cX7_cache 167 = .ok (.aload_n 0, 1) := by decide +kernel
theorem dX7_cache_168 : decode cX7_cache 168 = .ok (.getfield 81, 3) := by decide +kernel
theorem dX7_cache_171 : decode cX7_cache 171 = .ok (.iconst 3, 1) := by decide +kernel
theorem dX7_cache_172 : decode cX7_cache 172 = .ok (.iload 5, 2) := by decide +kernel
theorem dX7_cache_174 : decode cX7_cache 174 = .ok (.imul, 1) := by decide +kernel
theorem dX7_cache_175 : decode cX7_cache 175 = .ok (.aload_n 0, 1) := by decide +kernel
theorem dX7_cache_176 : decode cX7_cache 176 = .ok (.getfield 78, 3) := by decide +kernel
theorem dX7_cache_179 : decode cX7_cache 179 = .ok (.iload 5, 2) := by decide +kernel
theorem dX7_cache_181 : decode cX7_cache 181 = .ok (.iaload, 1) := by decide +kernel
theorem dX7_cache_182 : decode cX7_cache 182 = .ok (.iadd, 1) := by decide +kernel
theorem dX7_cache_183 : decode cX7_cache 183 = .ok (.iconst 1, 1) := by decide +kernel
theorem dX7_cache_184 : decode cX7_cache 184 = .ok (.isub, 1) := by decide +kernel
theorem dX7_cache_185 : decode cX7_cache 185 = .ok (.iaload, 1) := by decide +kernel
theorem dX7_cache_186 : decode cX7_cache 186 = .ok (.goto 4, 3) := by decide +kernel
theorem dX7_cache_189 : decode cX7_cache 189 = .ok (.iconst (-1), 1) := by decide +kernel
theorem dX7_cache_190 : decode cX7_cache 190 = .ok (.ireturn, 1) := by decide +kernel
theorem dX7_counted_0 : decode cX7_counted 0 = .ok (.iconst 0, 1) := by decide +kernel
theorem dX7_counted_1 : decode cX7_counted 1 = .ok (.istore 4, 2) := by decide +kernel
theorem dX7_counted_3 : decode cX7_counted 3 = .ok (.iconst 0, 1) := by decide +kernel
theorem dX7_counted_4 : decode cX7_counted 4 = .ok (.istore 5, 2) := by decide +kernel
theorem dX7_counted_6 : decode cX7_counted 6 = .ok (.iconst 0, 1) := by decide +kernel
theorem dX7_counted_7 : decode cX7_counted 7 = .ok (.istore 6, 2) := by decide +kernel
theorem dX7_counted_9 : decode cX7_counted 9 = .ok (.iconst 0, 1) := by decide +kernel
theorem dX7_counted_10 : decode cX7_counted 10 = .ok (.istore 7, 2) := by decide +kernel
theorem dX7_counted_12 : decode cX7_counted 12 = .ok (.iload 7, 2) := by decide +kernel
theorem dX7_counted_14 : decode cX7_counted 14 = .ok (.aload_n 0, 1) := by decide +kernel
theorem dX7_counted_15 : decode cX7_counted 15 = .ok (.getfield 107, 3) := by decide +kernel
theorem dX7_counted_18 : decode cX7_counted 18 = .ok (.if_icmp .ge 97, 3) := by decide +kernel
theorem dX7_counted_21 : decode cX7_counted 21 = .ok (.aload_n 0, 1) := by decide +kernel
theorem dX7_counted_22 : decode cX7_counted 22 = .ok (.iload 7, 2) := by decide +kernel
theorem dX7_counted_24 : decode cX7_counted 24 = .ok (.iload_n 1, 1) := by decide +kernel
theorem dX7_counted_25 : decode cX7_counted 25 = .ok (.iload_n 2, 1) := by decide +kernel
theorem dX7_counted_26 : decode cX7_counted 26 = .ok (.invokevirtual 196, 3) := by decide +kernel
theorem dX7_counted_29 : decode cX7_counted 29 = .ok (.ifCond .ne 6, 3) := by decide +kernel
theorem dX7_counted_32 : decode cX7_counted 32 = .ok (.goto 77, 3) := by decide +kernel
theorem dX7_counted_35 : decode cX7_counted 35 = .ok (.iinc 6 1, 3) := by decide +kernel
theorem dX7_counted_38 : decode cX7_counted 38 = .ok (.iconst 0, 1) := by decide +kernel
theorem dX7_counted_39 : decode cX7_counted 39 = .ok (.istore 8, 2) := by decide +kernel
theorem dX7_counted_41 : decode cX7_counted 41 = .ok (.iload 8, 2) := by decide +kernel
theorem dX7_counted_43 : decode cX7_counted 43 = .ok (.aload_n 0, 1) := by decide +kernel
theorem dX7_counted_44 : decode cX7_counted 44 = .ok (.iload_n 1, 1) := by decide +kernel
theorem dX7_counted_45 : decode cX7_counted 45 = .ok (.iload_n 2, 1) := by decide +kernel
theorem dX7_counted_46 : decode cX7_counted 46 = .ok (.invokevirtual 200, 3) := by decide +kernel
theorem dX7_counted_49 : decode cX7_counted 49 = .ok (.if_icmp .ge 60, 3) := by decide +kernel
theorem dX7_counted_52 : decode cX7_counted 52 = .ok (.aload_n 0, 1) := by decide +kernel
theorem dX7_counted_53 : decode cX7_counted 53 = .ok (.getfield 37, 3) := by decide +kernel
theorem dX7_counted_56 : decode cX7_counted 56 = .ok (.iload 7, 2) := by decide +kernel
theorem dX7_counted_58 : decode cX7_counted 58 = .ok (.iaload, 1) := by decide +kernel
theorem dX7_counted_59 : decode cX7_counted 59 = .ok (.iload 8, 2) := by decide +kernel
theorem dX7_counted_61 : decode cX7_counted 61 = .ok (.iload_n 2, 1) := by decide +kernel
theorem dX7_counted_62 : decode cX7_counted 62 = .ok (.imul, 1) := by decide +kernel
theorem dX7_counted_63 : decode cX7_counted 63 = .ok (.aload_n 0, 1) := by decide +kernel
theorem dX7_counted_64 : decode cX7_counted 64 = .ok (.getfield 7, 3) := by decide +kernel
theorem dX7_counted_67 : decode cX7_counted 67 = .ok (.iload_n 1, 1) := by decide +kernel
theorem dX7_counted_68 : decode cX7_counted 68 = .ok (.iaload, 1) := by decide +kernel
theorem dX7_counted_69 : decode cX7_counted 69 = .ok (.imul, 1) := by decide +kernel
theorem dX7_counted_70 : decode cX7_counted 70 = .ok (.iadd, 1) := by decide +kernel
theorem dX7_counted_71 : decode cX7_counted 71 = .ok (.istore 9, 2) := by decide +kernel
theorem dX7_counted_73 : decode cX7_counted 73 = .ok (.aload_n 0, 1) := by decide +kernel
theorem dX7_counted_74 : decode cX7_counted 74 = .ok (.iload_n 1, 1) := by decide +kernel
theorem dX7_counted_75 : decode cX7_counted 75 = .ok (.iload 9, 2) := by decide +kernel
theorem dX7_counted_77 : decode cX7_counted 77 = .ok (.invokevirtual 186, 3) := by decide +kernel
theorem dX7_counted_80 : decode cX7_counted 80 = .ok (.ifCond .eq 9, 3) := by decide +kernel
theorem dX7_counted_83 : decode cX7_counted 83 = .ok (.iinc 4 1, 3) := by decide +kernel
theorem dX7_counted_86 : decode cX7_counted 86 = .ok (.goto 17, 3) := by decide +kernel
theorem dX7_counted_89 : decode cX7_counted 89 = .ok (.aload_n 0, 1) := by decide +kernel
theorem dX7_counted_90 : decode cX7_counted 90 = .ok (.iload_n 1, 1) := by decide +kernel
theorem dX7_counted_91 : decode cX7_counted 91 = .ok (.iload_n 2, 1) := by decide +kernel
theorem dX7_counted_92 : decode cX7_counted 92 = .ok (.iload 9, 2) := by decide +kernel
theorem dX7_counted_94 : decode cX7_counted 94 = .ok (.invokevirtual 203, 3) := by decide +kernel
theorem dX7_counted_97 : decode cX7_counted 97 = .ok (.ifCond .eq 6, 3) := by decide +kernel
theorem dX7_counted_100 : decode cX7_counted 100 = .ok (.iinc 5 1, 3) := by decide +kernel
theorem dX7_counted_103 : decode cX7_counted 103 = .ok (.iinc 8 1, 3) := by decide +kernel
theorem dX7_counted_106 : decode cX7_counted 106 = .ok (.goto (-65), 3) := by decide +kernel
theorem dX7_counted_109 : decode cX7_counted 109 = .ok (.iinc 7 1, 3) := by decide +kernel
theorem dX7_counted_112 : decode cX7_counted 112 = .ok (.goto (-100), 3) := by decide +kernel
theorem dX7_counted_115 : decode cX7_counted 115 = .ok (.iload_n 3, 1) := by decide +kernel
theorem dX7_counted_116 : decode cX7_counted 116 = .ok (.ifCond .ne 8, 3) := by decide +kernel
theorem dX7_counted_119 : decode cX7_counted 119 = .ok (.iload 4, 2) := by decide +kernel
theorem dX7_counted_121 : decode cX7_counted 121 = .ok (.goto 16, 3) := by decide +kernel
theorem dX7_counted_124 : decode cX7_counted 124 = .ok (.iload_n 3, 1) := by decide +kernel
theorem dX7_counted_125 : decode cX7_counted 125 = .ok (.bipush 6, 2) := by decide +kernel
theorem dX7_counted_127 : decode cX7_counted 127 = .ok (.if_icmp .ne 8, 3) := by decide +kernel
theorem dX7_counted_130 : decode cX7_counted 130 = .ok (.iload 5, 2) := by decide +kernel
theorem dX7_counted_132 : decode cX7_counted 132 = .ok (.goto 5, 3) := by decide +kernel
theorem dX7_counted_135 : decode cX7_counted 135 = .ok (.iload 6, 2) := by decide +kernel
theorem dX7_counted_137 : decode cX7_counted 137 = .ok (.ireturn, 1) := by decide +kernel
theorem dX7_where_0 : decode cX7_where 0 = .ok (.aload_n 0, 1) := by decide +kernel
theorem dX7_where_1 : decode cX7_where 1 = .ok (.iload_n 1, 1) := by decide +kernel
theorem dX7_where_2 : decode cX7_where 2 = .ok (.invokevirtual 132, 3) := by decide +kernel
theorem dX7_where_5 : decode cX7_where 5 = .ok (.ifCond .ne 5, 3) := by decide +kernel
theorem dX7_where_8 : decode cX7_where 8 = .ok (.iconst 0, 1) := by decide +kernel
theorem dX7_where_9 : decode cX7_where 9 = .ok (.ireturn, 1) := by decide +kernel
theorem dX7_where_10 : decode cX7_where 10 = .ok (.iconst 0, 1) := by decide +kernel
theorem dX7_where_11 : decode cX7_where 11 = .ok (.istore_n 3, 1) := by decide +kernel
theorem dX7_where_12 : decode cX7_where 12 = .ok (.iload_n 3, 1) := by decide +kernel
theorem dX7_where_13 : decode cX7_where 13 = .ok (.aload_n 0, 1) := by decide +kernel
theorem dX7_where_14 : decode cX7_where 14 = .ok (.getfield 107, 3) := by decide +kernel
theorem dX7_where_17 : decode cX7_where 17 = .ok (.if_icmp .ge 120, 3) := by decide +kernel
theorem dX7_where_20 : decode cX7_where 20 = .ok (.aload_n 0, 1) := by decide +kernel
theorem dX7_where_21 : decode cX7_where 21 = .ok (.getfield 34, 3) := by decide +kernel
theorem dX7_where_24 : decode cX7_where 24 = .ok (.iload_n 3, 1) := by decide +kernel
theorem dX7_where_25 : decode cX7_where 25 = .ok (.iaload, 1) := by decide +kernel
theorem dX7_where_26 : decode cX7_where 26 = .ok (.iload_n 1, 1) := by decide +kernel
theorem dX7_where_27 : decode cX7_where 27 = .ok (.if_icmp .ne 104, 3) := by decide +kernel
theorem dX7_where_30 : decode cX7_where 30 = .ok (.iload_n 2, 1) := by decide +kernel
theorem dX7_where_31 : decode cX7_where 31 = .ok (.aload_n 0, 1) := by decide +kernel
theorem dX7_where_32 : decode cX7_where 32 = .ok (.getfield 37, 3) := by decide +kernel
theorem dX7_where_35 : decode cX7_where 35 = .ok (.iload_n 3, 1) := by decide +kernel
theorem dX7_where_36 : decode cX7_where 36 = .ok (.iaload, 1) := by decide +kernel
theorem dX7_where_37 : decode cX7_where 37 = .ok (.if_icmp .lt 94, 3) := by decide +kernel
theorem dX7_where_40 : decode cX7_where 40 = .ok (.iload_n 2, 1) := by decide +kernel
theorem dX7_where_41 : decode cX7_where 41 = .ok (.aload_n 0, 1) := by decide +kernel
theorem dX7_where_42 : decode cX7_where 42 = .ok (.getfield 37, 3) := by decide +kernel
theorem dX7_where_45 : decode cX7_where 45 = .ok (.iload_n 3, 1) := by decide +kernel
theorem dX7_where_46 : decode cX7_where 46 = .ok (.iaload, 1) := by decide +kernel
theorem dX7_where_47 : decode cX7_where 47 = .ok (.aload_n 0, 1) := by decide +kernel
theorem dX7_where_48 : decode cX7_where 48 = .ok (.getfield 40, 3) := by decide +kernel
theorem dX7_where_51 : decode cX7_where 51 = .ok (.iload_n 3, 1) := by decide +kernel
theorem dX7_where_52 : decode cX7_where 52 = .ok (.iaload, 1) := by decide +kernel
theorem dX7_where_53 : decode cX7_where 53 = .ok (.iadd, 1) := by decide +kernel
theorem dX7_where_54 : decode cX7_where 54 = .ok (.if_icmp .lt 6, 3) := by decide +kernel
theorem dX7_where_57 : decode cX7_where 57 = .ok (.goto 74, 3) := by decide +kernel
theorem dX7_where_60 : decode cX7_where 60 = .ok (.aload_n 0, 1) := by decide +kernel
theorem dX7_where_61 : decode cX7_where 61 = .ok (.getfield 43, 3) := by decide +kernel
theorem dX7_where_64 : decode cX7_where 64 = .ok (.iload_n 3, 1) := by decide +kernel
theorem dX7_where_65 : decode cX7_where 65 = .ok (.iaload, 1) := by decide +kernel
theorem dX7_where_66 : decode cX7_where 66 = .ok (.iconst 2, 1) := by decide +kernel
theorem dX7_where_67 : decode cX7_where 67 = .ok (.if_icmp .eq 10, 3) := by decide +kernel
theorem dX7_where_70 : decode cX7_where 70 = .ok (.aload_n 0, 1) := by decide +kernel
theorem dX7_where_71 : decode cX7_where 71 = .ok (.getfield 43, 3) := by decide +kernel
theorem dX7_where_74 : decode cX7_where 74 = .ok (.iload_n 3, 1) := by decide +kernel
theorem dX7_where_75 : decode cX7_where 75 = .ok (.iaload, 1) := by decide +kernel
theorem dX7_where_76 : decode cX7_where 76 = .ok (.ireturn, 1) := by decide +kernel
theorem dX7_where_77 : decode cX7_where 77 = .ok (.aload_n 0, 1) := by decide +kernel
theorem dX7_where_78 : decode cX7_where 78 = .ok (.getfield 52, 3) := by decide +kernel
theorem dX7_where_81 : decode cX7_where 81 = .ok (.iload_n 3, 1) := by decide +kernel
theorem dX7_where_82 : decode cX7_where 82 = .ok (.iaload, 1) := by decide +kernel
theorem dX7_where_83 : decode cX7_where 83 = .ok (.aload_n 0, 1) := by decide +kernel
theorem dX7_where_84 : decode cX7_where 84 = .ok (.getfield 7, 3) := by decide +kernel
theorem dX7_where_87 : decode cX7_where 87 = .ok (.iload_n 1, 1) := by decide +kernel
theorem dX7_where_88 : decode cX7_where 88 = .ok (.iaload, 1) := by decide +kernel
theorem dX7_where_89 : decode cX7_where 89 = .ok (.imul, 1) := by decide +kernel
theorem dX7_where_90 : decode cX7_where 90 = .ok (.istore 4, 2) := by decide +kernel
theorem dX7_where_92 : decode cX7_where 92 = .ok (.aload_n 0, 1) := by decide +kernel
theorem dX7_where_93 : decode cX7_where 93 = .ok (.getfield 37, 3) := by decide +kernel
theorem dX7_where_96 : decode cX7_where 96 = .ok (.iload_n 3, 1) := by decide +kernel
theorem dX7_where_97 : decode cX7_where 97 = .ok (.iaload, 1) := by decide +kernel
theorem dX7_where_98 : decode cX7_where 98 = .ok (.iload_n 2, 1) := by decide +kernel
theorem dX7_where_99 : decode cX7_where 99 = .ok (.aload_n 0, 1) := by decide +kernel
theorem dX7_where_100 : decode cX7_where 100 = .ok (.getfield 37, 3) := by decide +kernel
theorem dX7_where_103 : decode cX7_where 103 = .ok (.iload_n 3, 1) := by decide +kernel
theorem dX7_where_104 : decode cX7_where 104 = .ok (.iaload, 1) := by decide +kernel
theorem dX7_where_105 : decode cX7_where 105 = .ok (.isub, 1) := by decide +kernel
theorem dX7_where_106 : decode cX7_where 106 = .ok (.iload 4, 2) := by decide +kernel
theorem dX7_where_108 : decode cX7_where 108 = .ok (.idiv, 1) := by decide +kernel
theorem dX7_where_109 : decode cX7_where 109 = .ok (.iload 4, 2) := by decide +kernel
theorem dX7_where_111 : decode cX7_where 111 = .ok (.imul, 1) := by decide +kernel
theorem dX7_where_112 : decode cX7_where 112 = .ok (.iadd, 1) := by decide +kernel
theorem dX7_where_113 : decode cX7_where 113 = .ok (.istore 5, 2) := by decide +kernel
theorem dX7_where_115 : decode cX7_where 115 = .ok (.aload_n 0, 1) := by decide +kernel
theorem dX7_where_116 : decode cX7_where 116 = .ok (.iload_n 1, 1) := by decide +kernel
theorem dX7_where_117 : decode cX7_where 117 = .ok (.iload 5, 2) := by decide +kernel
theorem dX7_where_119 : decode cX7_where 119 = .ok (.invokevirtual 186, 3) := by decide +kernel
theorem dX7_where_122 : decode cX7_where 122 = .ok (.ifCond .eq 7, 3) := by decide +kernel
theorem dX7_where_125 : decode cX7_where 125 = .ok (.iconst 1, 1) := by decide +kernel
theorem dX7_where_126 : decode cX7_where 126 = .ok (.goto 4, 3) := by decide +kernel
theorem dX7_where_129 : decode cX7_where 129 = .ok (.iconst 2, 1) := by decide +kernel
theorem dX7_where_130 : decode cX7_where 130 = .ok (.ireturn, 1) := by decide +kernel
