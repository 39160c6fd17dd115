theorem dX0_init_0 : decode cX0_init 0 = .ok (.aload_n 0, 1) := by decide +kernel
theorem dX0_init_1 : decode cX0_init 1 = .ok (.invokespecial 3, 3) := by decide +kernel
theorem dX0_init_4 : decode cX0_init 4 = .ok (.aload_n 0, 1) := by decide +kernel
theorem dX0_init_5 : decode cX0_init 5 = .ok (.iload_n 1, 1) := by decide +kernel
theorem dX0_init_6 : decode cX0_init 6 = .ok (.putfield 9, 3) := by decide +kernel
theorem dX0_init_9 : decode cX0_init 9 = .ok (.aload_n 0, 1) := by decide +kernel
theorem dX0_init_10 : decode cX0_init 10 = .ok (.iload_n 2, 1) := by decide +kernel
theorem dX0_init_11 : decode cX0_init 11 = .ok (.putfield 15, 3) := by decide +kernel
theorem dX0_init_14 : decode cX0_init 14 = .ok (.aload_n 0, 1) := by decide +kernel
theorem dX0_init_15 : decode cX0_init 15 = .ok (.iload_n 2, 1) := by decide +kernel
theorem dX0_init_16 : decode cX0_init 16 = .ok (.invokestatic 18, 3) := by decide +kernel
theorem dX0_init_19 : decode cX0_init 19 = .ok (.putfield 24, 3) := by decide +kernel
theorem dX0_init_22 : decode cX0_init 22 = .ok (.aload_n 0, 1) := by decide +kernel
theorem dX0_init_23 : decode cX0_init 23 = .ok (.aload_n 3, 1) := by decide +kernel
theorem dX0_init_24 : decode cX0_init 24 = .ok (.putfield 27, 3) := by decide +kernel
theorem dX0_init_27 : decode cX0_init 27 = .ok (.aload_n 0, 1) := by decide +kernel
theorem dX0_init_28 : decode cX0_init 28 = .ok (.iload 4, 2) := by decide +kernel
theorem dX0_init_30 : decode cX0_init 30 = .ok (.putfield 31, 3) := by decide +kernel
theorem dX0_init_33 : decode cX0_init 33 = .ok (.aload_n 0, 1) := by decide +kernel
theorem dX0_init_34 : decode cX0_init 34 = .ok (.ldc 34, 2) := by decide +kernel
theorem dX0_init_36 : decode cX0_init 36 = .ok (.putfield 35, 3) := by decide +kernel
theorem dX0_init_39 : decode cX0_init 39 = .ok (.iconst 1, 1) := by decide +kernel
theorem dX0_init_40 : decode cX0_init 40 = .ok (.istore 5, 2) := by decide +kernel
theorem dX0_init_42 : decode cX0_init 42 = .ok (.iload 5, 2) := by decide +kernel
theorem dX0_init_44 : decode cX0_init 44 = .ok (.iconst 3, 1) := by decide +kernel
theorem dX0_init_45 : decode cX0_init 45 = .ok (.iload 4, 2) := by decide +kernel
theorem dX0_init_47 : decode cX0_init 47 = .ok (.imul, 1) := by decide +kernel
theorem dX0_init_48 : decode cX0_init 48 = .ok (.if_icmp .ge 19, 3) := by decide +kernel
theorem dX0_init_51 : decode cX0_init 51 = .ok (.iload 5, 2) := by decide +kernel
theorem dX0_init_53 : decode cX0_init 53 = .ok (.bipush 32, 2) := by decide +kernel
theorem dX0_init_55 : decode cX0_init 55 = .ok (.if_icmp .ge 12, 3) := by decide +kernel
theorem dX0_init_58 : decode cX0_init 58 = .ok (.iload 5, 2) := by decide +kernel
theorem dX0_init_60 : decode cX0_init 60 = .ok (.iconst 2, 1) := by decide +kernel
theorem dX0_init_61 : decode cX0_init 61 = .ok (.imul, 1) := by decide +kernel
theorem dX0_init_62 : decode cX0_init 62 = .ok (.istore 5, 2) := by decide +kernel
theorem dX0_init_64 : decode cX0_init 64 = .ok (.goto (-22), 3) := by decide +kernel
theorem dX0_init_67 : decode cX0_init 67 = .ok (.aload_n 0, 1) := by decide +kernel
theorem dX0_init_68 : decode cX0_init 68 = .ok (.iload 5, 2) := by decide +kernel
theorem dX0_init_70 : decode cX0_init 70 = .ok (.aload_n 0, 1) := by decide +kernel
theorem dX0_init_71 : decode cX0_init 71 = .ok (.getfield 24, 3) := by decide +kernel
theorem dX0_init_74 : decode cX0_init 74 = .ok (.ishl, 1) := by decide +kernel
theorem dX0_init_75 : decode cX0_init 75 = .ok (.putfield 38, 3) := by decide +kernel
theorem dX0_init_78 : decode cX0_init 78 = .ok (.aload_n 0, 1) := by decide +kernel
theorem dX0_init_79 : decode cX0_init 79 = .ok (.bipush 8, 2) := by decide +kernel
theorem dX0_init_81 : decode cX0_init 81 = .ok (.anewarray 41, 3) := by decide +kernel
theorem dX0_init_84 : decode cX0_init 84 = .ok (.putfield 43, 3) := by decide +kernel
theorem dX0_init_87 : decode cX0_init 87 = .ok (.iconst 0, 1) := by decide +kernel
theorem dX0_init_88 : decode cX0_init 88 = .ok (.istore 6, 2) := by decide +kernel
theorem dX0_init_90 : decode cX0_init 90 = .ok (.iload 6, 2) := by decide +kernel
theorem dX0_init_92 : decode cX0_init 92 = .ok (.iload 4, 2) := by decide +kernel
theorem dX0_init_94 : decode cX0_init 94 = .ok (.if_icmp .ge 42, 3) := by decide +kernel
theorem dX0_init_97 : decode cX0_init 97 = .ok (.iload 6, 2) := by decide +kernel
theorem dX0_init_99 : decode cX0_init 99 = .ok (.aload_n 0, 1) := by decide +kernel
theorem dX0_init_100 : decode cX0_init 100 = .ok (.getfield 43, 3) := by decide +kernel
theorem dX0_init_103 : decode cX0_init 103 = .ok (.arraylength, 1) := by decide +kernel
theorem dX0_init_104 : decode cX0_init 104 = .ok (.if_icmp .ge 32, 3) := by decide +kernel
theorem dX0_init_107 : decode cX0_init 107 = .ok (.aload_n 0, 1) := by decide +kernel
theorem dX0_init_108 : decode cX0_init 108 = .ok (.getfield 43, 3) := by decide +kernel
theorem dX0_init_111 : decode cX0_init 111 = .ok (.iload 6, 2) := by decide +kernel
theorem dX0_init_113 : decode cX0_init 113 = .ok (.new 41, 3) := by decide +kernel
theorem dX0_init_116 : decode cX0_init 116 = .ok (.dup, 1) := by decide +kernel
theorem dX0_init_117 : decode cX0_init 117 = .ok (.iload 6, 2) := by decide +kernel
theorem dX0_init_119 : decode cX0_init 119 = .ok (.iconst 1, 1) := by decide +kernel
theorem dX0_init_120 : decode cX0_init 120 = .ok (.iadd, 1) := by decide +kernel
theorem dX0_init_121 : decode cX0_init 121 = .ok (.aload_n 0, 1) := by decide +kernel
theorem dX0_init_122 : decode cX0_init 122 = .ok (.getfield 24, 3) := by decide +kernel
theorem dX0_init_125 : decode cX0_init 125 = .ok (.ishl, 1) := by decide +kernel
theorem dX0_init_126 : decode cX0_init 126 = .ok (.invokespecial 47, 3) := by decide +kernel
theorem dX0_init_129 : decode cX0_init 129 = .ok (.aastore, 1) := by decide +kernel
theorem dX0_init_130 : decode cX0_init 130 = .ok (.iinc 6 1, 3) := by decide +kernel
theorem dX0_init_133 : decode cX0_init 133 = .ok (.goto (-43), 3) := by decide +kernel
theorem dX0_init_136 : decode cX0_init 136 = .ok (.return_, 1) := by decide +kernel
theorem dX0_isMultiple_0 : decode cX0_isMultiple 0 = .ok (.iload_n 1, 1) := by decide +kernel
theorem dX0_isMultiple_1 : decode cX0_isMultiple 1 = .ok (.aload_n 0, 1) := by decide +kernel
theorem dX0_isMultiple_2 : decode cX0_isMultiple 2 = .ok (.getfield 15, 3) := by decide +kernel
theorem dX0_isMultiple_5 : decode cX0_isMultiple 5 = .ok (.iconst 1, 1) := by decide +kernel
theorem dX0_isMultiple_6 : decode cX0_isMultiple 6 = .ok (.isub, 1) := by decide +kernel
theorem dX0_isMultiple_7 : decode cX0_isMultiple 7 = .ok (.iand, 1) := by decide +kernel
theorem dX0_isMultiple_8 : decode cX0_isMultiple 8 = .ok (.ifCond .ne 7, 3) := by decide +kernel
theorem dX0_isMultiple_11 : decode cX0_isMultiple 11 = .ok (.iconst 1, 1) := by decide +kernel
theorem dX0_isMultiple_12 : decode cX0_isMultiple 12 = .ok (.goto 4, 3) := by decide +kernel
theorem dX0_isMultiple_15 : decode cX0_isMultiple 15 = .ok (.iconst 0, 1) := by decide +kernel
theorem dX0_isMultiple_16 : decode cX0_isMultiple 16 = .ok (.ireturn, 1) := by decide +kernel
theorem dX0_isUnit_0 : decode cX0_isUnit 0 = .ok (.iload_n 1, 1) := by decide +kernel
theorem dX0_isUnit_1 : decode cX0_isUnit 1 = .ok (.aload_n 0, 1) := by decide +kernel
theorem dX0_isUnit_2 : decode cX0_isUnit 2 = .ok (.getfield 15, 3) := by decide +kernel
theorem dX0_isUnit_5 : decode cX0_isUnit 5 = .ok (.if_icmp .lt 14, 3) := by decide +kernel
theorem dX0_isUnit_8 : decode cX0_isUnit 8 = .ok (.iload_n 1, 1) := by decide +kernel
theorem dX0_isUnit_9 : decode cX0_isUnit 9 = .ok (.invokestatic 50, 3) := by decide +kernel
theorem dX0_isUnit_12 : decode cX0_isUnit 12 = .ok (.ifCond .eq 7, 3) := by decide +kernel
theorem dX0_isUnit_15 : decode cX0_isUnit 15 = .ok (.iconst 1, 1) := by decide +kernel
theorem dX0_isUnit_16 : decode cX0_isUnit 16 = .ok (.goto 4, 3) := by decide +kernel
theorem dX0_isUnit_19 : decode cX0_isUnit 19 = .ok (.iconst 0, 1) := by decide +kernel
theorem dX0_isUnit_20 : decode cX0_isUnit 20 = .ok (.ireturn, 1) := by decide +kernel
theorem dX0_roundUp_0 : decode cX0_roundUp 0 = .ok (.iload_n 1, 1) := by decide +kernel
theorem dX0_roundUp_1 : decode cX0_roundUp 1 = .ok (.i2l, 1) := by decide +kernel
theorem dX0_roundUp_2 : decode cX0_roundUp 2 = .ok (.aload_n 0, 1) := by decide +kernel
theorem dX0_roundUp_3 : decode cX0_roundUp 3 = .ok (.getfield 15, 3) := by decide +kernel
theorem dX0_roundUp_6 : decode cX0_roundUp 6 = .ok (.i2l, 1) := by decide +kernel
theorem dX0_roundUp_7 : decode cX0_roundUp 7 = .ok (.ladd, 1) := by decide +kernel
theorem dX0_roundUp_8 : decode cX0_roundUp 8 = .ok (.lconst 1, 1) := by decide +kernel
theorem dX0_roundUp_9 : decode cX0_roundUp 9 = .ok (.lsub, 1) := by decide +kernel
theorem dX0_roundUp_10 : decode cX0_roundUp 10 = .ok (.aload_n 0, 1) := by decide +kernel
theorem dX0_roundUp_11 : decode cX0_roundUp 11 = .ok (.getfield 15, 3) := by decide +kernel
theorem dX0_roundUp_14 : decode cX0_roundUp 14 = .ok (.i2l, 1) := by decide +kernel
theorem dX0_roundUp_15 : decode cX0_roundUp 15 = .ok (.lneg, 1) := by decide +kernel
theorem dX0_roundUp_16 : decode cX0_roundUp 16 = .ok (.land, 1) := by decide +kernel
theorem dX0_roundUp_17 : decode cX0_roundUp 17 = .ok (.lreturn, 1) := by decide +kernel
theorem dX0_cacheOf_0 : decode cX0_cacheOf 0 = .ok (.iload_n 1, 1) := by decide +kernel
theorem dX0_cacheOf_1 : decode cX0_cacheOf 1 = .ok (.iconst 1, 1) := by decide +kernel
theorem dX0_cacheOf_2 : decode cX0_cacheOf 2 = .ok (.if_icmp .lt 23, 3) := by decide +kernel
theorem dX0_cacheOf_5 : decode cX0_cacheOf 5 = .ok (.iload_n 1, 1) := by decide +kernel
theorem dX0_cacheOf_6 : decode cX0_cacheOf 6 = .ok (.aload_n 0, 1) := by decide +kernel
theorem dX0_cacheOf_7 : decode cX0_cacheOf 7 = .ok (.getfield 43, 3) := by decide +kernel
theorem dX0_cacheOf_10 : decode cX0_cacheOf 10 = .ok (.arraylength, 1) := by decide +kernel
theorem dX0_cacheOf_11 : decode cX0_cacheOf 11 = .ok (.if_icmp .gt 14, 3) := by decide +kernel
theorem dX0_cacheOf_14 : decode cX0_cacheOf 14 = .ok (.aload_n 0, 1) := by decide +kernel
theorem dX0_cacheOf_15 : decode cX0_cacheOf 15 = .ok (.getfield 43, 3) := by decide +kernel
theorem dX0_cacheOf_18 : decode cX0_cacheOf 18 = .ok (.iload_n 1, 1) := by decide +kernel
theorem dX0_cacheOf_19 : decode cX0_cacheOf 19 = .ok (.iconst 1, 1) := by decide +kernel
theorem dX0_cacheOf_20 : decode cX0_cacheOf 20 = .ok (.isub, 1) := by decide +kernel
theorem dX0_cacheOf_21 : decode cX0_cacheOf 21 = .ok (.aaload, 1) := by decide +kernel
theorem dX0_cacheOf_22 : decode cX0_cacheOf 22 = .ok (.goto 4, 3) := by decide +kernel
theorem dX0_cacheOf_25 : decode cX0_cacheOf 25 = .ok (.aconst_null, 1) := by decide +kernel
theorem dX0_cacheOf_26 : decode cX0_cacheOf 26 = .ok (.areturn, 1) := by decide +kernel
theorem dX0_cacheFor_0 : decode cX0_cacheFor 0 = .ok (.lload_n 1, 1) := by decide +kernel
theorem dX0_cacheFor_1 : decode cX0_cacheFor 1 = .ok (.aload_n 0, 1) := by decide +kernel
theorem dX0_cacheFor_2 : decode cX0_cacheFor 2 = .ok (.getfield 24, 3) := by decide +kernel
theorem dX0_cacheFor_5 : decode cX0_cacheFor 5 = .ok (.lshr, 1) := by decide +kernel
theorem dX0_cacheFor_6 : decode cX0_cacheFor 6 = .ok (.lstore_n 3, 1) := by decide +kernel
theorem dX0_cacheFor_7 : decode cX0_cacheFor 7 = .ok (.lload_n 3, 1) := by decide +kernel
theorem dX0_cacheFor_8 : decode cX0_cacheFor 8 = .ok (.aload_n 0, 1) := by decide +kernel
theorem dX0_cacheFor_9 : decode cX0_cacheFor 9 = .ok (.getfield 31, 3) := by decide +kernel
theorem dX0_cacheFor_12 : decode cX0_cacheFor 12 = .ok (.i2l, 1) := by decide +kernel
theorem dX0_cacheFor_13 : decode cX0_cacheFor 13 = .ok (.lcmp, 1) := by decide +kernel
theorem dX0_cacheFor_14 : decode cX0_cacheFor 14 = .ok (.ifCond .le 7, 3) := by decide +kernel
theorem dX0_cacheFor_17 : decode cX0_cacheFor 17 = .ok (.aconst_null, 1) := by decide +kernel
theorem dX0_cacheFor_18 : decode cX0_cacheFor 18 = .ok (.goto 9, 3) := by decide +kernel
theorem dX0_cacheFor_21 : decode cX0_cacheFor 21 = .ok (.aload_n 0, 1) := by decide +kernel
theorem dX0_cacheFor_22 : decode cX0_cacheFor 22 = .ok (.lload_n 3, 1) := by decide +kernel
theorem dX0_cacheFor_23 : decode cX0_cacheFor 23 = .ok (.l2i, 1) := by decide +kernel
theorem dX0_cacheFor_24 : decode cX0_cacheFor 24 = .ok (.invokevirtual 54, 3) := by decide +kernel
theorem dX0_cacheFor_27 : decode cX0_cacheFor 27 = .ok (.areturn, 1) := by decide +kernel
theorem dX0_listOf_0 : decode cX0_listOf 0 = .ok (.bipush 31, 2) := by decide +kernel
theorem dX0_listOf_2 : decode cX0_listOf 2 = .ok (.iload_n 1, 1) := by decide +kernel
theorem dX0_listOf_3 : decode cX0_listOf 3 = .ok (.aload_n 0, 1) := by decide +kernel
theorem dX0_listOf_4 : decode cX0_listOf 4 = .ok (.getfield 24, 3) := by decide +kernel
theorem dX0_listOf_7 : decode cX0_listOf 7 = .ok (.ishr, 1) := by decide +kernel
theorem dX0_listOf_8 : decode cX0_listOf 8 = .ok (.invokestatic 58, 3) := by decide +kernel
theorem dX0_listOf_11 : decode cX0_listOf 11 = .ok (.isub, 1) := by decide +kernel
theorem dX0_listOf_12 : decode cX0_listOf 12 = .ok (.ireturn, 1) := by decide +kernel
theorem dX0_listFor_0 : decode cX0_listFor 0 = .ok (.bipush 32, 2) := by decide +kernel
theorem dX0_listFor_2 : decode cX0_listFor 2 = .ok (.iload_n 1, 1) := by decide +kernel
theorem dX0_listFor_3 : decode cX0_listFor 3 = .ok (.aload_n 0, 1) := by decide +kernel
theorem dX0_listFor_4 : decode cX0_listFor 4 = .ok (.getfield 24, 3) := by decide +kernel
theorem dX0_listFor_7 : decode cX0_listFor 7 = .ok (.ishr, 1) := by decide +kernel
theorem dX0_listFor_8 : decode cX0_listFor 8 = .ok (.iconst 1, 1) := by decide +kernel
theorem dX0_listFor_9 : decode cX0_listFor 9 = .ok (.isub, 1) := by decide +kernel
theorem dX0_listFor_10 : decode cX0_listFor 10 = .ok (.invokestatic 58, 3) := by decide +kernel
theorem dX0_listFor_13 : decode cX0_listFor 13 = .ok (.isub, 1) := by decide +kernel
theorem dX0_listFor_14 : decode cX0_listFor 14 = .ok (.ireturn, 1) := by decide +kernel
theorem dX0_tick_0 : decode cX0_tick 0 = .ok (.aload_n 0, 1) := by decide +kernel
theorem dX0_tick_1 : decode cX0_tick 1 = .ok (.dup, 1) := by decide +kernel
theorem dX0_tick_2 : decode cX0_tick 2 = .ok (.getfield 61, 3) := by decide +kernel
theorem dX0_tick_5 : decode cX0_tick 5 = .ok (.iconst 1, 1) := by decide +kernel
theorem dX0_tick_6 : decode cX0_tick 6 = .ok (.iadd, 1) := by decide +kernel
theorem dX0_tick_7 : decode cX0_tick 7 = .ok (.putfield 61, 3) := by decide +kernel
theorem dX0_tick_10 : decode cX0_tick 10 = .ok (.aload_n 0, 1) := by decide +kernel
theorem dX0_tick_11 : decode cX0_tick 11 = .ok (.getfield 61, 3) := by decide +kernel
theorem dX0_tick_14 : decode cX0_tick 14 = .ok (.ireturn, 1) := by decide +kernel
theorem dX0_meets_0 : decode cX0_meets 0 = .ok (.aload_n 0, 1) := by decide +kernel
theorem dX0_meets_1 : decode cX0_meets 1 = .ok (.getfield 64, 3) := by decide +kernel
theorem dX0_meets_4 : decode cX0_meets 4 = .ok (.astore_n 3, 1) := by decide +kernel
theorem dX0_meets_5 : decode cX0_meets 5 = .ok (.aload_n 3, 1) := by decide +kernel
theorem dX0_meets_6 : decode cX0_meets 6 = .ok (.ifnull 36, 3) := by decide +kernel
theorem dX0_meets_9 : decode cX0_meets 9 = .ok (.aload_n 3, 1) := by decide +kernel
theorem dX0_meets_10 : decode cX0_meets 10 = .ok (.getfield 68, 3) := by decide +kernel
theorem dX0_meets_13 : decode cX0_meets 13 = .ok (.iload_n 1, 1) := by decide +kernel
theorem dX0_meets_14 : decode cX0_meets 14 = .ok (.iload_n 2, 1) := by decide +kernel
theorem dX0_meets_15 : decode cX0_meets 15 = .ok (.iadd, 1) := by decide +kernel
theorem dX0_meets_16 : decode cX0_meets 16 = .ok (.if_icmp .ge 18, 3) := by decide +kernel
theorem dX0_meets_19 : decode cX0_meets 19 = .ok (.iload_n 1, 1) := by decide +kernel
theorem dX0_meets_20 : decode cX0_meets 20 = .ok (.aload_n 3, 1) := by decide +kernel
theorem dX0_meets_21 : decode cX0_meets 21 = .ok (.getfield 68, 3) := by decide +kernel
theorem dX0_meets_24 : decode cX0_meets 24 = .ok (.aload_n 3, 1) := by decide +kernel
theorem dX0_meets_25 : decode cX0_meets 25 = .ok (.getfield 73, 3) := by decide +kernel
theorem dX0_meets_28 : decode cX0_meets 28 = .ok (.iadd, 1) := by decide +kernel
theorem dX0_meets_29 : decode cX0_meets 29 = .ok (.if_icmp .ge 5, 3) := by decide +kernel
theorem dX0_meets_32 : decode cX0_meets 32 = .ok (.iconst 1, 1) := by decide +kernel
theorem dX0_meets_33 : decode cX0_meets 33 = .ok (.ireturn, 1) := by decide +kernel
theorem dX0_meets_34 : decode cX0_meets 34 = .ok (.aload_n 3, 1) := by decide +kernel
theorem dX0_meets_35 : decode cX0_meets 35 = .ok (.getfield 76, 3) := by decide +kernel
theorem dX0_meets_38 : decode cX0_meets 38 = .ok (.astore_n 3, 1) := by decide +kernel
theorem dX0_meets_39 : decode cX0_meets 39 = .ok (.goto (-34), 3) := by decide +kernel
theorem dX0_meets_42 : decode cX0_meets 42 = .ok (.iconst 0, 1) := by decide +kernel
theorem dX0_meets_43 : decode cX0_meets 43 = .ok (.ireturn, 1) := by decide +kernel
theorem dX0_open_0 : decode cX0_open 0 = .ok (.aconst_null, 1) := by decide +kernel
theorem dX0_open_1 : decode cX0_open 1 = .ok (.astore_n 3, 1) := by decide +kernel
theorem dX0_open_2 : decode cX0_open 2 = .ok (.aload_n 0, 1) := by decide +kernel
theorem dX0_open_3 : decode cX0_open 3 = .ok (.getfield 64, 3) := by decide +kernel
theorem dX0_open_6 : decode cX0_open 6 = .ok (.astore 4, 2) := by decide +kernel
theorem dX0_open_8 : decode cX0_open 8 = .ok (.aload 4, 2) := by decide +kernel
theorem dX0_open_10 : decode cX0_open 10 = .ok (.ifnull 25, 3) := by decide +kernel
theorem dX0_open_13 : decode cX0_open 13 = .ok (.aload 4, 2) := by decide +kernel
theorem dX0_open_15 : decode cX0_open 15 = .ok (.getfield 68, 3) := by decide +kernel
theorem dX0_open_18 : decode cX0_open 18 = .ok (.iload_n 1, 1) := by decide +kernel
theorem dX0_open_19 : decode cX0_open 19 = .ok (.if_icmp .ge 16, 3) := by decide +kernel
theorem dX0_open_22 : decode cX0_open 22 = .ok (.aload 4, 2) := by decide +kernel
theorem dX0_open_24 : decode cX0_open 24 = .ok (.astore_n 3, 1) := by decide +kernel
theorem dX0_open_25 : decode cX0_open 25 = .ok (.aload 4, 2) := by decide +kernel
theorem dX0_open_27 : decode cX0_open 27 = .ok (.getfield 76, 3) := by decide +kernel
theorem dX0_open_30 : decode cX0_open 30 = .ok (.astore 4, 2) := by decide +kernel
theorem dX0_open_32 : decode cX0_open 32 = .ok (.goto (-24), 3) := by decide +kernel
theorem dX0_open_35 : decode cX0_open 35 = .ok (.new 69, 3) := by decide +kernel
theorem dX0_open_38 : decode cX0_open 38 = .ok (.dup, 1) := by decide +kernel
theorem dX0_open_39 : decode cX0_open 39 = .ok (.iload_n 1, 1) := by decide +kernel
theorem dX0_open_40 : decode cX0_open 40 = .ok (.iload_n 2, 1) := by decide +kernel
theorem dX0_open_41 : decode cX0_open 41 = .ok (.iload_n 1, 1) := by decide +kernel
theorem dX0_open_42 : decode cX0_open 42 = .ok (.iload_n 2, 1) := by decide +kernel
theorem dX0_open_43 : decode cX0_open 43 = .ok (.invokespecial 79, 3) := by decide +kernel
theorem dX0_open_46 : decode cX0_open 46 = .ok (.astore 4, 2) := by decide +kernel
theorem dX0_open_48 : decode cX0_open 48 = .ok (.aload 4, 2) := by decide +kernel
theorem dX0_open_50 : decode cX0_open 50 = .ok (.aload_n 0, 1) := by decide +kernel
theorem dX0_open_51 : decode cX0_open 51 = .ok (.invokevirtual 82, 3) := by decide +kernel
theorem dX0_open_54 : decode cX0_open 54 = .ok (.putfield 86, 3) := by decide +kernel
theorem dX0_open_57 : decode cX0_open 57 = .ok (.aload_n 0, 1) := by decide +kernel
theorem dX0_open_58 : decode cX0_open 58 = .ok (.aload 4, 2) := by decide +kernel
theorem dX0_open_60 : decode cX0_open 60 = .ok (.aload_n 3, 1) := by decide +kernel
theorem dX0_open_61 : decode cX0_open 61 = .ok (.invokevirtual 89, 3) := by decide +kernel
theorem dX0_open_64 : decode cX0_open 64 = .ok (.aload_n 0, 1) := by decide +kernel
theorem dX0_open_65 : decode cX0_open 65 = .ok (.dup, 1) := by decide +kernel
theorem dX0_open_66 : decode cX0_open 66 = .ok (.getfield 93, 3) := by decide +kernel
theorem dX0_open_69 : decode cX0_open 69 = .ok (.iconst 1, 1) := by decide +kernel
theorem dX0_open_70 : decode cX0_open 70 = .ok (.iadd, 1) := by decide +kernel
theorem dX0_open_71 : decode cX0_open 71 = .ok (.putfield 93, 3) := by decide +kernel
theorem dX0_open_74 : decode cX0_open 74 = .ok (.aload 4, 2) := by decide +kernel
theorem dX0_open_76 : decode cX0_open 76 = .ok (.areturn, 1) := by decide +kernel
theorem dX0_close_0 : decode cX0_close 0 = .ok (.aload_n 0, 1) := by decide +kernel
theorem dX0_close_1 : decode cX0_close 1 = .ok (.aload_n 1, 1) := by decide +kernel
theorem dX0_close_2 : decode cX0_close 2 = .ok (.invokevirtual 96, 3) := by decide +kernel
theorem dX0_close_5 : decode cX0_close 5 = .ok (.aload_n 0, 1) := by decide +kernel
theorem dX0_close_6 : decode cX0_close 6 = .ok (.dup, 1) := by decide +kernel
theorem dX0_close_7 : decode cX0_close 7 = .ok (.getfield 93, 3) := by decide +kernel
theorem dX0_close_10 : decode cX0_close 10 = .ok (.iconst 1, 1) := by decide +kernel
theorem dX0_close_11 : decode cX0_close 11 = .ok (.isub, 1) := by decide +kernel
theorem dX0_close_12 : decode cX0_close 12 = .ok (.putfield 93, 3) := by decide +kernel
theorem dX0_close_15 : decode cX0_close 15 = .ok (.return_, 1) := by decide +kernel
theorem dX0_link_0 : decode cX0_link 0 = .ok (.aload_n 2, 1) := by decide +kernel
theorem dX0_link_1 : decode cX0_link 1 = .ok (.ifnonnull 10, 3) := by decide +kernel
theorem dX0_link_4 : decode cX0_link 4 = .ok (.aload_n 0, 1) := by decide +kernel
theorem dX0_link_5 : decode cX0_link 5 = .ok (.getfield 64, 3) := by decide +kernel
theorem dX0_link_8 : decode cX0_link 8 = .ok (.goto 7, 3) := by decide +kernel
theorem dX0_link_11 : decode cX0_link 11 = .ok (.aload_n 2, 1) := by decide +kernel
theorem dX0_link_12 : decode cX0_link 12 = .ok (.getfield 76, 3) := by decide +kernel
theorem dX0_link_15 : decode cX0_link 15 = .ok (.astore_n 3, 1) := by decide +kernel
theorem dX0_link_16 : decode cX0_link 16 = .ok (.aload_n 1, 1) := by decide +kernel
theorem dX0_link_17 : decode cX0_link 17 = .ok (.aload_n 2, 1) := by decide +kernel
theorem dX0_link_18 : decode cX0_link 18 = .ok (.putfield 100, 3) := by decide +kernel
theorem dX0_link_21 : decode cX0_link 21 = .ok (.aload_n 1, 1) := by decide +kernel
theorem dX0_link_22 : decode cX0_link 22 = .ok (.aload_n 3, 1) := by decide +kernel
theorem dX0_link_23 : decode cX0_link 23 = .ok (.putfield 76, 3) := by decide +kernel
theorem dX0_link_26 : decode cX0_link 26 = .ok (.aload_n 2, 1) := by decide +kernel
theorem dX0_link_27 : decode cX0_link 27 = .ok (.ifnonnull 11, 3) := by decide +kernel
theorem dX0_link_30 : decode cX0_link 30 = .ok (.aload_n 0, 1) := by decide +kernel
theorem dX0_link_31 : decode cX0_link 31 = .ok (.aload_n 1, 1) := by decide +kernel
theorem dX0_link_32 : decode cX0_link 32 = .ok (.putfield 64, 3) := by decide +kernel
theorem dX0_link_35 : decode cX0_link 35 = .ok (.goto 8, 3) := by decide +kernel
theorem dX0_link_38 : decode cX0_link 38 = .ok (.aload_n 2, 1) := by decide +kernel
theorem dX0_link_39 : decode cX0_link 39 = .ok (.aload_n 1, 1) := by decide +kernel
theorem dX0_link_40 : decode cX0_link 40 = .ok (.putfield 76, 3) := by decide +kernel
theorem dX0_link_43 : decode cX0_link 43 = .ok (.aload_n 3, 1) := by decide +kernel
theorem dX0_link_44 : decode cX0_link 44 = .ok (.ifnull 8, 3) := by decide +kernel
theorem dX0_link_47 : decode cX0_link 47 = .ok (.aload_n 3, 1) := by decide +kernel
theorem dX0_link_48 : decode cX0_link 48 = .ok (.aload_n 1, 1) := by decide +kernel
theorem dX0_link_49 : decode cX0_link 49 = .ok (.putfield 100, 3) := by decide +kernel
theorem dX0_link_52 : decode cX0_link 52 = .ok (.aload_n 0, 1) := by decide +kernel
theorem dX0_link_53 : decode cX0_link 53 = .ok (.dup, 1) := by decide +kernel
theorem dX0_link_54 : decode cX0_link 54 = .ok (.getfield 103, 3) := by decide +kernel
theorem dX0_link_57 : decode cX0_link 57 = .ok (.iconst 1, 1) := by decide +kernel
theorem dX0_link_58 : decode cX0_link 58 = .ok (.iadd, 1) := by decide +kernel
theorem dX0_link_59 : decode cX0_link 59 = .ok (.putfield 103, 3) := by decide +kernel
theorem dX0_link_62 : decode cX0_link 62 = .ok (.return_, 1) := by decide +kernel
theorem dX0_unlink_0 : decode cX0_unlink 0 = .ok (.aload_n 1, 1) := by decide +kernel
theorem dX0_unlink_1 : decode cX0_unlink 1 = .ok (.getfield 100, 3) := by decide +kernel
theorem dX0_unlink_4 : decode cX0_unlink 4 = .ok (.astore_n 2, 1) := by decide +kernel
theorem dX0_unlink_5 : decode cX0_unlink 5 = .ok (.aload_n 1, 1) := by decide +kernel
theorem dX0_unlink_6 : decode cX0_unlink 6 = .ok (.getfield 76, 3) := by decide +kernel
theorem dX0_unlink_9 : decode cX0_unlink 9 = .ok (.astore_n 3, 1) := by decide +kernel
theorem dX0_unlink_10 : decode cX0_unlink 10 = .ok (.aload_n 2, 1) := by decide +kernel
theorem dX0_unlink_11 : decode cX0_unlink 11 = .ok (.ifnonnull 11, 3) := by decide +kernel
theorem dX0_unlink_14 : decode cX0_unlink 14 = .ok (.aload_n 0, 1) := by decide +kernel
theorem dX0_unlink_15 : decode cX0_unlink 15 = .ok (.aload_n 3, 1) := by decide +kernel
theorem dX0_unlink_16 : decode cX0_unlink 16 = .ok (.putfield 64, 3) := by decide +kernel
theorem dX0_unlink_19 : decode cX0_unlink 19 = .ok (.goto 8, 3) := by decide +kernel
theorem dX0_unlink_22 : decode cX0_unlink 22 = .ok (.aload_n 2, 1) := by decide +kernel
theorem dX0_unlink_23 : decode cX0_unlink 23 = .ok (.aload_n 3, 1) := by decide +kernel
theorem dX0_unlink_24 : decode cX0_unlink 24 = .ok (.putfield 76, 3) := by decide +kernel
theorem dX0_unlink_27 : decode cX0_unlink 27 = .ok (.aload_n 3, 1) := by decide +kernel
theorem dX0_unlink_28 : decode cX0_unlink 28 = .ok (.ifnull 8, 3) := by decide +kernel
theorem dX0_unlink_31 : decode cX0_unlink 31 = .ok (.aload_n 3, 1) := by decide +kernel
theorem dX0_unlink_32 : decode cX0_unlink 32 = .ok (.aload_n 2, 1) := by decide +kernel
theorem dX0_unlink_33 : decode cX0_unlink 33 = .ok (.putfield 100, 3) := by decide +kernel
theorem dX0_unlink_36 : decode cX0_unlink 36 = .ok (.aload_n 0, 1) := by decide +kernel
theorem dX0_unlink_37 : decode cX0_unlink 37 = .ok (.dup, 1) := by decide +kernel
theorem dX0_unlink_38 : decode cX0_unlink 38 = .ok (.getfield 103, 3) := by decide +kernel
theorem dX0_unlink_41 : decode cX0_unlink 41 = .ok (.iconst 1, 1) := by decide +kernel
theorem dX0_unlink_42 : decode cX0_unlink 42 = .ok (.isub, 1) := by decide +kernel
theorem dX0_unlink_43 : decode cX0_unlink 43 = .ok (.putfield 103, 3) := by decide +kernel
theorem dX0_unlink_46 : decode cX0_unlink 46 = .ok (.return_, 1) := by decide +kernel
theorem dX0_split_0 : decode cX0_split 0 = .ok (.new 69, 3) := by decide +kernel
theorem dX0_split_3 : decode cX0_split 3 = .ok (.dup, 1) := by decide +kernel
theorem dX0_split_4 : decode cX0_split 4 = .ok (.aload_n 1, 1) := by decide +kernel
theorem dX0_split_5 : decode cX0_split 5 = .ok (.getfield 68, 3) := by decide +kernel
theorem dX0_split_8 : decode cX0_split 8 = .ok (.iload_n 2, 1) := by decide +kernel
theorem dX0_split_9 : decode cX0_split 9 = .ok (.iadd, 1) := by decide +kernel
theorem dX0_split_10 : decode cX0_split 10 = .ok (.aload_n 1, 1) := by decide +kernel
theorem dX0_split_11 : decode cX0_split 11 = .ok (.getfield 73, 3) := by decide +kernel
theorem dX0_split_14 : decode cX0_split 14 = .ok (.iload_n 2, 1) := by decide +kernel
theorem dX0_split_15 : decode cX0_split 15 = .ok (.isub, 1) := by decide +kernel
theorem dX0_split_16 : decode cX0_split 16 = .ok (.aload_n 1, 1) := by decide +kernel
theorem dX0_split_17 : decode cX0_split 17 = .ok (.getfield 106, 3) := by decide +kernel
theorem dX0_split_20 : decode cX0_split 20 = .ok (.aload_n 1, 1) := by decide +kernel
theorem dX0_split_21 : decode cX0_split 21 = .ok (.getfield 109, 3) := by decide +kernel
theorem dX0_split_24 : decode cX0_split 24 = .ok (.invokespecial 79, 3) := by decide +kernel
theorem dX0_split_27 : decode cX0_split 27 = .ok (.astore_n 3, 1) := by decide +kernel
theorem dX0_split_28 : decode cX0_split 28 = .ok (.aload_n 3, 1) := by decide +kernel
theorem dX0_split_29 : decode cX0_split 29 = .ok (.aload_n 0, 1) := by decide +kernel
theorem dX0_split_30 : decode cX0_split 30 = .ok (.invokevirtual 82, 3) := by decide +kernel
theorem dX0_split_33 : decode cX0_split 33 = .ok (.putfield 86, 3) := by decide +kernel
theorem dX0_split_36 : decode cX0_split 36 = .ok (.aload_n 1, 1) := by decide +kernel
theorem dX0_split_37 : decode cX0_split 37 = .ok (.iload_n 2, 1) := by decide +kernel
theorem dX0_split_38 : decode cX0_split 38 = .ok (.putfield 73, 3) := by decide +kernel
theorem dX0_split_41 : decode cX0_split 41 = .ok (.aload_n 0, 1) := by decide +kernel
theorem dX0_split_42 : decode cX0_split 42 = .ok (.aload_n 3, 1) := by decide +kernel
theorem dX0_split_43 : decode cX0_split 43 = .ok (.aload_n 1, 1) := by decide +kernel
theorem dX0_split_44 : decode cX0_split 44 = .ok (.invokevirtual 89, 3) := by decide +kernel
theorem dX0_split_47 : decode cX0_split 47 = .ok (.aload_n 3, 1) := by decide +kernel
theorem dX0_split_48 : decode cX0_split 48 = .ok (.areturn, 1) := by decide +kernel
theorem dX0_occupy_0 : decode cX0_occupy 0 = .ok (.aload_n 1, 1) := by decide +kernel
theorem dX0_occupy_1 : decode cX0_occupy 1 = .ok (.getfield 73, 3) := by decide +kernel
theorem dX0_occupy_4 : decode cX0_occupy 4 = .ok (.iload_n 2, 1) := by decide +kernel
theorem dX0_occupy_5 : decode cX0_occupy 5 = .ok (.if_icmp .le 10, 3) := by decide +kernel
theorem dX0_occupy_8 : decode cX0_occupy 8 = .ok (.aload_n 0, 1) := by decide +kernel
theorem dX0_occupy_9 : decode cX0_occupy 9 = .ok (.aload_n 1, 1) := by decide +kernel
theorem dX0_occupy_10 : decode cX0_occupy 10 = .ok (.iload_n 2, 1) := by decide +kernel
theorem dX0_occupy_11 : decode cX0_occupy 11 = .ok (.invokevirtual 112, 3) := by decide +kernel
theorem dX0_occupy_14 : decode cX0_occupy 14 = .ok (.pop, 1) := by decide +kernel
theorem dX0_occupy_15 : decode cX0_occupy 15 = .ok (.aload_n 1, 1) := by decide +kernel
theorem dX0_occupy_16 : decode cX0_occupy 16 = .ok (.iload_n 3, 1) := by decide +kernel
theorem dX0_occupy_17 : decode cX0_occupy 17 = .ok (.putfield 116, 3) := by decide +kernel
theorem dX0_occupy_20 : decode cX0_occupy 20 = .ok (.return_, 1) := by decide +kernel
theorem dX0_carve_0 : decode cX0_carve 0 = .ok (.aload_n 1, 1) := by decide +kernel
theorem dX0_carve_1 : decode cX0_carve 1 = .ok (.astore 4, 2) := by decide +kernel
theorem dX0_carve_3 : decode cX0_carve 3 = .ok (.iload_n 2, 1) := by decide +kernel
theorem dX0_carve_4 : decode cX0_carve 4 = .ok (.aload_n 1, 1) := by decide +kernel
theorem dX0_carve_5 : decode cX0_carve 5 = .ok (.getfield 68, 3) := by decide +kernel
theorem dX0_carve_8 : decode cX0_carve 8 = .ok (.if_icmp .le 24, 3) := by decide +kernel
theorem dX0_carve_11 : decode cX0_carve 11 = .ok (.aload_n 0, 1) := by decide +kernel
theorem dX0_carve_12 : decode cX0_carve 12 = .ok (.aload_n 1, 1) := by decide +kernel
theorem dX0_carve_13 : decode cX0_carve 13 = .ok (.iload_n 2, 1) := by decide +kernel
theorem dX0_carve_14 : decode cX0_carve 14 = .ok (.aload_n 1, 1) := by decide +kernel
theorem dX0_carve_15 : decode cX0_carve 15 = .ok (.getfield 68, 3) := by decide +kernel
theorem dX0_carve_18 : decode cX0_carve 18 = .ok (.isub, 1) := by decide +kernel
theorem dX0_carve_19 : decode cX0_carve 19 = .ok (.invokevirtual 112, 3) := by decide +kernel
theorem dX0_carve_22 : decode cX0_carve 22 = .ok (.astore 4, 2) := by decide +kernel
theorem dX0_carve_24 : decode cX0_carve 24 = .ok (.aload_n 1, 1) := by decide +kernel
theorem dX0_carve_25 : decode cX0_carve 25 = .ok (.aload_n 0, 1) := by decide +kernel
theorem dX0_carve_26 : decode cX0_carve 26 = .ok (.invokevirtual 82, 3) := by decide +kernel
theorem dX0_carve_29 : decode cX0_carve 29 = .ok (.putfield 86, 3) := by decide +kernel
theorem dX0_carve_32 : decode cX0_carve 32 = .ok (.aload_n 0, 1) := by decide +kernel
theorem dX0_carve_33 : decode cX0_carve 33 = .ok (.aload 4, 2) := by decide +kernel
theorem dX0_carve_35 : decode cX0_carve 35 = .ok (.iload_n 3, 1) := by decide +kernel
theorem dX0_carve_36 : decode cX0_carve 36 = .ok (.iconst 4, 1) := by decide +kernel
theorem dX0_carve_37 : decode cX0_carve 37 = .ok (.invokevirtual 119, 3) := by decide +kernel
theorem dX0_carve_40 : decode cX0_carve 40 = .ok (.aload 4, 2) := by decide +kernel
theorem dX0_carve_42 : decode cX0_carve 42 = .ok (.areturn, 1) := by decide +kernel
theorem dX0_free_0 : decode cX0_free 0 = .ok (.aload_n 1, 1) := by decide +kernel
theorem dX0_free_1 : decode cX0_free 1 = .ok (.iconst 0, 1) := by decide +kernel
theorem dX0_free_2 : decode cX0_free 2 = .ok (.putfield 116, 3) := by decide +kernel
theorem dX0_free_5 : decode cX0_free 5 = .ok (.aload_n 1, 1) := by decide +kernel
theorem dX0_free_6 : decode cX0_free 6 = .ok (.getfield 76, 3) := by decide +kernel
theorem dX0_free_9 : decode cX0_free 9 = .ok (.astore_n 2, 1) := by decide +kernel
theorem dX0_free_10 : decode cX0_free 10 = .ok (.aload_n 2, 1) := by decide +kernel
theorem dX0_free_11 : decode cX0_free 11 = .ok (.ifnull 32, 3) := by decide +kernel
theorem dX0_free_14 : decode cX0_free 14 = .ok (.aload_n 2, 1) := by decide +kernel
theorem dX0_free_15 : decode cX0_free 15 = .ok (.aload_n 1, 1) := by decide +kernel
theorem dX0_free_16 : decode cX0_free 16 = .ok (.getfield 106, 3) := by decide +kernel
theorem dX0_free_19 : decode cX0_free 19 = .ok (.invokevirtual 123, 3) := by decide +kernel
theorem dX0_free_22 : decode cX0_free 22 = .ok (.ifCond .eq 21, 3) := by decide +kernel
theorem dX0_free_25 : decode cX0_free 25 = .ok (.aload_n 1, 1) := by decide +kernel
theorem dX0_free_26 : decode cX0_free 26 = .ok (.dup, 1) := by decide +kernel
theorem dX0_free_27 : decode cX0_free 27 = .ok (.getfield 73, 3) := by decide +kernel
theorem dX0_free_30 : decode cX0_free 30 = .ok (.aload_n 2, 1) := by decide +kernel
theorem dX0_free_31 : decode cX0_free 31 = .ok (.getfield 73, 3) := by decide +kernel
theorem dX0_free_34 : decode cX0_free 34 = .ok (.iadd, 1) := by decide +kernel
theorem dX0_free_35 : decode cX0_free 35 = .ok (.putfield 73, 3) := by decide +kernel
theorem dX0_free_38 : decode cX0_free 38 = .ok (.aload_n 0, 1) := by decide +kernel
theorem dX0_free_39 : decode cX0_free 39 = .ok (.aload_n 2, 1) := by decide +kernel
theorem dX0_free_40 : decode cX0_free 40 = .ok (.invokevirtual 96, 3) := by decide +kernel
theorem dX0_free_43 : decode cX0_free 43 = .ok (.aload_n 1, 1) := by decide +kernel
theorem dX0_free_44 : decode cX0_free 44 = .ok (.getfield 100, 3) := by decide +kernel
theorem dX0_free_47 : decode cX0_free 47 = .ok (.astore_n 3, 1) := by decide +kernel
theorem dX0_free_48 : decode cX0_free 48 = .ok (.aload_n 3, 1) := by decide +kernel
theorem dX0_free_49 : decode cX0_free 49 = .ok (.ifnull 40, 3) := by decide +kernel
theorem dX0_free_52 : decode cX0_free 52 = .ok (.aload_n 3, 1) := by decide +kernel
theorem dX0_free_53 : decode cX0_free 53 = .ok (.aload_n 1, 1) := by decide +kernel
theorem dX0_free_54 : decode cX0_free 54 = .ok (.getfield 106, 3) := by decide +kernel
theorem dX0_free_57 : decode cX0_free 57 = .ok (.invokevirtual 123, 3) := by decide +kernel
theorem dX0_free_60 : decode cX0_free 60 = .ok (.ifCond .eq 29, 3) := by decide +kernel
theorem dX0_free_63 : decode cX0_free 63 = .ok (.aload_n 1, 1) := by decide +kernel
theorem dX0_free_64 : decode cX0_free 64 = .ok (.aload_n 3, 1) := by decide +kernel
theorem dX0_free_65 : decode cX0_free 65 = .ok (.getfield 68, 3) := by decide +kernel
theorem dX0_free_68 : decode cX0_free 68 = .ok (.putfield 68, 3) := by decide +kernel
theorem dX0_free_71 : decode cX0_free 71 = .ok (.aload_n 1, 1) := by decide +kernel
theorem dX0_free_72 : decode cX0_free 72 = .ok (.dup, 1) := by decide +kernel
theorem dX0_free_73 : decode cX0_free 73 = .ok (.getfield 73, 3) := by decide +kernel
theorem dX0_free_76 : decode cX0_free 76 = .ok (.aload_n 3, 1) := by decide +kernel
theorem dX0_free_77 : decode cX0_free 77 = .ok (.getfield 73, 3) := by decide +kernel
theorem dX0_free_80 : decode cX0_free 80 = .ok (.iadd, 1) := by decide +kernel
theorem dX0_free_81 : decode cX0_free 81 = .ok (.putfield 73, 3) := by decide +kernel
theorem dX0_free_84 : decode cX0_free 84 = .ok (.aload_n 0, 1) := by decide +kernel
theorem dX0_free_85 : decode cX0_free 85 = .ok (.aload_n 3, 1) := by decide +kernel
theorem dX0_free_86 : decode cX0_free 86 = .ok (.invokevirtual 96, 3) := by decide +kernel
theorem dX0_free_89 : decode cX0_free 89 = .ok (.aload_n 1, 1) := by decide +kernel
theorem dX0_free_90 : decode cX0_free 90 = .ok (.aload_n 0, 1) := by decide +kernel
theorem dX0_free_91 : decode cX0_free 91 = .ok (.invokevirtual 82, 3) := by decide +kernel
theorem dX0_free_94 : decode cX0_free 94 = .ok (.putfield 86, 3) := by decide +kernel
theorem dX0_free_97 : decode cX0_free 97 = .ok (.return_, 1) := by decide +kernel
theorem dX0_find_0 : decode cX0_find 0 = .ok (.iload_n 2, 1) := by decide +kernel
theorem dX0_find_1 : decode cX0_find 1 = .ok (.ifCond .ne 9, 3) := by decide +kernel
theorem dX0_find_4 : decode cX0_find 4 = .ok (.aload_n 0, 1) := by decide +kernel
theorem dX0_find_5 : decode cX0_find 5 = .ok (.iload_n 1, 1) := by decide +kernel
theorem dX0_find_6 : decode cX0_find 6 = .ok (.invokevirtual 126, 3) := by decide +kernel
theorem dX0_find_9 : decode cX0_find 9 = .ok (.areturn, 1) := by decide +kernel
theorem dX0_find_10 : decode cX0_find 10 = .ok (.iload_n 2, 1) := by decide +kernel
theorem dX0_find_11 : decode cX0_find 11 = .ok (.iconst 1, 1) := by decide +kernel
theorem dX0_find_12 : decode cX0_find 12 = .ok (.if_icmp .ne 11, 3) := by decide +kernel
theorem dX0_find_15 : decode cX0_find 15 = .ok (.aload_n 0, 1) := by decide +kernel
theorem dX0_find_16 : decode cX0_find 16 = .ok (.iload_n 1, 1) := by decide +kernel
theorem dX0_find_17 : decode cX0_find 17 = .ok (.invokevirtual 130, 3) := by decide +kernel
theorem dX0_find_20 : decode cX0_find 20 = .ok (.goto 8, 3) := by decide +kernel
theorem dX0_find_23 : decode cX0_find 23 = .ok (.aload_n 0, 1) := by decide +kernel
theorem dX0_find_24 : decode cX0_find 24 = .ok (.iload_n 1, 1) := by decide +kernel
theorem dX0_find_25 : decode cX0_find 25 = .ok (.invokevirtual 133, 3) := by decide +kernel
theorem dX0_find_28 : decode cX0_find 28 = .ok (.areturn, 1) := by decide +kernel
theorem dX0_findBest_0 : decode cX0_findBest 0 = .ok (.aconst_null, 1) := by decide +kernel
theorem dX0_findBest_1 : decode cX0_findBest 1 = .ok (.astore_n 2, 1) := by decide +kernel
theorem dX0_findBest_2 : decode cX0_findBest 2 = .ok (.aload_n 0, 1) := by decide +kernel
theorem dX0_findBest_3 : decode cX0_findBest 3 = .ok (.getfield 64, 3) := by decide +kernel
theorem dX0_findBest_6 : decode cX0_findBest 6 = .ok (.astore_n 3, 1) := by decide +kernel
theorem dX0_findBest_7 : decode cX0_findBest 7 = .ok (.aload_n 3, 1) := by decide +kernel
theorem dX0_findBest_8 : decode cX0_findBest 8 = .ok (.ifnull 37, 3) := by decide +kernel
theorem dX0_findBest_11 : decode cX0_findBest 11 = .ok (.aload_n 3, 1) := by decide +kernel
theorem dX0_findBest_12 : decode cX0_findBest 12 = .ok (.iload_n 1, 1) := by decide +kernel
theorem dX0_findBest_13 : decode cX0_findBest 13 = .ok (.i2l, 1) := by decide +kernel
theorem dX0_findBest_14 : decode cX0_findBest 14 = .ok (.invokevirtual 136, 3) := by decide +kernel
theorem dX0_findBest_17 : decode cX0_findBest 17 = .ok (.ifCond .eq 20, 3) := by decide +kernel
theorem dX0_findBest_20 : decode cX0_findBest 20 = .ok (.aload_n 2, 1) := by decide +kernel
theorem dX0_findBest_21 : decode cX0_findBest 21 = .ok (.ifnull 14, 3) := by decide +kernel
theorem dX0_findBest_24 : decode cX0_findBest 24 = .ok (.aload_n 3, 1) := by decide +kernel
theorem dX0_findBest_25 : decode cX0_findBest 25 = .ok (.getfield 73, 3) := by decide +kernel
theorem dX0_findBest_28 : decode cX0_findBest 28 = .ok (.aload_n 2, 1) := by decide +kernel
theorem dX0_findBest_29 : decode cX0_findBest 29 = .ok (.getfield 73, 3) := by decide +kernel
theorem dX0_findBest_32 : decode cX0_findBest 32 = .ok (.if_icmp .ge 5, 3) := by decide +kernel
theorem dX0_findBest_35 : decode cX0_findBest 35 = .ok (.aload_n 3, 1) := by decide +kernel
theorem dX0_findBest_36 : decode cX0_findBest 36 = .ok (.astore_n 2, 1) := by decide +kernel
theorem dX0_findBest_37 : decode cX0_findBest 37 = .ok (.aload_n 3, 1) := by decide +kernel
theorem dX0_findBest_38 : decode cX0_findBest 38 = .ok (.getfield 76, 3) := by decide +kernel
theorem dX0_findBest_41 : decode cX0_findBest 41 = .ok (.astore_n 3, 1) := by decide +kernel
theorem dX0_findBest_42 : decode cX0_findBest 42 = .ok (.goto (-35), 3) := by decide +kernel
theorem dX0_findBest_45 : decode cX0_findBest 45 = .ok (.aload_n 2, 1) := by decide +kernel
theorem dX0_findBest_46 : decode cX0_findBest 46 = .ok (.areturn, 1) := by decide +kernel
theorem dX0_findInstant_0 : decode cX0_findInstant 0 = .ok (.aload_n 0, 1) := by decide +kernel
theorem dX0_findInstant_1 : decode cX0_findInstant 1 = .ok (.iload_n 1, 1) := by decide +kernel
theorem dX0_findInstant_2 : decode cX0_findInstant 2 = .ok (.invokevirtual 140, 3) := by decide +kernel
theorem dX0_findInstant_5 : decode cX0_findInstant 5 = .ok (.istore_n 2, 1) := by decide +kernel
theorem dX0_findInstant_6 : decode cX0_findInstant 6 = .ok (.aconst_null, 1) := by decide +kernel
theorem dX0_findInstant_7 : decode cX0_findInstant 7 = .ok (.astore_n 3, 1) := by decide +kernel
theorem dX0_findInstant_8 : decode cX0_findInstant 8 = .ok (.aload_n 0, 1) := by decide +kernel
theorem dX0_findInstant_9 : decode cX0_findInstant 9 = .ok (.getfield 64, 3) := by decide +kernel
theorem dX0_findInstant_12 : decode cX0_findInstant 12 = .ok (.astore 4, 2) := by decide +kernel
theorem dX0_findInstant_14 : decode cX0_findInstant 14 = .ok (.aload 4, 2) := by decide +kernel
theorem dX0_findInstant_16 : decode cX0_findInstant 16 = .ok (.ifnull 51, 3) := by decide +kernel
theorem dX0_findInstant_19 : decode cX0_findInstant 19 = .ok (.aload 4, 2) := by decide +kernel
theorem dX0_findInstant_21 : decode cX0_findInstant 21 = .ok (.getfield 116, 3) := by decide +kernel
theorem dX0_findInstant_24 : decode cX0_findInstant 24 = .ok (.ifCond .ne 33, 3) := by decide +kernel
theorem dX0_findInstant_27 : decode cX0_findInstant 27 = .ok (.aload_n 0, 1) := by decide +kernel
theorem dX0_findInstant_28 : decode cX0_findInstant 28 = .ok (.aload 4, 2) := by decide +kernel
theorem dX0_findInstant_30 : decode cX0_findInstant 30 = .ok (.getfield 73, 3) := by decide +kernel
theorem dX0_findInstant_33 : decode cX0_findInstant 33 = .ok (.invokevirtual 143, 3) := by decide +kernel
theorem dX0_findInstant_36 : decode cX0_findInstant 36 = .ok (.iload_n 2, 1) := by decide +kernel
theorem dX0_findInstant_37 : decode cX0_findInstant 37 = .ok (.if_icmp .lt 20, 3) := by decide +kernel
theorem dX0_findInstant_40 : decode cX0_findInstant 40 = .ok (.aload_n 3, 1) := by decide +kernel
theorem dX0_findInstant_41 : decode cX0_findInstant 41 = .ok (.ifnull 13, 3) := by decide +kernel
theorem dX0_findInstant_44 : decode cX0_findInstant 44 = .ok (.aload_n 0, 1) := by decide +kernel
theorem dX0_findInstant_45 : decode cX0_findInstant 45 = .ok (.aload 4, 2) := by decide +kernel
theorem dX0_findInstant_47 : decode cX0_findInstant 47 = .ok (.aload_n 3, 1) := by decide +kernel
theorem dX0_findInstant_48 : decode cX0_findInstant 48 = .ok (.invokevirtual 146, 3) := by decide +kernel
theorem dX0_findInstant_51 : decode cX0_findInstant 51 = .ok (.ifCond .eq 6, 3) := by decide +kernel
theorem dX0_findInstant_54 : decode cX0_findInstant 54 = .ok (.aload 4, 2) := by decide +kernel
theorem dX0_findInstant_56 : decode cX0_findInstant 56 = .ok (.astore_n 3, 1) := by decide +kernel
theorem dX0_findInstant_57 : decode cX0_findInstant 57 = .ok (.aload 4, 2) := by decide +kernel
theorem dX0_findInstant_59 : decode cX0_findInstant 59 = .ok (.getfield 76, 3) := by decide +kernel
theorem dX0_findInstant_62 : decode cX0_findInstant 62 = .ok (.astore 4, 2) := by decide +kernel
theorem dX0_findInstant_64 : decode cX0_findInstant 64 = .ok (.goto (-50), 3) := by decide +kernel
theorem dX0_findInstant_67 : decode cX0_findInstant 67 = .ok (.aload_n 3, 1) := by decide +kernel
theorem dX0_findInstant_68 : decode cX0_findInstant 68 = .ok (.areturn, 1) := by decide +kernel
theorem dX0_isAhead_0 : decode cX0_isAhead 0 = .ok (.aload_n 0, 1) := by decide +kernel
theorem dX0_isAhead_1 : decode cX0_isAhead 1 = .ok (.aload_n 1, 1) := by decide +kernel
theorem dX0_isAhead_2 : decode cX0_isAhead 2 = .ok (.getfield 73, 3) := by decide +kernel
theorem dX0_isAhead_5 : decode cX0_isAhead 5 = .ok (.invokevirtual 143, 3) := by decide +kernel
theorem dX0_isAhead_8 : decode cX0_isAhead 8 = .ok (.istore_n 3, 1) := by decide +kernel
theorem dX0_isAhead_9 : decode cX0_isAhead 9 = .ok (.aload_n 0, 1) := by decide +kernel
theorem dX0_isAhead_10 : decode cX0_isAhead 10 = .ok (.aload_n 2, 1) := by decide +kernel
theorem dX0_isAhead_11 : decode cX0_isAhead 11 = .ok (.getfield 73, 3) := by decide +kernel
theorem dX0_isAhead_14 : decode cX0_isAhead 14 = .ok (.invokevirtual 143, 3) := by decide +kernel
theorem dX0_isAhead_17 : decode cX0_isAhead 17 = .ok (.istore 4, 2) := by decide +kernel
theorem dX0_isAhead_19 : decode cX0_isAhead 19 = .ok (.iload_n 3, 1) := by decide +kernel
theorem dX0_isAhead_20 : decode cX0_isAhead 20 = .ok (.iload 4, 2) := by decide +kernel
theorem dX0_isAhead_22 : decode cX0_isAhead 22 = .ok (.if_icmp .lt 20, 3) := by decide +kernel
theorem dX0_isAhead_25 : decode cX0_isAhead 25 = .ok (.iload_n 3, 1) := by decide +kernel
theorem dX0_isAhead_26 : decode cX0_isAhead 26 = .ok (.iload 4, 2) := by decide +kernel
theorem dX0_isAhead_28 : decode cX0_isAhead 28 = .ok (.if_icmp .ne 18, 3) := by decide +kernel
theorem dX0_isAhead_31 : decode cX0_isAhead 31 = .ok (.aload_n 1, 1) := by decide +kernel
theorem dX0_isAhead_32 : decode cX0_isAhead 32 = .ok (.getfield 86, 3) := by decide +kernel
theorem dX0_isAhead_35 : decode cX0_isAhead 35 = .ok (.aload_n 2, 1) := by decide +kernel
theorem dX0_isAhead_36 : decode cX0_isAhead 36 = .ok (.getfield 86, 3) := by decide +kernel
theorem dX0_isAhead_39 : decode cX0_isAhead 39 = .ok (.if_icmp .le 7, 3) := by decide +kernel
theorem dX0_isAhead_42 : decode cX0_isAhead 42 = .ok (.iconst 1, 1) := by decide +kernel
theorem dX0_isAhead_43 : decode cX0_isAhead 43 = .ok (.goto 4, 3) := by decide +kernel
theorem dX0_isAhead_46 : decode cX0_isAhead 46 = .ok (.iconst 0, 1) := by decide +kernel
theorem dX0_isAhead_47 : decode cX0_isAhead 47 = .ok (.ireturn, 1) := by decide +kernel
theorem dX0_findNext_0 : decode cX0_findNext 0 = .ok (.aconst_null, 1) := by decide +kernel
theorem dX0_findNext_1 : decode cX0_findNext 1 = .ok (.astore_n 2, 1) := by decide +kernel
theorem dX0_findNext_2 : decode cX0_findNext 2 = .ok (.aload_n 0, 1) := by decide +kernel
theorem dX0_findNext_3 : decode cX0_findNext 3 = .ok (.getfield 64, 3) := by decide +kernel
theorem dX0_findNext_6 : decode cX0_findNext 6 = .ok (.astore_n 3, 1) := by decide +kernel
theorem dX0_findNext_7 : decode cX0_findNext 7 = .ok (.aload_n 3, 1) := by decide +kernel
theorem dX0_findNext_8 : decode cX0_findNext 8 = .ok (.ifnull 39, 3) := by decide +kernel
theorem dX0_findNext_11 : decode cX0_findNext 11 = .ok (.aload_n 3, 1) := by decide +kernel
theorem dX0_findNext_12 : decode cX0_findNext 12 = .ok (.iload_n 1, 1) := by decide +kernel
theorem dX0_findNext_13 : decode cX0_findNext 13 = .ok (.i2l, 1) := by decide +kernel
theorem dX0_findNext_14 : decode cX0_findNext 14 = .ok (.invokevirtual 136, 3) := by decide +kernel
theorem dX0_findNext_17 : decode cX0_findNext 17 = .ok (.ifCond .eq 22, 3) := by decide +kernel
theorem dX0_findNext_20 : decode cX0_findNext 20 = .ok (.aload_n 3, 1) := by decide +kernel
theorem dX0_findNext_21 : decode cX0_findNext 21 = .ok (.getfield 68, 3) := by decide +kernel
theorem dX0_findNext_24 : decode cX0_findNext 24 = .ok (.aload_n 0, 1) := by decide +kernel
theorem dX0_findNext_25 : decode cX0_findNext 25 = .ok (.getfield 150, 3) := by decide +kernel
theorem dX0_findNext_28 : decode cX0_findNext 28 = .ok (.if_icmp .lt 5, 3) := by decide +kernel
theorem dX0_findNext_31 : decode cX0_findNext 31 = .ok (.aload_n 3, 1) := by decide +kernel
theorem dX0_findNext_32 : decode cX0_findNext 32 = .ok (.areturn, 1) := by decide +kernel
theorem dX0_findNext_33 : decode cX0_findNext 33 = .ok (.aload_n 2, 1) := by decide +kernel
theorem dX0_findNext_34 : decode cX0_findNext 34 = .ok (.ifnonnull 5, 3) := by decide +kernel
theorem dX0_findNext_37 : decode cX0_findNext 37 = .ok (.aload_n 3, 1) := by decide +kernel
theorem dX0_findNext_38 : decode cX0_findNext 38 = .ok (.astore_n 2, 1) := by decide +kernel
theorem dX0_findNext_39 : decode cX0_findNext 39 = .ok (.aload_n 3, 1) := by decide +kernel
theorem dX0_findNext_40 : decode cX0_findNext 40 = .ok (.getfield 76, 3) := by decide +kernel
theorem dX0_findNext_43 : decode cX0_findNext 43 = .ok (.astore_n 3, 1) := by decide +kernel
theorem dX0_findNext_44 : decode cX0_findNext 44 = .ok (.goto (-37), 3) := by decide +kernel
theorem dX0_findNext_47 : decode cX0_findNext 47 = .ok (.aload_n 2, 1) := by decide +kernel
theorem dX0_findNext_48 : decode cX0_findNext 48 = .ok (.areturn, 1) := by decide +kernel
theorem dX0_leastWithin_0 : decode cX0_leastWithin 0 = .ok (.aconst_null, 1) := by decide +kernel
theorem dX0_leastWithin_1 : decode cX0_leastWithin 1 = .ok (.astore_n 2, 1) := by decide +kernel
theorem dX0_leastWithin_2 : decode cX0_leastWithin 2 = .ok (.aload_n 0, 1) := by decide +kernel
theorem dX0_leastWithin_3 : decode cX0_leastWithin 3 = .ok (.getfield 64, 3) := by decide +kernel
theorem dX0_leastWithin_6 : decode cX0_leastWithin 6 = .ok (.astore_n 3, 1) := by decide +kernel
theorem dX0_leastWithin_7 : decode cX0_leastWithin 7 = .ok (.aload_n 3, 1) := by decide +kernel
theorem dX0_leastWithin_8 : decode cX0_leastWithin 8 = .ok (.ifnull 63, 3) := by decide +kernel
theorem dX0_leastWithin_11 : decode cX0_leastWithin 11 = .ok (.aload_n 3, 1) := by decide +kernel
theorem dX0_leastWithin_12 : decode cX0_leastWithin 12 = .ok (.aload_n 1, 1) := by decide +kernel
theorem dX0_leastWithin_13 : decode cX0_leastWithin 13 = .ok (.getfield 153, 3) := by decide +kernel
theorem dX0_leastWithin_16 : decode cX0_leastWithin 16 = .ok (.invokevirtual 136, 3) := by decide +kernel
theorem dX0_leastWithin_19 : decode cX0_leastWithin 19 = .ok (.ifCond .eq 22, 3) := by decide +kernel
theorem dX0_leastWithin_22 : decode cX0_leastWithin 22 = .ok (.aload_n 2, 1) := by decide +kernel
theorem dX0_leastWithin_23 : decode cX0_leastWithin 23 = .ok (.ifnull 14, 3) := by decide +kernel
theorem dX0_leastWithin_26 : decode cX0_leastWithin 26 = .ok (.aload_n 3, 1) := by decide +kernel
theorem dX0_leastWithin_27 : decode cX0_leastWithin 27 = .ok (.getfield 73, 3) := by decide +kernel
theorem dX0_leastWithin_30 : decode cX0_leastWithin 30 = .ok (.aload_n 2, 1) := by decide +kernel
theorem dX0_leastWithin_31 : decode cX0_leastWithin 31 = .ok (.getfield 73, 3) := by decide +kernel
theorem dX0_leastWithin_34 : decode cX0_leastWithin 34 = .ok (.if_icmp .ge 7, 3) := by decide +kernel
theorem dX0_leastWithin_37 : decode cX0_leastWithin 37 = .ok (.iconst 1, 1) := by decide +kernel
theorem dX0_leastWithin_38 : decode cX0_leastWithin 38 = .ok (.goto 4, 3) := by decide +kernel
theorem dX0_leastWithin_41 : decode cX0_leastWithin 41 = .ok (.iconst 0, 1) := by decide +kernel
theorem dX0_leastWithin_42 : decode cX0_leastWithin 42 = .ok (.istore 4, 2) := by decide +kernel
theorem dX0_leastWithin_44 : decode cX0_leastWithin 44 = .ok (.iload 4, 2) := by decide +kernel
theorem dX0_leastWithin_46 : decode cX0_leastWithin 46 = .ok (.ifCond .eq 17, 3) := by decide +kernel
theorem dX0_leastWithin_49 : decode cX0_leastWithin 49 = .ok (.aload_n 1, 1) := by decide +kernel
theorem dX0_leastWithin_50 : decode cX0_leastWithin 50 = .ok (.aload_n 3, 1) := by decide +kernel
theorem dX0_leastWithin_51 : decode cX0_leastWithin 51 = .ok (.invokevirtual 158, 3) := by decide +kernel
theorem dX0_leastWithin_54 : decode cX0_leastWithin 54 = .ok (.ldc2_w 162, 3) := by decide +kernel
theorem dX0_leastWithin_57 : decode cX0_leastWithin 57 = .ok (.lcmp, 1) := by decide +kernel
theorem dX0_leastWithin_58 : decode cX0_leastWithin 58 = .ok (.ifCond .eq 5, 3) := by decide +kernel
theorem dX0_leastWithin_61 : decode cX0_leastWithin 61 = .ok (.aload_n 3, 1) := by decide +kernel
theorem dX0_leastWithin_62 : decode cX0_leastWithin 62 = .ok (.astore_n 2, 1) := by decide +kernel
theorem dX0_leastWithin_63 : decode cX0_leastWithin 63 = .ok (.aload_n 3, 1) := by decide +kernel
theorem dX0_leastWithin_64 : decode cX0_leastWithin 64 = .ok (.getfield 76, 3) := by decide +kernel
theorem dX0_leastWithin_67 : decode cX0_leastWithin 67 = .ok (.astore_n 3, 1) := by decide +kernel
theorem dX0_leastWithin_68 : decode cX0_leastWithin 68 = .ok (.goto (-61), 3) := by decide +kernel
theorem dX0_leastWithin_71 : decode cX0_leastWithin 71 = .ok (.aload_n 2, 1) := by decide +kernel
theorem dX0_leastWithin_72 : decode cX0_leastWithin 72 = .ok (.areturn, 1) := by decide +kernel
theorem dX0_nth_0 : decode cX0_nth 0 = .ok (.iload_n 1, 1) := by decide +kernel
theorem dX0_nth_1 : decode cX0_nth 1 = .ok (.istore_n 2, 1) := by decide +kernel
theorem dX0_nth_2 : decode cX0_nth 2 = .ok (.aload_n 0, 1) := by decide +kernel
theorem dX0_nth_3 : decode cX0_nth 3 = .ok (.getfield 64, 3) := by decide +kernel
theorem dX0_nth_6 : decode cX0_nth 6 = .ok (.astore_n 3, 1) := by decide +kernel
theorem dX0_nth_7 : decode cX0_nth 7 = .ok (.aload_n 3, 1) := by decide +kernel
theorem dX0_nth_8 : decode cX0_nth 8 = .ok (.ifnull 24, 3) := by decide +kernel
theorem dX0_nth_11 : decode cX0_nth 11 = .ok (.iload_n 2, 1) := by decide +kernel
theorem dX0_nth_12 : decode cX0_nth 12 = .ok (.ifCond .lt 20, 3) := by decide +kernel
theorem dX0_nth_15 : decode cX0_nth 15 = .ok (.iload_n 2, 1) := by decide +kernel
theorem dX0_nth_16 : decode cX0_nth 16 = .ok (.ifCond .ne 5, 3) := by decide +kernel
theorem dX0_nth_19 : decode cX0_nth 19 = .ok (.aload_n 3, 1) := by decide +kernel
theorem dX0_nth_20 : decode cX0_nth 20 = .ok (.areturn, 1) := by decide +kernel
theorem dX0_nth_21 : decode cX0_nth 21 = .ok (.iinc 2 (-1), 3) := by decide +kernel
theorem dX0_nth_24 : decode cX0_nth 24 = .ok (.aload_n 3, 1) := by decide +kernel
theorem dX0_nth_25 : decode cX0_nth 25 = .ok (.getfield 76, 3) := by decide +kernel
theorem dX0_nth_28 : decode cX0_nth 28 = .ok (.astore_n 3, 1) := by decide +kernel
theorem dX0_nth_29 : decode cX0_nth 29 = .ok (.goto (-22), 3) := by decide +kernel
theorem dX0_nth_32 : decode cX0_nth 32 = .ok (.aconst_null, 1) := by decide +kernel
theorem dX0_nth_33 : decode cX0_nth 33 = .ok (.areturn, 1) := by decide +kernel
theorem dX0_holding_0 : decode cX0_holding 0 = .ok (.aload_n 0, 1) := by decide +kernel
theorem dX0_holding_1 : decode cX0_holding 1 = .ok (.getfield 64, 3) := by decide +kernel
theorem dX0_holding_4 : decode cX0_holding 4 = .ok (.astore_n 2, 1) := by decide +kernel
theorem dX0_holding_5 : decode cX0_holding 5 = .ok (.aload_n 2, 1) := by decide +kernel
theorem dX0_holding_6 : decode cX0_holding 6 = .ok (.ifnull 34, 3) := by decide +kernel
theorem dX0_holding_9 : decode cX0_holding 9 = .ok (.iload_n 1, 1) := by decide +kernel
theorem dX0_holding_10 : decode cX0_holding 10 = .ok (.aload_n 2, 1) := by decide +kernel
theorem dX0_holding_11 : decode cX0_holding 11 = .ok (.getfield 68, 3) := by decide +kernel
theorem dX0_holding_14 : decode cX0_holding 14 = .ok (.if_icmp .lt 18, 3) := by decide +kernel
theorem dX0_holding_17 : decode cX0_holding 17 = .ok (.iload_n 1, 1) := by decide +kernel
theorem dX0_holding_18 : decode cX0_holding 18 = .ok (.aload_n 2, 1) := by decide +kernel
theorem dX0_holding_19 : decode cX0_holding 19 = .ok (.getfield 68, 3) := by decide +kernel
theorem dX0_holding_22 : decode cX0_holding 22 = .ok (.isub, 1) := by decide +kernel
theorem dX0_holding_23 : decode cX0_holding 23 = .ok (.aload_n 2, 1) := by decide +kernel
theorem dX0_holding_24 : decode cX0_holding 24 = .ok (.getfield 73, 3) := by decide +kernel
theorem dX0_holding_27 : decode cX0_holding 27 = .ok (.if_icmp .ge 5, 3) := by decide +kernel
theorem dX0_holding_30 : decode cX0_holding 30 = .ok (.aload_n 2, 1) := by decide +kernel
theorem dX0_holding_31 : decode cX0_holding 31 = .ok (.areturn, 1) := by decide +kernel
theorem dX0_holding_32 : decode cX0_holding 32 = .ok (.aload_n 2, 1) := by decide +kernel
theorem dX0_holding_33 : decode cX0_holding 33 = .ok (.getfield 76, 3) := by decide +kernel
theorem dX0_holding_36 : decode cX0_holding 36 = .ok (.astore_n 2, 1) := by decide +kernel
theorem dX0_holding_37 : decode cX0_holding 37 = .ok (.goto (-32), 3) := by decide +kernel
theorem dX0_holding_40 : decode cX0_holding 40 = .ok (.aconst_null, 1) := by decide +kernel
theorem dX0_holding_41 : decode cX0_holding 41 = .ok (.areturn, 1) := by decide +kernel
theorem dX0_segmentFrom_0 : decode cX0_segmentFrom 0 = .ok (.aload_n 0, 1) := by decide +kernel
theorem dX0_segmentFrom_1 : decode cX0_segmentFrom 1 = .ok (.iload_n 1, 1) := by decide +kernel
theorem dX0_segmentFrom_2 : decode cX0_segmentFrom 2 = .ok (.invokevirtual 164, 3) := by decide +kernel
theorem dX0_segmentFrom_5 : decode cX0_segmentFrom 5 = .ok (.astore 5, 2) := by decide +kernel
theorem dX0_segmentFrom_7 : decode cX0_segmentFrom 7 = .ok (.aload 5, 2) := by decide +kernel
theorem dX0_segmentFrom_9 : decode cX0_segmentFrom 9 = .ok (.ifnull 37, 3) := by decide +kernel
theorem dX0_segmentFrom_12 : decode cX0_segmentFrom 12 = .ok (.aload 5, 2) := by decide +kernel
theorem dX0_segmentFrom_14 : decode cX0_segmentFrom 14 = .ok (.getfield 68, 3) := by decide +kernel
theorem dX0_segmentFrom_17 : decode cX0_segmentFrom 17 = .ok (.iload_n 1, 1) := by decide +kernel
theorem dX0_segmentFrom_18 : decode cX0_segmentFrom 18 = .ok (.if_icmp .ne 28, 3) := by decide +kernel
theorem dX0_segmentFrom_21 : decode cX0_segmentFrom 21 = .ok (.aload 5, 2) := by decide +kernel
theorem dX0_segmentFrom_23 : decode cX0_segmentFrom 23 = .ok (.getfield 73, 3) := by decide +kernel
theorem dX0_segmentFrom_26 : decode cX0_segmentFrom 26 = .ok (.i2l, 1) := by decide +kernel
theorem dX0_segmentFrom_27 : decode cX0_segmentFrom 27 = .ok (.lload_n 2, 1) := by decide +kernel
theorem dX0_segmentFrom_28 : decode cX0_segmentFrom 28 = .ok (.lcmp, 1) := by decide +kernel
theorem dX0_segmentFrom_29 : decode cX0_segmentFrom 29 = .ok (.ifCond .ne 17, 3) := by decide +kernel
theorem dX0_segmentFrom_32 : decode cX0_segmentFrom 32 = .ok (.aload 5, 2) := by decide +kernel
theorem dX0_segmentFrom_34 : decode cX0_segmentFrom 34 = .ok (.getfield 116, 3) := by decide +kernel
theorem dX0_segmentFrom_37 : decode cX0_segmentFrom 37 = .ok (.iload 4, 2) := by decide +kernel
theorem dX0_segmentFrom_39 : decode cX0_segmentFrom 39 = .ok (.if_icmp .ne 7, 3) := by decide +kernel
theorem dX0_segmentFrom_42 : decode cX0_segmentFrom 42 = .ok (.iconst 1, 1) := by decide +kernel
theorem dX0_segmentFrom_43 : decode cX0_segmentFrom 43 = .ok (.goto 4, 3) := by decide +kernel
theorem dX0_segmentFrom_46 : decode cX0_segmentFrom 46 = .ok (.iconst 0, 1) := by decide +kernel
theorem dX0_segmentFrom_47 : decode cX0_segmentFrom 47 = .ok (.istore 6, 2) := by decide +kernel
theorem dX0_segmentFrom_49 : decode cX0_segmentFrom 49 = .ok (.iload 6, 2) := by decide +kernel
theorem dX0_segmentFrom_51 : decode cX0_segmentFrom 51 = .ok (.ifCond .eq 8, 3) := by decide +kernel
theorem dX0_segmentFrom_54 : decode cX0_segmentFrom 54 = .ok (.aload 5, 2) := by decide +kernel
theorem dX0_segmentFrom_56 : decode cX0_segmentFrom 56 = .ok (.goto 4, 3) := by decide +kernel
theorem dX0_segmentFrom_59 : decode cX0_segmentFrom 59 = .ok (.aconst_null, 1) := by decide +kernel
theorem dX0_segmentFrom_60 : decode cX0_segmentFrom 60 = .ok (.areturn, 1) := by decide +kernel
theorem dX0_slabHolding_0 : decode cX0_slabHolding 0 = .ok (.aload_n 0, 1) := by decide +kernel
theorem dX0_slabHolding_1 : decode cX0_slabHolding 1 = .ok (.iload_n 2, 1) := by decide +kernel
theorem dX0_slabHolding_2 : decode cX0_slabHolding 2 = .ok (.invokevirtual 164, 3) := by decide +kernel
theorem dX0_slabHolding_5 : decode cX0_slabHolding 5 = .ok (.astore_n 3, 1) := by decide +kernel
theorem dX0_slabHolding_6 : decode cX0_slabHolding 6 = .ok (.aload_n 3, 1) := by decide +kernel
theorem dX0_slabHolding_7 : decode cX0_slabHolding 7 = .ok (.ifnull 15, 3) := by decide +kernel
theorem dX0_slabHolding_10 : decode cX0_slabHolding 10 = .ok (.aload_n 3, 1) := by decide +kernel
theorem dX0_slabHolding_11 : decode cX0_slabHolding 11 = .ok (.aload_n 1, 1) := by decide +kernel
theorem dX0_slabHolding_12 : decode cX0_slabHolding 12 = .ok (.invokevirtual 167, 3) := by decide +kernel
theorem dX0_slabHolding_15 : decode cX0_slabHolding 15 = .ok (.ifCond .eq 7, 3) := by decide +kernel
theorem dX0_slabHolding_18 : decode cX0_slabHolding 18 = .ok (.aload_n 3, 1) := by decide +kernel
theorem dX0_slabHolding_19 : decode cX0_slabHolding 19 = .ok (.goto 4, 3) := by decide +kernel
theorem dX0_slabHolding_22 : decode cX0_slabHolding 22 = .ok (.aconst_null, 1) := by decide +kernel
theorem dX0_slabHolding_23 : decode cX0_slabHolding 23 = .ok (.areturn, 1) := by decide +kernel
theorem dX0_slabWithLying_0 : decode cX0_slabWithLying 0 = .ok (.aload_n 0, 1) := by decide +kernel
theorem dX0_slabWithLying_1 : decode cX0_slabWithLying 1 = .ok (.getfield 64, 3) := by decide +kernel
theorem dX0_slabWithLying_4 : decode cX0_slabWithLying 4 = .ok (.astore_n 2, 1) := by decide +kernel
theorem dX0_slabWithLying_5 : decode cX0_slabWithLying 5 = .ok (.aload_n 2, 1) := by decide +kernel
theorem dX0_slabWithLying_6 : decode cX0_slabWithLying 6 = .ok (.ifnull 28, 3) := by decide +kernel
theorem dX0_slabWithLying_9 : decode cX0_slabWithLying 9 = .ok (.aload_n 2, 1) := by decide +kernel
theorem dX0_slabWithLying_10 : decode cX0_slabWithLying 10 = .ok (.aload_n 1, 1) := by decide +kernel
theorem dX0_slabWithLying_11 : decode cX0_slabWithLying 11 = .ok (.invokevirtual 167, 3) := by decide +kernel
theorem dX0_slabWithLying_14 : decode cX0_slabWithLying 14 = .ok (.ifCond .eq 12, 3) := by decide +kernel
theorem dX0_slabWithLying_17 : decode cX0_slabWithLying 17 = .ok (.aload_n 2, 1) := by decide +kernel
theorem dX0_slabWithLying_18 : decode cX0_slabWithLying 18 = .ok (.getfield 171, 3) := by decide +kernel
theorem dX0_slabWithLying_21 : decode cX0_slabWithLying 21 = .ok (.ifCond .eq 5, 3) := by decide +kernel
theorem dX0_slabWithLying_24 : decode cX0_slabWithLying 24 = .ok (.aload_n 2, 1) := by decide +kernel
theorem dX0_slabWithLying_25 : decode cX0_slabWithLying 25 = .ok (.areturn, 1) := by decide +kernel
theorem dX0_slabWithLying_26 : decode cX0_slabWithLying 26 = .ok (.aload_n 2, 1) := by decide +kernel
theorem dX0_slabWithLying_27 : decode cX0_slabWithLying 27 = .ok (.getfield 76, 3) := by decide +kernel
theorem dX0_slabWithLying_30 : decode cX0_slabWithLying 30 = .ok (.astore_n 2, 1) := by decide +kernel
theorem dX0_slabWithLying_31 : decode cX0_slabWithLying 31 = .ok (.goto (-26), 3) := by decide +kernel
theorem dX0_slabWithLying_34 : decode cX0_slabWithLying 34 = .ok (.aconst_null, 1) := by decide +kernel
theorem dX0_slabWithLying_35 : decode cX0_slabWithLying 35 = .ok (.areturn, 1) := by decide +kernel
theorem dX0_idleSlab_0 : decode cX0_idleSlab 0 = .ok (.aload_n 0, 1) := by decide +kernel
theorem dX0_idleSlab_1 : decode cX0_idleSlab 1 = .ok (.getfield 64, 3) := by decide +kernel
theorem dX0_idleSlab_4 : decode cX0_idleSlab 4 = .ok (.astore_n 2, 1) := by decide +kernel
theorem dX0_idleSlab_5 : decode cX0_idleSlab 5 = .ok (.aload_n 2, 1) := by decide +kernel
theorem dX0_idleSlab_6 : decode cX0_idleSlab 6 = .ok (.ifnull 35, 3) := by decide +kernel
theorem dX0_idleSlab_9 : decode cX0_idleSlab 9 = .ok (.aload_n 2, 1) := by decide +kernel
theorem dX0_idleSlab_10 : decode cX0_idleSlab 10 = .ok (.aload_n 1, 1) := by decide +kernel
theorem dX0_idleSlab_11 : decode cX0_idleSlab 11 = .ok (.invokevirtual 167, 3) := by decide +kernel
theorem dX0_idleSlab_14 : decode cX0_idleSlab 14 = .ok (.ifCond .eq 19, 3) := by decide +kernel
theorem dX0_idleSlab_17 : decode cX0_idleSlab 17 = .ok (.aload_n 2, 1) := by decide +kernel
theorem dX0_idleSlab_18 : decode cX0_idleSlab 18 = .ok (.getfield 171, 3) := by decide +kernel
theorem dX0_idleSlab_21 : decode cX0_idleSlab 21 = .ok (.invokestatic 174, 3) := by decide +kernel
theorem dX0_idleSlab_24 : decode cX0_idleSlab 24 = .ok (.aload_n 2, 1) := by decide +kernel
theorem dX0_idleSlab_25 : decode cX0_idleSlab 25 = .ok (.getfield 177, 3) := by decide +kernel
theorem dX0_idleSlab_28 : decode cX0_idleSlab 28 = .ok (.if_icmp .ne 5, 3) := by decide +kernel
theorem dX0_idleSlab_31 : decode cX0_idleSlab 31 = .ok (.aload_n 2, 1) := by decide +kernel
theorem dX0_idleSlab_32 : decode cX0_idleSlab 32 = .ok (.areturn, 1) := by decide +kernel
theorem dX0_idleSlab_33 : decode cX0_idleSlab 33 = .ok (.aload_n 2, 1) := by decide +kernel
theorem dX0_idleSlab_34 : decode cX0_idleSlab 34 = .ok (.getfield 76, 3) := by decide +kernel
theorem dX0_idleSlab_37 : decode cX0_idleSlab 37 = .ok (.astore_n 2, 1) := by decide +kernel
theorem dX0_idleSlab_38 : decode cX0_idleSlab 38 = .ok (.goto (-33), 3) := by decide +kernel
theorem dX0_idleSlab_41 : decode cX0_idleSlab 41 = .ok (.aconst_null, 1) := by decide +kernel
theorem dX0_idleSlab_42 : decode cX0_idleSlab 42 = .ok (.areturn, 1) := by decide +kernel
theorem dX0_aheadOf_0 : decode cX0_aheadOf 0 = .ok (.aload_n 0, 1) := by decide +kernel
theorem dX0_aheadOf_1 : decode cX0_aheadOf 1 = .ok (.aload_n 1, 1) := by decide +kernel
theorem dX0_aheadOf_2 : decode cX0_aheadOf 2 = .ok (.getfield 73, 3) := by decide +kernel
theorem dX0_aheadOf_5 : decode cX0_aheadOf 5 = .ok (.invokevirtual 143, 3) := by decide +kernel
theorem dX0_aheadOf_8 : decode cX0_aheadOf 8 = .ok (.istore_n 2, 1) := by decide +kernel
theorem dX0_aheadOf_9 : decode cX0_aheadOf 9 = .ok (.iconst 0, 1) := by decide +kernel
theorem dX0_aheadOf_10 : decode cX0_aheadOf 10 = .ok (.istore_n 3, 1) := by decide +kernel
theorem dX0_aheadOf_11 : decode cX0_aheadOf 11 = .ok (.aload_n 0, 1) := by decide +kernel
theorem dX0_aheadOf_12 : decode cX0_aheadOf 12 = .ok (.getfield 64, 3) := by decide +kernel
theorem dX0_aheadOf_15 : decode cX0_aheadOf 15 = .ok (.astore 4, 2) := by decide +kernel
theorem dX0_aheadOf_17 : decode cX0_aheadOf 17 = .ok (.aload 4, 2) := by decide +kernel
theorem dX0_aheadOf_19 : decode cX0_aheadOf 19 = .ok (.ifnull 49, 3) := by decide +kernel
theorem dX0_aheadOf_22 : decode cX0_aheadOf 22 = .ok (.aload 4, 2) := by decide +kernel
theorem dX0_aheadOf_24 : decode cX0_aheadOf 24 = .ok (.getfield 116, 3) := by decide +kernel
theorem dX0_aheadOf_27 : decode cX0_aheadOf 27 = .ok (.ifCond .ne 31, 3) := by decide +kernel
theorem dX0_aheadOf_30 : decode cX0_aheadOf 30 = .ok (.aload_n 0, 1) := by decide +kernel
theorem dX0_aheadOf_31 : decode cX0_aheadOf 31 = .ok (.aload 4, 2) := by decide +kernel
theorem dX0_aheadOf_33 : decode cX0_aheadOf 33 = .ok (.getfield 73, 3) := by decide +kernel
theorem dX0_aheadOf_36 : decode cX0_aheadOf 36 = .ok (.invokevirtual 143, 3) := by decide +kernel
theorem dX0_aheadOf_39 : decode cX0_aheadOf 39 = .ok (.iload_n 2, 1) := by decide +kernel
theorem dX0_aheadOf_40 : decode cX0_aheadOf 40 = .ok (.if_icmp .ne 18, 3) := by decide +kernel
theorem dX0_aheadOf_43 : decode cX0_aheadOf 43 = .ok (.aload 4, 2) := by decide +kernel
theorem dX0_aheadOf_45 : decode cX0_aheadOf 45 = .ok (.getfield 86, 3) := by decide +kernel
theorem dX0_aheadOf_48 : decode cX0_aheadOf 48 = .ok (.aload_n 1, 1) := by decide +kernel
theorem dX0_aheadOf_49 : decode cX0_aheadOf 49 = .ok (.getfield 86, 3) := by decide +kernel
theorem dX0_aheadOf_52 : decode cX0_aheadOf 52 = .ok (.if_icmp .le 6, 3) := by decide +kernel
theorem dX0_aheadOf_55 : decode cX0_aheadOf 55 = .ok (.iinc 3 1, 3) := by decide +kernel
theorem dX0_aheadOf_58 : decode cX0_aheadOf 58 = .ok (.aload 4, 2) := by decide +kernel
theorem dX0_aheadOf_60 : decode cX0_aheadOf 60 = .ok (.getfield 76, 3) := by decide +kernel
theorem dX0_aheadOf_63 : decode cX0_aheadOf 63 = .ok (.astore 4, 2) := by decide +kernel
theorem dX0_aheadOf_65 : decode cX0_aheadOf 65 = .ok (.goto (-48), 3) := by decide +kernel
theorem dX0_aheadOf_68 : decode cX0_aheadOf 68 = .ok (.iload_n 3, 1) := by decide +kernel
theorem dX0_aheadOf_69 : decode cX0_aheadOf 69 = .ok (.ireturn, 1) := by decide +kernel
theorem dX0_segmentsOf_0 : decode cX0_segmentsOf 0 = .ok (.iconst 0, 1) := by decide +kernel
theorem dX0_segmentsOf_1 : decode cX0_segmentsOf 1 = .ok (.istore_n 2, 1) := by decide +kernel
theorem dX0_segmentsOf_2 : decode cX0_segmentsOf 2 = .ok (.aload_n 0, 1) := by decide +kernel
theorem dX0_segmentsOf_3 : decode cX0_segmentsOf 3 = .ok (.getfield 64, 3) := by decide +kernel
theorem dX0_segmentsOf_6 : decode cX0_segmentsOf 6 = .ok (.astore_n 3, 1) := by decide +kernel
theorem dX0_segmentsOf_7 : decode cX0_segmentsOf 7 = .ok (.aload_n 3, 1) := by decide +kernel
theorem dX0_segmentsOf_8 : decode cX0_segmentsOf 8 = .ok (.ifnull 27, 3) := by decide +kernel
theorem dX0_segmentsOf_11 : decode cX0_segmentsOf 11 = .ok (.iload_n 2, 1) := by decide +kernel
theorem dX0_segmentsOf_12 : decode cX0_segmentsOf 12 = .ok (.aload_n 3, 1) := by decide +kernel
theorem dX0_segmentsOf_13 : decode cX0_segmentsOf 13 = .ok (.getfield 116, 3) := by decide +kernel
theorem dX0_segmentsOf_16 : decode cX0_segmentsOf 16 = .ok (.iload_n 1, 1) := by decide +kernel
theorem dX0_segmentsOf_17 : decode cX0_segmentsOf 17 = .ok (.if_icmp .ne 7, 3) := by decide +kernel
theorem dX0_segmentsOf_20 : decode cX0_segmentsOf 20 = .ok (.iconst 1, 1) := by decide +kernel
theorem dX0_segmentsOf_21 : decode cX0_segmentsOf 21 = .ok (.goto 4, 3) := by decide +kernel
theorem dX0_segmentsOf_24 : decode cX0_segmentsOf 24 = .ok (.iconst 0, 1) := by decide +kernel
theorem dX0_segmentsOf_25 : decode cX0_segmentsOf 25 = .ok (.iadd, 1) := by decide +kernel
theorem dX0_segmentsOf_26 : decode cX0_segmentsOf 26 = .ok (.istore_n 2, 1) := by decide +kernel
theorem dX0_segmentsOf_27 : decode cX0_segmentsOf 27 = .ok (.aload_n 3, 1) := by decide +kernel
theorem dX0_segmentsOf_28 : decode cX0_segmentsOf 28 = .ok (.getfield 76, 3) := by decide +kernel
theorem dX0_segmentsOf_31 : decode cX0_segmentsOf 31 = .ok (.astore_n 3, 1) := by decide +kernel
theorem dX0_segmentsOf_32 : decode cX0_segmentsOf 32 = .ok (.goto (-25), 3) := by decide +kernel
theorem dX0_segmentsOf_35 : decode cX0_segmentsOf 35 = .ok (.iload_n 2, 1) := by decide +kernel
theorem dX0_segmentsOf_36 : decode cX0_segmentsOf 36 = .ok (.ireturn, 1) := by decide +kernel
theorem dX0_numbersOf_0 : decode cX0_numbersOf 0 = .ok (.iconst 0, 1) := by decide +kernel
theorem dX0_numbersOf_1 : decode cX0_numbersOf 1 = .ok (.istore_n 2, 1) := by decide +kernel
theorem dX0_numbersOf_2 : decode cX0_numbersOf 2 = .ok (.aload_n 0, 1) := by decide +kernel
theorem dX0_numbersOf_3 : decode cX0_numbersOf 3 = .ok (.getfield 64, 3) := by decide +kernel
theorem dX0_numbersOf_6 : decode cX0_numbersOf 6 = .ok (.astore_n 3, 1) := by decide +kernel
theorem dX0_numbersOf_7 : decode cX0_numbersOf 7 = .ok (.aload_n 3, 1) := by decide +kernel
theorem dX0_numbersOf_8 : decode cX0_numbersOf 8 = .ok (.ifnull 30, 3) := by decide +kernel
theorem dX0_numbersOf_11 : decode cX0_numbersOf 11 = .ok (.iload_n 2, 1) := by decide +kernel
theorem dX0_numbersOf_12 : decode cX0_numbersOf 12 = .ok (.aload_n 3, 1) := by decide +kernel
theorem dX0_numbersOf_13 : decode cX0_numbersOf 13 = .ok (.getfield 116, 3) := by decide +kernel
theorem dX0_numbersOf_16 : decode cX0_numbersOf 16 = .ok (.iload_n 1, 1) := by decide +kernel
theorem dX0_numbersOf_17 : decode cX0_numbersOf 17 = .ok (.if_icmp .ne 10, 3) := by decide +kernel
theorem dX0_numbersOf_20 : decode cX0_numbersOf 20 = .ok (.aload_n 3, 1) := by decide +kernel
theorem dX0_numbersOf_21 : decode cX0_numbersOf 21 = .ok (.getfield 73, 3) := by decide +kernel
theorem dX0_numbersOf_24 : decode cX0_numbersOf 24 = .ok (.goto 4, 3) := by decide +kernel
theorem dX0_numbersOf_27 : decode cX0_numbersOf 27 = .ok (.iconst 0, 1) := by decide +kernel
theorem dX0_numbersOf_28 : decode cX0_numbersOf 28 = .ok (.iadd, 1) := by decide +kernel
theorem dX0_numbersOf_29 : decode cX0_numbersOf 29 = .ok (.istore_n 2, 1) := by decide +kernel
theorem dX0_numbersOf_30 : decode cX0_numbersOf 30 = .ok (.aload_n 3, 1) := by decide +kernel
theorem dX0_numbersOf_31 : decode cX0_numbersOf 31 = .ok (.getfield 76, 3) := by decide +kernel
theorem dX0_numbersOf_34 : decode cX0_numbersOf 34 = .ok (.astore_n 3, 1) := by decide +kernel
theorem dX0_numbersOf_35 : decode cX0_numbersOf 35 = .ok (.goto (-28), 3) := by decide +kernel
theorem dX0_numbersOf_38 : decode cX0_numbersOf 38 = .ok (.iload_n 2, 1) := by decide +kernel
theorem dX0_numbersOf_39 : decode cX0_numbersOf 39 = .ok (.ireturn, 1) := by decide +kernel
theorem dX0_numbersInHeldObjects_0 : decode cX0_numbersInHeldObjects 0 = .ok (.iconst 0, 1) := by decide +kernel
theorem dX0_numbersInHeldObjects_1 : decode cX0_numbersInHeldObjects 1 = .ok (.istore_n 1, 1) := by decide +kernel
theorem dX0_numbersInHeldObjects_2 : decode cX0_numbersInHeldObjects 2 = .ok (.aload_n 0, 1) := by decide +kernel
theorem dX0_numbersInHeldObjects_3 : decode cX0_numbersInHeldObjects 3 = .ok (.getfield 64, 3) := by decide +kernel
theorem dX0_numbersInHeldObjects_6 : decode cX0_numbersInHeldObjects 6 = .ok (.astore_n 2, 1) := by decide +kernel
theorem dX0_numbersInHeldObjects_7 : decode cX0_numbersInHeldObjects 7 = .ok (.aload_n 2, 1) := by decide +kernel
theorem dX0_numbersInHeldObjects_8 : decode cX0_numbersInHeldObjects 8 = .ok (.ifnull 38, 3) := by decide +kernel
theorem dX0_numbersInHeldObjects_11 : decode cX0_numbersInHeldObjects 11 = .ok (.iload_n 1, 1) := by decide +kernel
theorem dX0_numbersInHeldObjects_12 : decode cX0_numbersInHeldObjects 12 = .ok (.aload_n 2, 1) := by decide +kernel
theorem dX0_numbersInHeldObjects_13 : decode cX0_numbersInHeldObjects 13 = .ok (.getfield 116, 3) := by decide +kernel
theorem dX0_numbersInHeldObjects_16 : decode cX0_numbersInHeldObjects 16 = .ok (.iconst 2, 1) := by decide +kernel
theorem dX0_numbersInHeldObjects_17 : decode cX0_numbersInHeldObjects 17 = .ok (.if_icmp .ne 18, 3) := by decide +kernel
theorem dX0_numbersInHeldObjects_20 : decode cX0_numbersInHeldObjects 20 = .ok (.aload_n 2, 1) := by decide +kernel
theorem dX0_numbersInHeldObjects_21 : decode cX0_numbersInHeldObjects 21 = .ok (.getfield 180, 3) := by decide +kernel
theorem dX0_numbersInHeldObjects_24 : decode cX0_numbersInHeldObjects 24 = .ok (.invokestatic 174, 3) := by decide +kernel
theorem dX0_numbersInHeldObjects_27 : decode cX0_numbersInHeldObjects 27 = .ok (.aload_n 2, 1) := by decide +kernel
theorem dX0_numbersInHeldObjects_28 : decode cX0_numbersInHeldObjects 28 = .ok (.getfield 183, 3) := by decide +kernel
theorem dX0_numbersInHeldObjects_31 : decode cX0_numbersInHeldObjects 31 = .ok (.imul, 1) := by decide +kernel
theorem dX0_numbersInHeldObjects_32 : decode cX0_numbersInHeldObjects 32 = .ok (.goto 4, 3) := by decide +kernel
theorem dX0_numbersInHeldObjects_35 : decode cX0_numbersInHeldObjects 35 = .ok (.iconst 0, 1) := by decide +kernel
theorem dX0_numbersInHeldObjects_36 : decode cX0_numbersInHeldObjects 36 = .ok (.iadd, 1) := by decide +kernel
theorem dX0_numbersInHeldObjects_37 : decode cX0_numbersInHeldObjects 37 = .ok (.istore_n 1, 1) := by decide +kernel
theorem dX0_numbersInHeldObjects_38 : decode cX0_numbersInHeldObjects 38 = .ok (.aload_n 2, 1) := by decide +kernel
theorem dX0_numbersInHeldObjects_39 : decode cX0_numbersInHeldObjects 39 = .ok (.getfield 76, 3) := by decide +kernel
theorem dX0_numbersInHeldObjects_42 : decode cX0_numbersInHeldObjects 42 = .ok (.astore_n 2, 1) := by decide +kernel
theorem dX0_numbersInHeldObjects_43 : decode cX0_numbersInHeldObjects 43 = .ok (.goto (-36), 3) := by decide +kernel
theorem dX0_numbersInHeldObjects_46 : decode cX0_numbersInHeldObjects 46 = .ok (.iload_n 1, 1) := by decide +kernel
theorem dX0_numbersInHeldObjects_47 : decode cX0_numbersInHeldObjects 47 = .ok (.ireturn, 1) := by decide +kernel
theorem dX0_objectsHeld_0 : decode cX0_objectsHeld 0 = .ok (.iconst 0, 1) := by decide +kernel
theorem dX0_objectsHeld_1 : decode cX0_objectsHeld 1 = .ok (.istore_n 2, 1) := by decide +kernel
theorem dX0_objectsHeld_2 : decode cX0_objectsHeld 2 = .ok (.aload_n 0, 1) := by decide +kernel
theorem dX0_objectsHeld_3 : decode cX0_objectsHeld 3 = .ok (.getfield 64, 3) := by decide +kernel
theorem dX0_objectsHeld_6 : decode cX0_objectsHeld 6 = .ok (.astore_n 3, 1) := by decide +kernel
theorem dX0_objectsHeld_7 : decode cX0_objectsHeld 7 = .ok (.aload_n 3, 1) := by decide +kernel
theorem dX0_objectsHeld_8 : decode cX0_objectsHeld 8 = .ok (.ifnull 33, 3) := by decide +kernel
theorem dX0_objectsHeld_11 : decode cX0_objectsHeld 11 = .ok (.iload_n 2, 1) := by decide +kernel
theorem dX0_objectsHeld_12 : decode cX0_objectsHeld 12 = .ok (.aload_n 3, 1) := by decide +kernel
theorem dX0_objectsHeld_13 : decode cX0_objectsHeld 13 = .ok (.aload_n 1, 1) := by decide +kernel
theorem dX0_objectsHeld_14 : decode cX0_objectsHeld 14 = .ok (.invokevirtual 167, 3) := by decide +kernel
theorem dX0_objectsHeld_17 : decode cX0_objectsHeld 17 = .ok (.ifCond .eq 13, 3) := by decide +kernel
theorem dX0_objectsHeld_20 : decode cX0_objectsHeld 20 = .ok (.aload_n 3, 1) := by decide +kernel
theorem dX0_objectsHeld_21 : decode cX0_objectsHeld 21 = .ok (.getfield 180, 3) := by decide +kernel
theorem dX0_objectsHeld_24 : decode cX0_objectsHeld 24 = .ok (.invokestatic 174, 3) := by decide +kernel
theorem dX0_objectsHeld_27 : decode cX0_objectsHeld 27 = .ok (.goto 4, 3) := by decide +kernel
theorem dX0_objectsHeld_30 : decode cX0_objectsHeld 30 = .ok (.iconst 0, 1) := by decide +kernel
theorem dX0_objectsHeld_31 : decode cX0_objectsHeld 31 = .ok (.iadd, 1) := by decide +kernel
theorem dX0_objectsHeld_32 : decode cX0_objectsHeld 32 = .ok (.istore_n 2, 1) := by decide +kernel
theorem dX0_objectsHeld_33 : decode cX0_objectsHeld 33 = .ok (.aload_n 3, 1) := by decide +kernel
theorem dX0_objectsHeld_34 : decode cX0_objectsHeld 34 = .ok (.getfield 76, 3) := by decide +kernel
theorem dX0_objectsHeld_37 : decode cX0_objectsHeld 37 = .ok (.astore_n 3, 1) := by decide +kernel
theorem dX0_objectsHeld_38 : decode cX0_objectsHeld 38 = .ok (.goto (-31), 3) := by decide +kernel
theorem dX0_objectsHeld_41 : decode cX0_objectsHeld 41 = .ok (.iload_n 2, 1) := by decide +kernel
theorem dX0_objectsHeld_42 : decode cX0_objectsHeld 42 = .ok (.ireturn, 1) := by decide +kernel
theorem dX0_objectsLying_0 : decode cX0_objectsLying 0 = .ok (.iconst 0, 1) := by decide +kernel
theorem dX0_objectsLying_1 : decode cX0_objectsLying 1 = .ok (.istore_n 2, 1) := by decide +kernel
theorem dX0_objectsLying_2 : decode cX0_objectsLying 2 = .ok (.aload_n 0, 1) := by decide +kernel
theorem dX0_objectsLying_3 : decode cX0_objectsLying 3 = .ok (.getfield 64, 3) := by decide +kernel
theorem dX0_objectsLying_6 : decode cX0_objectsLying 6 = .ok (.astore_n 3, 1) := by decide +kernel
theorem dX0_objectsLying_7 : decode cX0_objectsLying 7 = .ok (.aload_n 3, 1) := by decide +kernel
theorem dX0_objectsLying_8 : decode cX0_objectsLying 8 = .ok (.ifnull 33, 3) := by decide +kernel
theorem dX0_objectsLying_11 : decode cX0_objectsLying 11 = .ok (.iload_n 2, 1) := by decide +kernel
theorem dX0_objectsLying_12 : decode cX0_objectsLying 12 = .ok (.aload_n 3, 1) := by decide +kernel
theorem dX0_objectsLying_13 : decode cX0_objectsLying 13 = .ok (.aload_n 1, 1) := by decide +kernel
theorem dX0_objectsLying_14 : decode cX0_objectsLying 14 = .ok (.invokevirtual 167, 3) := by decide +kernel
theorem dX0_objectsLying_17 : decode cX0_objectsLying 17 = .ok (.ifCond .eq 13, 3) := by decide +kernel
theorem dX0_objectsLying_20 : decode cX0_objectsLying 20 = .ok (.aload_n 3, 1) := by decide +kernel
theorem dX0_objectsLying_21 : decode cX0_objectsLying 21 = .ok (.getfield 171, 3) := by decide +kernel
theorem dX0_objectsLying_24 : decode cX0_objectsLying 24 = .ok (.invokestatic 174, 3) := by decide +kernel
theorem dX0_objectsLying_27 : decode cX0_objectsLying 27 = .ok (.goto 4, 3) := by decide +kernel
theorem dX0_objectsLying_30 : decode cX0_objectsLying 30 = .ok (.iconst 0, 1) := by decide +kernel
theorem dX0_objectsLying_31 : decode cX0_objectsLying 31 = .ok (.iadd, 1) := by decide +kernel
theorem dX0_objectsLying_32 : decode cX0_objectsLying 32 = .ok (.istore_n 2, 1) := by decide +kernel
theorem dX0_objectsLying_33 : decode cX0_objectsLying 33 = .ok (.aload_n 3, 1) := by decide +kernel
theorem dX0_objectsLying_34 : decode cX0_objectsLying 34 = .ok (.getfield 76, 3) := by decide +kernel
theorem dX0_objectsLying_37 : decode cX0_objectsLying 37 = .ok (.astore_n 3, 1) := by decide +kernel
theorem dX0_objectsLying_38 : decode cX0_objectsLying 38 = .ok (.goto (-31), 3) := by decide +kernel
theorem dX0_objectsLying_41 : decode cX0_objectsLying 41 = .ok (.iload_n 2, 1) := by decide +kernel
theorem dX0_objectsLying_42 : decode cX0_objectsLying 42 = .ok (.ireturn, 1) := by decide +kernel
theorem dX0_slabsOf_0 : decode cX0_slabsOf 0 = .ok (.iconst 0, 1) := by decide +kernel
theorem dX0_slabsOf_1 : decode cX0_slabsOf 1 = .ok (.istore_n 2, 1) := by decide +kernel
theorem dX0_slabsOf_2 : decode cX0_slabsOf 2 = .ok (.aload_n 0, 1) := by decide +kernel
theorem dX0_slabsOf_3 : decode cX0_slabsOf 3 = .ok (.getfield 64, 3) := by decide +kernel
theorem dX0_slabsOf_6 : decode cX0_slabsOf 6 = .ok (.astore_n 3, 1) := by decide +kernel
theorem dX0_slabsOf_7 : decode cX0_slabsOf 7 = .ok (.aload_n 3, 1) := by decide +kernel
theorem dX0_slabsOf_8 : decode cX0_slabsOf 8 = .ok (.ifnull 27, 3) := by decide +kernel
theorem dX0_slabsOf_11 : decode cX0_slabsOf 11 = .ok (.iload_n 2, 1) := by decide +kernel
theorem dX0_slabsOf_12 : decode cX0_slabsOf 12 = .ok (.aload_n 3, 1) := by decide +kernel
theorem dX0_slabsOf_13 : decode cX0_slabsOf 13 = .ok (.aload_n 1, 1) := by decide +kernel
theorem dX0_slabsOf_14 : decode cX0_slabsOf 14 = .ok (.invokevirtual 167, 3) := by decide +kernel
theorem dX0_slabsOf_17 : decode cX0_slabsOf 17 = .ok (.ifCond .eq 7, 3) := by decide +kernel
theorem dX0_slabsOf_20 : decode cX0_slabsOf 20 = .ok (.iconst 1, 1) := by decide +kernel
theorem dX0_slabsOf_21 : decode cX0_slabsOf 21 = .ok (.goto 4, 3) := by decide +kernel
theorem dX0_slabsOf_24 : decode cX0_slabsOf 24 = .ok (.iconst 0, 1) := by decide +kernel
theorem dX0_slabsOf_25 : decode cX0_slabsOf 25 = .ok (.iadd, 1) := by decide +kernel
theorem dX0_slabsOf_26 : decode cX0_slabsOf 26 = .ok (.istore_n 2, 1) := by decide +kernel
theorem dX0_slabsOf_27 : decode cX0_slabsOf 27 = .ok (.aload_n 3, 1) := by decide +kernel
theorem dX0_slabsOf_28 : decode cX0_slabsOf 28 = .ok (.getfield 76, 3) := by decide +kernel
theorem dX0_slabsOf_31 : decode cX0_slabsOf 31 = .ok (.astore_n 3, 1) := by decide +kernel
theorem dX0_slabsOf_32 : decode cX0_slabsOf 32 = .ok (.goto (-25), 3) := by decide +kernel
theorem dX0_slabsOf_35 : decode cX0_slabsOf 35 = .ok (.iload_n 2, 1) := by decide +kernel
theorem dX0_slabsOf_36 : decode cX0_slabsOf 36 = .ok (.ireturn, 1) := by decide +kernel
theorem dX1_init_0 : decode cX1_init 0 = .ok (.aload_n 0, 1) := by decide +kernel
theorem dX1_init_1 : decode cX1_init 1 = .ok (.invokespecial 3, 3) := by decide +kernel
theorem dX1_init_4 : decode cX1_init 4 = .ok (.aload_n 0, 1) := by decide +kernel
theorem dX1_init_5 : decode cX1_init 5 = .ok (.aload_n 1, 1) := by decide +kernel
theorem dX1_init_6 : decode cX1_init 6 = .ok (.iload_n 2, 1) := by decide +kernel
theorem dX1_init_7 : decode cX1_init 7 = .ok (.invokevirtual 9, 3) := by decide +kernel
theorem dX1_init_10 : decode cX1_init 10 = .ok (.putfield 15, 3) := by decide +kernel
theorem dX1_init_13 : decode cX1_init 13 = .ok (.aload_n 0, 1) := by decide +kernel
theorem dX1_init_14 : decode cX1_init 14 = .ok (.iload_n 3, 1) := by decide +kernel
theorem dX1_init_15 : decode cX1_init 15 = .ok (.putfield 21, 3) := by decide +kernel
theorem dX1_init_18 : decode cX1_init 18 = .ok (.aload_n 0, 1) := by decide +kernel
theorem dX1_init_19 : decode cX1_init 19 = .ok (.iload 4, 2) := by decide +kernel
theorem dX1_init_21 : decode cX1_init 21 = .ok (.putfield 25, 3) := by decide +kernel
theorem dX1_init_24 : decode cX1_init 24 = .ok (.aload_n 0, 1) := by decide +kernel
theorem dX1_init_25 : decode cX1_init 25 = .ok (.iload 5, 2) := by decide +kernel
theorem dX1_init_27 : decode cX1_init 27 = .ok (.putfield 28, 3) := by decide +kernel
theorem dX1_init_30 : decode cX1_init 30 = .ok (.aload_n 0, 1) := by decide +kernel
theorem dX1_init_31 : decode cX1_init 31 = .ok (.aload_n 1, 1) := by decide +kernel
theorem dX1_init_32 : decode cX1_init 32 = .ok (.getfield 31, 3) := by decide +kernel
theorem dX1_init_35 : decode cX1_init 35 = .ok (.putfield 34, 3) := by decide +kernel
theorem dX1_init_38 : decode cX1_init 38 = .ok (.aload_n 0, 1) := by decide +kernel
theorem dX1_init_39 : decode cX1_init 39 = .ok (.aload_n 1, 1) := by decide +kernel
theorem dX1_init_40 : decode cX1_init 40 = .ok (.getfield 35, 3) := by decide +kernel
theorem dX1_init_43 : decode cX1_init 43 = .ok (.putfield 38, 3) := by decide +kernel
theorem dX1_init_46 : decode cX1_init 46 = .ok (.return_, 1) := by decide +kernel
theorem dX1_baseIn_0 : decode cX1_baseIn 0 = .ok (.aload_n 0, 1) := by decide +kernel
theorem dX1_baseIn_1 : decode cX1_baseIn 1 = .ok (.aload_n 1, 1) := by decide +kernel
theorem dX1_baseIn_2 : decode cX1_baseIn 2 = .ok (.getfield 39, 3) := by decide +kernel
theorem dX1_baseIn_5 : decode cX1_baseIn 5 = .ok (.aload_n 0, 1) := by decide +kernel
theorem dX1_baseIn_6 : decode cX1_baseIn 6 = .ok (.getfield 34, 3) := by decide +kernel
theorem dX1_baseIn_9 : decode cX1_baseIn 9 = .ok (.invokestatic 44, 3) := by decide +kernel
theorem dX1_baseIn_12 : decode cX1_baseIn 12 = .ok (.i2l, 1) := by decide +kernel
theorem dX1_baseIn_13 : decode cX1_baseIn 13 = .ok (.invokevirtual 50, 3) := by decide +kernel
theorem dX1_baseIn_16 : decode cX1_baseIn 16 = .ok (.lstore_n 2, 1) := by decide +kernel
theorem dX1_baseIn_17 : decode cX1_baseIn 17 = .ok (.aload_n 0, 1) := by decide +kernel
theorem dX1_baseIn_18 : decode cX1_baseIn 18 = .ok (.lload_n 2, 1) := by decide +kernel
theorem dX1_baseIn_19 : decode cX1_baseIn 19 = .ok (.invokevirtual 54, 3) := by decide +kernel
theorem dX1_baseIn_22 : decode cX1_baseIn 22 = .ok (.ifCond .eq 13, 3) := by decide +kernel
theorem dX1_baseIn_25 : decode cX1_baseIn 25 = .ok (.aload_n 0, 1) := by decide +kernel
theorem dX1_baseIn_26 : decode cX1_baseIn 26 = .ok (.aload_n 0, 1) := by decide +kernel
theorem dX1_baseIn_27 : decode cX1_baseIn 27 = .ok (.lload_n 2, 1) := by decide +kernel
theorem dX1_baseIn_28 : decode cX1_baseIn 28 = .ok (.invokevirtual 58, 3) := by decide +kernel
theorem dX1_baseIn_31 : decode cX1_baseIn 31 = .ok (.invokevirtual 50, 3) := by decide +kernel
theorem dX1_baseIn_34 : decode cX1_baseIn 34 = .ok (.lstore_n 2, 1) := by decide +kernel
theorem dX1_baseIn_35 : decode cX1_baseIn 35 = .ok (.aload_n 1, 1) := by decide +kernel
theorem dX1_baseIn_36 : decode cX1_baseIn 36 = .ok (.getfield 39, 3) := by decide +kernel
theorem dX1_baseIn_39 : decode cX1_baseIn 39 = .ok (.aload_n 1, 1) := by decide +kernel
theorem dX1_baseIn_40 : decode cX1_baseIn 40 = .ok (.getfield 61, 3) := by decide +kernel
theorem dX1_baseIn_43 : decode cX1_baseIn 43 = .ok (.iadd, 1) := by decide +kernel
theorem dX1_baseIn_44 : decode cX1_baseIn 44 = .ok (.aload_n 0, 1) := by decide +kernel
theorem dX1_baseIn_45 : decode cX1_baseIn 45 = .ok (.getfield 38, 3) := by decide +kernel
theorem dX1_baseIn_48 : decode cX1_baseIn 48 = .ok (.invokestatic 63, 3) := by decide +kernel
theorem dX1_baseIn_51 : decode cX1_baseIn 51 = .ok (.i2l, 1) := by decide +kernel
theorem dX1_baseIn_52 : decode cX1_baseIn 52 = .ok (.lstore 4, 2) := by decide +kernel
theorem dX1_baseIn_54 : decode cX1_baseIn 54 = .ok (.aload_n 0, 1) := by decide +kernel
theorem dX1_baseIn_55 : decode cX1_baseIn 55 = .ok (.lload_n 2, 1) := by decide +kernel
theorem dX1_baseIn_56 : decode cX1_baseIn 56 = .ok (.invokevirtual 54, 3) := by decide +kernel
theorem dX1_baseIn_59 : decode cX1_baseIn 59 = .ok (.ifCond .ne 15, 3) := by decide +kernel
theorem dX1_baseIn_62 : decode cX1_baseIn 62 = .ok (.lload_n 2, 1) := by decide +kernel
theorem dX1_baseIn_63 : decode cX1_baseIn 63 = .ok (.aload_n 0, 1) := by decide +kernel
theorem dX1_baseIn_64 : decode cX1_baseIn 64 = .ok (.getfield 15, 3) := by decide +kernel
theorem dX1_baseIn_67 : decode cX1_baseIn 67 = .ok (.ladd, 1) := by decide +kernel
theorem dX1_baseIn_68 : decode cX1_baseIn 68 = .ok (.lload 4, 2) := by decide +kernel
theorem dX1_baseIn_70 : decode cX1_baseIn 70 = .ok (.lcmp, 1) := by decide +kernel
theorem dX1_baseIn_71 : decode cX1_baseIn 71 = .ok (.ifCond .le 9, 3) := by decide +kernel
theorem dX1_baseIn_74 : decode cX1_baseIn 74 = .ok (.ldc2_w 66, 3) := by decide +kernel
theorem dX1_baseIn_77 : decode cX1_baseIn 77 = .ok (.goto 4, 3) := by decide +kernel
theorem dX1_baseIn_80 : decode cX1_baseIn 80 = .ok (.lload_n 2, 1) := by decide +kernel
theorem dX1_baseIn_81 : decode cX1_baseIn 81 = .ok (.lreturn, 1) := by decide +kernel
theorem dX1_alignedFrom_0 : decode cX1_alignedFrom 0 = .ok (.lload_n 1, 1) := by decide +kernel
theorem dX1_alignedFrom_1 : decode cX1_alignedFrom 1 = .ok (.aload_n 0, 1) := by decide +kernel
theorem dX1_alignedFrom_2 : decode cX1_alignedFrom 2 = .ok (.getfield 25, 3) := by decide +kernel
theorem dX1_alignedFrom_5 : decode cX1_alignedFrom 5 = .ok (.i2l, 1) := by decide +kernel
theorem dX1_alignedFrom_6 : decode cX1_alignedFrom 6 = .ok (.lload_n 1, 1) := by decide +kernel
theorem dX1_alignedFrom_7 : decode cX1_alignedFrom 7 = .ok (.lsub, 1) := by decide +kernel
theorem dX1_alignedFrom_8 : decode cX1_alignedFrom 8 = .ok (.aload_n 0, 1) := by decide +kernel
theorem dX1_alignedFrom_9 : decode cX1_alignedFrom 9 = .ok (.getfield 21, 3) := by decide +kernel
theorem dX1_alignedFrom_12 : decode cX1_alignedFrom 12 = .ok (.i2l, 1) := by decide +kernel
theorem dX1_alignedFrom_13 : decode cX1_alignedFrom 13 = .ok (.lconst 1, 1) := by decide +kernel
theorem dX1_alignedFrom_14 : decode cX1_alignedFrom 14 = .ok (.lsub, 1) := by decide +kernel
theorem dX1_alignedFrom_15 : decode cX1_alignedFrom 15 = .ok (.land, 1) := by decide +kernel
theorem dX1_alignedFrom_16 : decode cX1_alignedFrom 16 = .ok (.ladd, 1) := by decide +kernel
theorem dX1_alignedFrom_17 : decode cX1_alignedFrom 17 = .ok (.lreturn, 1) := by decide +kernel
theorem dX1_multipleAbove_0 : decode cX1_multipleAbove 0 = .ok (.lload_n 1, 1) := by decide +kernel
theorem dX1_multipleAbove_1 : decode cX1_multipleAbove 1 = .ok (.aload_n 0, 1) := by decide +kernel
theorem dX1_multipleAbove_2 : decode cX1_multipleAbove 2 = .ok (.getfield 28, 3) := by decide +kernel
theorem dX1_multipleAbove_5 : decode cX1_multipleAbove 5 = .ok (.i2l, 1) := by decide +kernel
theorem dX1_multipleAbove_6 : decode cX1_multipleAbove 6 = .ok (.lconst 1, 1) := by decide +kernel
theorem dX1_multipleAbove_7 : decode cX1_multipleAbove 7 = .ok (.lsub, 1) := by decide +kernel
theorem dX1_multipleAbove_8 : decode cX1_multipleAbove 8 = .ok (.lor, 1) := by decide +kernel
theorem dX1_multipleAbove_9 : decode cX1_multipleAbove 9 = .ok (.lconst 1, 1) := by decide +kernel
theorem dX1_multipleAbove_10 : decode cX1_multipleAbove 10 = .ok (.ladd, 1) := by decide +kernel
theorem dX1_multipleAbove_11 : decode cX1_multipleAbove 11 = .ok (.lreturn, 1) := by decide +kernel
theorem dX1_crosses_0 : decode cX1_crosses 0 = .ok (.aload_n 0, 1) := by decide +kernel
theorem dX1_crosses_1 : decode cX1_crosses 1 = .ok (.getfield 28, 3) := by decide +kernel
theorem dX1_crosses_4 : decode cX1_crosses 4 = .ok (.ifCond .eq 22, 3) := by decide +kernel
theorem dX1_crosses_7 : decode cX1_crosses 7 = .ok (.aload_n 0, 1) := by decide +kernel
theorem dX1_crosses_8 : decode cX1_crosses 8 = .ok (.lload_n 1, 1) := by decide +kernel
theorem dX1_crosses_9 : decode cX1_crosses 9 = .ok (.invokevirtual 58, 3) := by decide +kernel
theorem dX1_crosses_12 : decode cX1_crosses 12 = .ok (.lload_n 1, 1) := by decide +kernel
theorem dX1_crosses_13 : decode cX1_crosses 13 = .ok (.aload_n 0, 1) := by decide +kernel
theorem dX1_crosses_14 : decode cX1_crosses 14 = .ok (.getfield 15, 3) := by decide +kernel
theorem dX1_crosses_17 : decode cX1_crosses 17 = .ok (.ladd, 1) := by decide +kernel
theorem dX1_crosses_18 : decode cX1_crosses 18 = .ok (.lcmp, 1) := by decide +kernel
theorem dX1_crosses_19 : decode cX1_crosses 19 = .ok (.ifCond .ge 7, 3) := by decide +kernel
theorem dX1_crosses_22 : decode cX1_crosses 22 = .ok (.iconst 1, 1) := by decide +kernel
theorem dX1_crosses_23 : decode cX1_crosses 23 = .ok (.goto 4, 3) := by decide +kernel
theorem dX1_crosses_26 : decode cX1_crosses 26 = .ok (.iconst 0, 1) := by decide +kernel
theorem dX1_crosses_27 : decode cX1_crosses 27 = .ok (.ireturn, 1) := by decide +kernel
theorem dX2_init_0 : decode cX2_init 0 = .ok (.aload_n 0, 1) := by decide +kernel
theorem dX2_init_1 : decode cX2_init 1 = .ok (.invokespecial 1, 3) := by decide +kernel
theorem dX2_init_4 : decode cX2_init 4 = .ok (.aload_n 0, 1) := by decide +kernel
theorem dX2_init_5 : decode cX2_init 5 = .ok (.iload_n 1, 1) := by decide +kernel
theorem dX2_init_6 : decode cX2_init 6 = .ok (.putfield 7, 3) := by decide +kernel
theorem dX2_init_9 : decode cX2_init 9 = .ok (.aload_n 0, 1) := by decide +kernel
theorem dX2_init_10 : decode cX2_init 10 = .ok (.new 13, 3) := by decide +kernel
theorem dX2_init_13 : decode cX2_init 13 = .ok (.dup, 1) := by decide +kernel
theorem dX2_init_14 : decode cX2_init 14 = .ok (.invokespecial 15, 3) := by decide +kernel
theorem dX2_init_17 : decode cX2_init 17 = .ok (.putfield 16, 3) := by decide +kernel
theorem dX2_init_20 : decode cX2_init 20 = .ok (.aload_n 0, 1) := by decide +kernel
theorem dX2_init_21 : decode cX2_init 21 = .ok (.new 13, 3) := by decide +kernel
theorem dX2_init_24 : decode cX2_init 24 = .ok (.dup, 1) := by decide +kernel
theorem dX2_init_25 : decode cX2_init 25 = .ok (.invokespecial 15, 3) := by decide +kernel
theorem dX2_init_28 : decode cX2_init 28 = .ok (.putfield 20, 3) := by decide +kernel
theorem dX2_init_31 : decode cX2_init 31 = .ok (.aload_n 0, 1) := by decide +kernel
theorem dX2_init_32 : decode cX2_init 32 = .ok (.new 23, 3) := by decide +kernel
theorem dX2_init_35 : decode cX2_init 35 = .ok (.dup, 1) := by decide +kernel
theorem dX2_init_36 : decode cX2_init 36 = .ok (.invokespecial 25, 3) := by decide +kernel
theorem dX2_init_39 : decode cX2_init 39 = .ok (.putfield 26, 3) := by decide +kernel
theorem dX2_init_42 : decode cX2_init 42 = .ok (.return_, 1) := by decide +kernel
theorem dX2_deskAt_0 : decode cX2_deskAt 0 = .ok (.iload_n 1, 1) := by decide +kernel
theorem dX2_deskAt_1 : decode cX2_deskAt 1 = .ok (.ifCond .ne 10, 3) := by decide +kernel
theorem dX2_deskAt_4 : decode cX2_deskAt 4 = .ok (.aload_n 0, 1) := by decide +kernel
theorem dX2_deskAt_5 : decode cX2_deskAt 5 = .ok (.getfield 16, 3) := by decide +kernel
theorem dX2_deskAt_8 : decode cX2_deskAt 8 = .ok (.goto 7, 3) := by decide +kernel
theorem dX2_deskAt_11 : decode cX2_deskAt 11 = .ok (.aload_n 0, 1) := by decide +kernel
theorem dX2_deskAt_12 : decode cX2_deskAt 12 = .ok (.getfield 20, 3) := by decide +kernel
theorem dX2_deskAt_15 : decode cX2_deskAt 15 = .ok (.areturn, 1) := by decide +kernel
theorem dX3_init_0 : decode cX3_init 0 = .ok (.aload_n 0, 1) := by decide +kernel
theorem dX3_init_1 : decode cX3_init 1 = .ok (.invokespecial 3, 3) := by decide +kernel
theorem dX3_init_4 : decode cX3_init 4 = .ok (.aload_n 0, 1) := by decide +kernel
theorem dX3_init_5 : decode cX3_init 5 = .ok (.new 9, 3) := by decide +kernel
theorem dX3_init_8 : decode cX3_init 8 = .ok (.dup, 1) := by decide +kernel
theorem dX3_init_9 : decode cX3_init 9 = .ok (.invokespecial 11, 3) := by decide +kernel
theorem dX3_init_12 : decode cX3_init 12 = .ok (.putfield 12, 3) := by decide +kernel
theorem dX3_init_15 : decode cX3_init 15 = .ok (.aload_n 0, 1) := by decide +kernel
theorem dX3_init_16 : decode cX3_init 16 = .ok (.new 9, 3) := by decide +kernel
theorem dX3_init_19 : decode cX3_init 19 = .ok (.dup, 1) := by decide +kernel
theorem dX3_init_20 : decode cX3_init 20 = .ok (.invokespecial 11, 3) := by decide +kernel
theorem dX3_init_23 : decode cX3_init 23 = .ok (.putfield 18, 3) := by decide +kernel
theorem dX3_init_26 : decode cX3_init 26 = .ok (.return_, 1) := by decide +kernel
theorem dX3_exchange_0 : decode cX3_exchange 0 = .ok (.aload_n 0, 1) := by decide +kernel
theorem dX3_exchange_1 : decode cX3_exchange 1 = .ok (.getfield 12, 3) := by decide +kernel
theorem dX3_exchange_4 : decode cX3_exchange 4 = .ok (.astore_n 1, 1) := by decide +kernel
theorem dX3_exchange_5 : decode cX3_exchange 5 = .ok (.aload_n 0, 1) := by decide +kernel
theorem dX3_exchange_6 : decode cX3_exchange 6 = .ok (.aload_n 0, 1) := by decide +kernel
theorem dX3_exchange_7 : decode cX3_exchange 7 = .ok (.getfield 18, 3) := by decide +kernel
theorem dX3_exchange_10 : decode cX3_exchange 10 = .ok (.putfield 12, 3) := by decide +kernel
theorem dX3_exchange_13 : decode cX3_exchange 13 = .ok (.aload_n 0, 1) := by decide +kernel
theorem dX3_exchange_14 : decode cX3_exchange 14 = .ok (.aload_n 1, 1) := by decide +kernel
theorem dX3_exchange_15 : decode cX3_exchange 15 = .ok (.putfield 18, 3) := by decide +kernel
theorem dX3_exchange_18 : decode cX3_exchange 18 = .ok (.return_, 1) := by decide +kernel
theorem dX3_load_0 : decode cX3_load 0 = .ok (.aload_n 0, 1) := by decide +kernel
theorem dX3_load_1 : decode cX3_load 1 = .ok (.getfield 12, 3) := by decide +kernel
theorem dX3_load_4 : decode cX3_load 4 = .ok (.getfield 21, 3) := by decide +kernel
theorem dX3_load_7 : decode cX3_load 7 = .ok (.ifCond .le 4, 3) := by decide +kernel
theorem dX3_load_10 : decode cX3_load 10 = .ok (.return_, 1) := by decide +kernel
theorem dX3_load_11 : decode cX3_load 11 = .ok (.aload_n 0, 1) := by decide +kernel
theorem dX3_load_12 : decode cX3_load 12 = .ok (.getfield 18, 3) := by decide +kernel
theorem dX3_load_15 : decode cX3_load 15 = .ok (.getfield 21, 3) := by decide +kernel
theorem dX3_load_18 : decode cX3_load 18 = .ok (.ifCond .ne 11, 3) := by decide +kernel
theorem dX3_load_21 : decode cX3_load 21 = .ok (.aload_n 1, 1) := by decide +kernel
theorem dX3_load_22 : decode cX3_load 22 = .ok (.aload_n 0, 1) := by decide +kernel
theorem dX3_load_23 : decode cX3_load 23 = .ok (.getfield 18, 3) := by decide +kernel
theorem dX3_load_26 : decode cX3_load 26 = .ok (.invokevirtual 25, 3) := by decide +kernel
theorem dX3_load_29 : decode cX3_load 29 = .ok (.aload_n 0, 1) := by decide +kernel
theorem dX3_load_30 : decode cX3_load 30 = .ok (.invokevirtual 29, 3) := by decide +kernel
theorem dX3_load_33 : decode cX3_load 33 = .ok (.return_, 1) := by decide +kernel
theorem dX3_makeRoom_0 : decode cX3_makeRoom 0 = .ok (.aload_n 0, 1) := by decide +kernel
theorem dX3_makeRoom_1 : decode cX3_makeRoom 1 = .ok (.getfield 12, 3) := by decide +kernel
theorem dX3_makeRoom_4 : decode cX3_makeRoom 4 = .ok (.getfield 21, 3) := by decide +kernel
theorem dX3_makeRoom_7 : decode cX3_makeRoom 7 = .ok (.iconst 3, 1) := by decide +kernel
theorem dX3_makeRoom_8 : decode cX3_makeRoom 8 = .ok (.if_icmp .ge 4, 3) := by decide +kernel
theorem dX3_makeRoom_11 : decode cX3_makeRoom 11 = .ok (.return_, 1) := by decide +kernel
theorem dX3_makeRoom_12 : decode cX3_makeRoom 12 = .ok (.aload_n 0, 1) := by decide +kernel
theorem dX3_makeRoom_13 : decode cX3_makeRoom 13 = .ok (.getfield 18, 3) := by decide +kernel
theorem dX3_makeRoom_16 : decode cX3_makeRoom 16 = .ok (.getfield 21, 3) := by decide +kernel
theorem dX3_makeRoom_19 : decode cX3_makeRoom 19 = .ok (.ifCond .le 20, 3) := by decide +kernel
theorem dX3_makeRoom_22 : decode cX3_makeRoom 22 = .ok (.aload_n 1, 1) := by decide +kernel
theorem dX3_makeRoom_23 : decode cX3_makeRoom 23 = .ok (.getfield 21, 3) := by decide +kernel
theorem dX3_makeRoom_26 : decode cX3_makeRoom 26 = .ok (.bipush 12, 2) := by decide +kernel
theorem dX3_makeRoom_28 : decode cX3_makeRoom 28 = .ok (.if_icmp .ge 11, 3) := by decide +kernel
theorem dX3_makeRoom_31 : decode cX3_makeRoom 31 = .ok (.aload_n 0, 1) := by decide +kernel
theorem dX3_makeRoom_32 : decode cX3_makeRoom 32 = .ok (.getfield 18, 3) := by decide +kernel
theorem dX3_makeRoom_35 : decode cX3_makeRoom 35 = .ok (.aload_n 1, 1) := by decide +kernel
theorem dX3_makeRoom_36 : decode cX3_makeRoom 36 = .ok (.invokevirtual 25, 3) := by decide +kernel
theorem dX3_makeRoom_39 : decode cX3_makeRoom 39 = .ok (.aload_n 0, 1) := by decide +kernel
theorem dX3_makeRoom_40 : decode cX3_makeRoom 40 = .ok (.getfield 18, 3) := by decide +kernel
theorem dX3_makeRoom_43 : decode cX3_makeRoom 43 = .ok (.getfield 21, 3) := by decide +kernel
theorem dX3_makeRoom_46 : decode cX3_makeRoom 46 = .ok (.ifCond .ne 7, 3) := by decide +kernel
theorem dX3_makeRoom_49 : decode cX3_makeRoom 49 = .ok (.aload_n 0, 1) := by decide +kernel
theorem dX3_makeRoom_50 : decode cX3_makeRoom 50 = .ok (.invokevirtual 29, 3) := by decide +kernel
theorem dX3_makeRoom_53 : decode cX3_makeRoom 53 = .ok (.return_, 1) := by decide +kernel
theorem dX4_init_0 : decode cX4_init 0 = .ok (.aload_n 0, 1) := by decide +kernel
theorem dX4_init_1 : decode cX4_init 1 = .ok (.invokespecial 3, 3) := by decide +kernel
theorem dX4_init_4 : decode cX4_init 4 = .ok (.aload_n 0, 1) := by decide +kernel
theorem dX4_init_5 : decode cX4_init 5 = .ok (.bipush 12, 2) := by decide +kernel
theorem dX4_init_7 : decode cX4_init 7 = .ok (.newarray .int, 2) := by decide +kernel
theorem dX4_init_9 : decode cX4_init 9 = .ok (.putfield 9, 3) := by decide +kernel
theorem dX4_init_12 : decode cX4_init 12 = .ok (.return_, 1) := by decide +kernel
theorem dX4_top_0 : decode cX4_top 0 = .ok (.aload_n 0, 1) := by decide +kernel
theorem dX4_top_1 : decode cX4_top 1 = .ok (.getfield 15, 3) := by decide +kernel
theorem dX4_top_4 : decode cX4_top 4 = .ok (.ifCond .le 29, 3) := by decide +kernel
theorem dX4_top_7 : decode cX4_top 7 = .ok (.aload_n 0, 1) := by decide +kernel
theorem dX4_top_8 : decode cX4_top 8 = .ok (.getfield 15, 3) := by decide +kernel
theorem dX4_top_11 : decode cX4_top 11 = .ok (.aload_n 0, 1) := by decide +kernel
theorem dX4_top_12 : decode cX4_top 12 = .ok (.getfield 9, 3) := by decide +kernel
theorem dX4_top_15 : decode cX4_top 15 = .ok (.arraylength, 1) := by decide +kernel
theorem dX4_top_16 : decode cX4_top 16 = .ok (.if_icmp .gt 17, 3) := by decide +kernel
theorem dX4_top_19 : decode cX4_top 19 = .ok (.aload_n 0, 1) := by decide +kernel
theorem dX4_top_20 : decode cX4_top 20 = .ok (.getfield 9, 3) := by decide +kernel
theorem dX4_top_23 : decode cX4_top 23 = .ok (.aload_n 0, 1) := by decide +kernel
theorem dX4_top_24 : decode cX4_top 24 = .ok (.getfield 15, 3) := by decide +kernel
theorem dX4_top_27 : decode cX4_top 27 = .ok (.iconst 1, 1) := by decide +kernel
theorem dX4_top_28 : decode cX4_top 28 = .ok (.isub, 1) := by decide +kernel
theorem dX4_top_29 : decode cX4_top 29 = .ok (.iaload, 1) := by decide +kernel
theorem dX4_top_30 : decode cX4_top 30 = .ok (.goto 4, 3) := by decide +kernel
theorem dX4_top_33 : decode cX4_top 33 = .ok (.iconst (-1), 1) := by decide +kernel
theorem dX4_top_34 : decode cX4_top 34 = .ok (.ireturn, 1) := by decide +kernel
theorem dX4_put_0 : decode cX4_put 0 = .ok (.aload_n 0, 1) := by decide +kernel
theorem dX4_put_1 : decode cX4_put 1 = .ok (.getfield 15, 3) := by decide +kernel
theorem dX4_put_4 : decode cX4_put 4 = .ok (.ifCond .lt 35, 3) := by decide +kernel
theorem dX4_put_7 : decode cX4_put 7 = .ok (.aload_n 0, 1) := by decide +kernel
theorem dX4_put_8 : decode cX4_put 8 = .ok (.getfield 15, 3) := by decide +kernel
theorem dX4_put_11 : decode cX4_put 11 = .ok (.aload_n 0, 1) := by decide +kernel
theorem dX4_put_12 : decode cX4_put 12 = .ok (.getfield 9, 3) := by decide +kernel
theorem dX4_put_15 : decode cX4_put 15 = .ok (.arraylength, 1) := by decide +kernel
theorem dX4_put_16 : decode cX4_put 16 = .ok (.if_icmp .ge 23, 3) := by decide +kernel
theorem dX4_put_19 : decode cX4_put 19 = .ok (.aload_n 0, 1) := by decide +kernel
theorem dX4_put_20 : decode cX4_put 20 = .ok (.getfield 9, 3) := by decide +kernel
theorem dX4_put_23 : decode cX4_put 23 = .ok (.aload_n 0, 1) := by decide +kernel
theorem dX4_put_24 : decode cX4_put 24 = .ok (.getfield 15, 3) := by decide +kernel
theorem dX4_put_27 : decode cX4_put 27 = .ok (.iload_n 1, 1) := by decide +kernel
theorem dX4_put_28 : decode cX4_put 28 = .ok (.iastore, 1) := by decide +kernel
theorem dX4_put_29 : decode cX4_put 29 = .ok (.aload_n 0, 1) := by decide +kernel
theorem dX4_put_30 : decode cX4_put 30 = .ok (.dup, 1) := by decide +kernel
theorem dX4_put_31 : decode cX4_put 31 = .ok (.getfield 15, 3) := by decide +kernel
theorem dX4_put_34 : decode cX4_put 34 = .ok (.iconst 1, 1) := by decide +kernel
theorem dX4_put_35 : decode cX4_put 35 = .ok (.iadd, 1) := by decide +kernel
theorem dX4_put_36 : decode cX4_put 36 = .ok (.putfield 15, 3) := by decide +kernel
theorem dX4_put_39 : decode cX4_put 39 = .ok (.return_, 1) := by decide +kernel
theorem dX4_pull_0 : decode cX4_pull 0 = .ok (.aload_n 0, 1) := by decide +kernel
theorem dX4_pull_1 : decode cX4_pull 1 = .ok (.invokevirtual 19, 3) := by decide +kernel
theorem dX4_pull_4 : decode cX4_pull 4 = .ok (.istore_n 1, 1) := by decide +kernel
theorem dX4_pull_5 : decode cX4_pull 5 = .ok (.iload_n 1, 1) := by decide +kernel
theorem dX4_pull_6 : decode cX4_pull 6 = .ok (.iconst (-1), 1) := by decide +kernel
theorem dX4_pull_7 : decode cX4_pull 7 = .ok (.if_icmp .eq 13, 3) := by decide +kernel
theorem dX4_pull_10 : decode cX4_pull 10 = .ok (.aload_n 0, 1) := by decide +kernel
theorem dX4_pull_11 : decode cX4_pull 11 = .ok (.dup, 1) := by decide +kernel
theorem dX4_pull_12 : decode cX4_pull 12 = .ok (.getfield 15, 3) := by decide +kernel
theorem dX4_pull_15 : decode cX4_pull 15 = .ok (.iconst 1, 1) := by decide +kernel
theorem dX4_pull_16 : decode cX4_pull 16 = .ok (.isub, 1) := by decide +kernel
theorem dX4_pull_17 : decode cX4_pull 17 = .ok (.putfield 15, 3) := by decide +kernel
theorem dX4_pull_20 : decode cX4_pull 20 = .ok (.iload_n 1, 1) := by decide +kernel
theorem dX4_pull_21 : decode cX4_pull 21 = .ok (.ireturn, 1) := by decide +kernel
theorem dX4_moveMagazine_0 : decode cX4_moveMagazine 0 = .ok (.iconst 0, 1) := by decide +kernel
theorem dX4_moveMagazine_1 : decode cX4_moveMagazine 1 = .ok (.istore_n 2, 1) := by decide +kernel
theorem dX4_moveMagazine_2 : decode cX4_moveMagazine 2 = .ok (.iload_n 2, 1) := by decide +kernel
theorem dX4_moveMagazine_3 : decode cX4_moveMagazine 3 = .ok (.iconst 3, 1) := by decide +kernel
theorem dX4_moveMagazine_4 : decode cX4_moveMagazine 4 = .ok (.if_icmp .ge 24, 3) := by decide +kernel
theorem dX4_moveMagazine_7 : decode cX4_moveMagazine 7 = .ok (.aload_n 0, 1) := by decide +kernel
theorem dX4_moveMagazine_8 : decode cX4_moveMagazine 8 = .ok (.getfield 15, 3) := by decide +kernel
theorem dX4_moveMagazine_11 : decode cX4_moveMagazine 11 = .ok (.ifCond .le 17, 3) := by decide +kernel
theorem dX4_moveMagazine_14 : decode cX4_moveMagazine 14 = .ok (.aload_n 1, 1) := by decide +kernel
theorem dX4_moveMagazine_15 : decode cX4_moveMagazine 15 = .ok (.aload_n 0, 1) := by decide +kernel
theorem dX4_moveMagazine_16 : decode cX4_moveMagazine 16 = .ok (.invokevirtual 23, 3) := by decide +kernel
theorem dX4_moveMagazine_19 : decode cX4_moveMagazine 19 = .ok (.invokevirtual 26, 3) := by decide +kernel
theorem dX4_moveMagazine_22 : decode cX4_moveMagazine 22 = .ok (.iinc 2 1, 3) := by decide +kernel
theorem dX4_moveMagazine_25 : decode cX4_moveMagazine 25 = .ok (.goto (-23), 3) := by decide +kernel
theorem dX4_moveMagazine_28 : decode cX4_moveMagazine 28 = .ok (.return_, 1) := by decide +kernel
theorem dX5_init_0 : decode cX5_init 0 = .ok (.aload_n 0, 1) := by decide +kernel
theorem dX5_init_1 : decode cX5_init 1 = .ok (.invokespecial 3, 3) := by decide +kernel
theorem dX5_init_4 : decode cX5_init 4 = .ok (.aload_n 0, 1) := by decide +kernel
theorem dX5_init_5 : decode cX5_init 5 = .ok (.iload_n 1, 1) := by decide +kernel
theorem dX5_init_6 : decode cX5_init 6 = .ok (.putfield 9, 3) := by decide +kernel
theorem dX5_init_9 : decode cX5_init 9 = .ok (.aload_n 0, 1) := by decide +kernel
theorem dX5_init_10 : decode cX5_init 10 = .ok (.iload_n 2, 1) := by decide +kernel
theorem dX5_init_11 : decode cX5_init 11 = .ok (.putfield 15, 3) := by decide +kernel
theorem dX5_init_14 : decode cX5_init 14 = .ok (.aload_n 0, 1) := by decide +kernel
theorem dX5_init_15 : decode cX5_init 15 = .ok (.iload_n 3, 1) := by decide +kernel
theorem dX5_init_16 : decode cX5_init 16 = .ok (.putfield 18, 3) := by decide +kernel
theorem dX5_init_19 : decode cX5_init 19 = .ok (.aload_n 0, 1) := by decide +kernel
theorem dX5_init_20 : decode cX5_init 20 = .ok (.iload 4, 2) := by decide +kernel
theorem dX5_init_22 : decode cX5_init 22 = .ok (.putfield 21, 3) := by decide +kernel
theorem dX5_init_25 : decode cX5_init 25 = .ok (.return_, 1) := by decide +kernel
theorem dX5_isFreeFor_0 : decode cX5_isFreeFor 0 = .ok (.aload_n 0, 1) := by decide +kernel
theorem dX5_isFreeFor_1 : decode cX5_isFreeFor 1 = .ok (.getfield 24, 3) := by decide +kernel
theorem dX5_isFreeFor_4 : decode cX5_isFreeFor 4 = .ok (.ifCond .ne 17, 3) := by decide +kernel
theorem dX5_isFreeFor_7 : decode cX5_isFreeFor 7 = .ok (.aload_n 0, 1) := by decide +kernel
theorem dX5_isFreeFor_8 : decode cX5_isFreeFor 8 = .ok (.getfield 15, 3) := by decide +kernel
theorem dX5_isFreeFor_11 : decode cX5_isFreeFor 11 = .ok (.i2l, 1) := by decide +kernel
theorem dX5_isFreeFor_12 : decode cX5_isFreeFor 12 = .ok (.lload_n 1, 1) := by decide +kernel
theorem dX5_isFreeFor_13 : decode cX5_isFreeFor 13 = .ok (.lcmp, 1) := by decide +kernel
theorem dX5_isFreeFor_14 : decode cX5_isFreeFor 14 = .ok (.ifCond .lt 7, 3) := by decide +kernel
theorem dX5_isFreeFor_17 : decode cX5_isFreeFor 17 = .ok (.iconst 1, 1) := by decide +kernel
theorem dX5_isFreeFor_18 : decode cX5_isFreeFor 18 = .ok (.goto 4, 3) := by decide +kernel
theorem dX5_isFreeFor_21 : decode cX5_isFreeFor 21 = .ok (.iconst 0, 1) := by decide +kernel
theorem dX5_isFreeFor_22 : decode cX5_isFreeFor 22 = .ok (.ireturn, 1) := by decide +kernel
theorem dX5_isFreeIn_0 : decode cX5_isFreeIn 0 = .ok (.aload_n 0, 1) := by decide +kernel
theorem dX5_isFreeIn_1 : decode cX5_isFreeIn 1 = .ok (.getfield 24, 3) := by decide +kernel
theorem dX5_isFreeIn_4 : decode cX5_isFreeIn 4 = .ok (.ifCond .ne 15, 3) := by decide +kernel
theorem dX5_isFreeIn_7 : decode cX5_isFreeIn 7 = .ok (.aload_n 0, 1) := by decide +kernel
theorem dX5_isFreeIn_8 : decode cX5_isFreeIn 8 = .ok (.getfield 18, 3) := by decide +kernel
theorem dX5_isFreeIn_11 : decode cX5_isFreeIn 11 = .ok (.iload_n 1, 1) := by decide +kernel
theorem dX5_isFreeIn_12 : decode cX5_isFreeIn 12 = .ok (.if_icmp .ne 7, 3) := by decide +kernel
theorem dX5_isFreeIn_15 : decode cX5_isFreeIn 15 = .ok (.iconst 1, 1) := by decide +kernel
theorem dX5_isFreeIn_16 : decode cX5_isFreeIn 16 = .ok (.goto 4, 3) := by decide +kernel
theorem dX5_isFreeIn_19 : decode cX5_isFreeIn 19 = .ok (.iconst 0, 1) := by decide +kernel
theorem dX5_isFreeIn_20 : decode cX5_isFreeIn 20 = .ok (.ireturn, 1) := by decide +kernel
theorem dX5_isSlabOf_0 : decode cX5_isSlabOf 0 = .ok (.aload_n 0, 1) := by decide +kernel
theorem dX5_isSlabOf_1 : decode cX5_isSlabOf 1 = .ok (.getfield 24, 3) := by decide +kernel
theorem dX5_isSlabOf_4 : decode cX5_isSlabOf 4 = .ok (.iconst 2, 1) := by decide +kernel
theorem dX5_isSlabOf_5 : decode cX5_isSlabOf 5 = .ok (.if_icmp .ne 18, 3) := by decide +kernel
theorem dX5_isSlabOf_8 : decode cX5_isSlabOf 8 = .ok (.aload_n 0, 1) := by decide +kernel
theorem dX5_isSlabOf_9 : decode cX5_isSlabOf 9 = .ok (.getfield 27, 3) := by decide +kernel
theorem dX5_isSlabOf_12 : decode cX5_isSlabOf 12 = .ok (.aload_n 1, 1) := by decide +kernel
theorem dX5_isSlabOf_13 : decode cX5_isSlabOf 13 = .ok (.getfield 30, 3) := by decide +kernel
theorem dX5_isSlabOf_16 : decode cX5_isSlabOf 16 = .ok (.if_icmp .ne 7, 3) := by decide +kernel
theorem dX5_isSlabOf_19 : decode cX5_isSlabOf 19 = .ok (.iconst 1, 1) := by decide +kernel
theorem dX5_isSlabOf_20 : decode cX5_isSlabOf 20 = .ok (.goto 4, 3) := by decide +kernel
theorem dX5_isSlabOf_23 : decode cX5_isSlabOf 23 = .ok (.iconst 0, 1) := by decide +kernel
theorem dX5_isSlabOf_24 : decode cX5_isSlabOf 24 = .ok (.ireturn, 1) := by decide +kernel
theorem dX5_fill_0 : decode cX5_fill 0 = .ok (.aload_n 0, 1) := by decide +kernel
theorem dX5_fill_1 : decode cX5_fill 1 = .ok (.iload_n 1, 1) := by decide +kernel
theorem dX5_fill_2 : decode cX5_fill 2 = .ok (.putfield 27, 3) := by decide +kernel
theorem dX5_fill_5 : decode cX5_fill 5 = .ok (.aload_n 0, 1) := by decide +kernel
theorem dX5_fill_6 : decode cX5_fill 6 = .ok (.iload_n 1, 1) := by decide +kernel
theorem dX5_fill_7 : decode cX5_fill 7 = .ok (.ifCond .le 17, 3) := by decide +kernel
theorem dX5_fill_10 : decode cX5_fill 10 = .ok (.aload_n 0, 1) := by decide +kernel
theorem dX5_fill_11 : decode cX5_fill 11 = .ok (.getfield 15, 3) := by decide +kernel
theorem dX5_fill_14 : decode cX5_fill 14 = .ok (.iload_n 1, 1) := by decide +kernel
theorem dX5_fill_15 : decode cX5_fill 15 = .ok (.idiv, 1) := by decide +kernel
theorem dX5_fill_16 : decode cX5_fill 16 = .ok (.bipush 32, 2) := by decide +kernel
theorem dX5_fill_18 : decode cX5_fill 18 = .ok (.invokestatic 33, 3) := by decide +kernel
theorem dX5_fill_21 : decode cX5_fill 21 = .ok (.goto 4, 3) := by decide +kernel
theorem dX5_fill_24 : decode cX5_fill 24 = .ok (.iconst 0, 1) := by decide +kernel
theorem dX5_fill_25 : decode cX5_fill 25 = .ok (.putfield 39, 3) := by decide +kernel
theorem dX5_fill_28 : decode cX5_fill 28 = .ok (.aload_n 0, 1) := by decide +kernel
theorem dX5_fill_29 : decode cX5_fill 29 = .ok (.aload_n 0, 1) := by decide +kernel
theorem dX5_fill_30 : decode cX5_fill 30 = .ok (.getfield 39, 3) := by decide +kernel
theorem dX5_fill_33 : decode cX5_fill 33 = .ok (.ifCond .le 15, 3) := by decide +kernel
theorem dX5_fill_36 : decode cX5_fill 36 = .ok (.iconst (-1), 1) := by decide +kernel
theorem dX5_fill_37 : decode cX5_fill 37 = .ok (.bipush 32, 2) := by decide +kernel
theorem dX5_fill_39 : decode cX5_fill 39 = .ok (.aload_n 0, 1) := by decide +kernel
theorem dX5_fill_40 : decode cX5_fill 40 = .ok (.getfield 39, 3) := by decide +kernel
theorem dX5_fill_43 : decode cX5_fill 43 = .ok (.isub, 1) := by decide +kernel
theorem dX5_fill_44 : decode cX5_fill 44 = .ok (.iushr, 1) := by decide +kernel
theorem dX5_fill_45 : decode cX5_fill 45 = .ok (.goto 4, 3) := by decide +kernel
theorem dX5_fill_48 : decode cX5_fill 48 = .ok (.iconst 0, 1) := by decide +kernel
theorem dX5_fill_49 : decode cX5_fill 49 = .ok (.putfield 42, 3) := by decide +kernel
theorem dX5_fill_52 : decode cX5_fill 52 = .ok (.aload_n 0, 1) := by decide +kernel
theorem dX5_fill_53 : decode cX5_fill 53 = .ok (.iconst 0, 1) := by decide +kernel
theorem dX5_fill_54 : decode cX5_fill 54 = .ok (.putfield 45, 3) := by decide +kernel
theorem dX5_fill_57 : decode cX5_fill 57 = .ok (.return_, 1) := by decide +kernel
theorem dX5_objectAt_0 : decode cX5_objectAt 0 = .ok (.aload_n 0, 1) := by decide +kernel
theorem dX5_objectAt_1 : decode cX5_objectAt 1 = .ok (.getfield 27, 3) := by decide +kernel
theorem dX5_objectAt_4 : decode cX5_objectAt 4 = .ok (.ifCond .le 11, 3) := by decide +kernel
theorem dX5_objectAt_7 : decode cX5_objectAt 7 = .ok (.iload_n 1, 1) := by decide +kernel
theorem dX5_objectAt_8 : decode cX5_objectAt 8 = .ok (.aload_n 0, 1) := by decide +kernel
theorem dX5_objectAt_9 : decode cX5_objectAt 9 = .ok (.getfield 9, 3) := by decide +kernel
theorem dX5_objectAt_12 : decode cX5_objectAt 12 = .ok (.if_icmp .ge 5, 3) := by decide +kernel
theorem dX5_objectAt_15 : decode cX5_objectAt 15 = .ok (.iconst (-1), 1) := by decide +kernel
theorem dX5_objectAt_16 : decode cX5_objectAt 16 = .ok (.ireturn, 1) := by decide +kernel
theorem dX5_objectAt_17 : decode cX5_objectAt 17 = .ok (.iload_n 1, 1) := by decide +kernel
theorem dX5_objectAt_18 : decode cX5_objectAt 18 = .ok (.aload_n 0, 1) := by decide +kernel
theorem dX5_objectAt_19 : decode cX5_objectAt 19 = .ok (.getfield 9, 3) := by decide +kernel
theorem dX5_objectAt_22 : decode cX5_objectAt 22 = .ok (.isub, 1) := by decide +kernel
theorem dX5_objectAt_23 : decode cX5_objectAt 23 = .ok (.aload_n 0, 1) := by decide +kernel
theorem dX5_objectAt_24 : decode cX5_objectAt 24 = .ok (.getfield 27, 3) := by decide +kernel
theorem dX5_objectAt_27 : decode cX5_objectAt 27 = .ok (.idiv, 1) := by decide +kernel
theorem dX5_objectAt_28 : decode cX5_objectAt 28 = .ok (.istore_n 2, 1) := by decide +kernel
theorem dX5_objectAt_29 : decode cX5_objectAt 29 = .ok (.iload_n 2, 1) := by decide +kernel
theorem dX5_objectAt_30 : decode cX5_objectAt 30 = .ok (.aload_n 0, 1) := by decide +kernel
theorem dX5_objectAt_31 : decode cX5_objectAt 31 = .ok (.getfield 39, 3) := by decide +kernel
theorem dX5_objectAt_34 : decode cX5_objectAt 34 = .ok (.if_icmp .ge 7, 3) := by decide +kernel
theorem dX5_objectAt_37 : decode cX5_objectAt 37 = .ok (.iload_n 2, 1) := by decide +kernel
theorem dX5_objectAt_38 : decode cX5_objectAt 38 = .ok (.goto 4, 3) := by decide +kernel
theorem dX5_objectAt_41 : decode cX5_objectAt 41 = .ok (.iconst (-1), 1) := by decide +kernel
theorem dX5_objectAt_42 : decode cX5_objectAt 42 = .ok (.ireturn, 1) := by decide +kernel
theorem dX5_baseOf_0 : decode cX5_baseOf 0 = .ok (.aload_n 0, 1) := by decide +kernel
theorem dX5_baseOf_1 : decode cX5_baseOf 1 = .ok (.getfield 9, 3) := by decide +kernel
theorem dX5_baseOf_4 : decode cX5_baseOf 4 = .ok (.iload_n 1, 1) := by decide +kernel
theorem dX5_baseOf_5 : decode cX5_baseOf 5 = .ok (.aload_n 0, 1) := by decide +kernel
theorem dX5_baseOf_6 : decode cX5_baseOf 6 = .ok (.getfield 27, 3) := by decide +kernel
theorem dX5_baseOf_9 : decode cX5_baseOf 9 = .ok (.imul, 1) := by decide +kernel
theorem dX5_baseOf_10 : decode cX5_baseOf 10 = .ok (.iadd, 1) := by decide +kernel
theorem dX5_baseOf_11 : decode cX5_baseOf 11 = .ok (.ireturn, 1) := by decide +kernel
theorem dX5_isHeld_0 : decode cX5_isHeld 0 = .ok (.iload_n 1, 1) := by decide +kernel
theorem dX5_isHeld_1 : decode cX5_isHeld 1 = .ok (.ifCond .lt 19, 3) := by decide +kernel
theorem dX5_isHeld_4 : decode cX5_isHeld 4 = .ok (.aload_n 0, 1) := by decide +kernel
theorem dX5_isHeld_5 : decode cX5_isHeld 5 = .ok (.getfield 45, 3) := by decide +kernel
theorem dX5_isHeld_8 : decode cX5_isHeld 8 = .ok (.iload_n 1, 1) := by decide +kernel
theorem dX5_isHeld_9 : decode cX5_isHeld 9 = .ok (.iushr, 1) := by decide +kernel
theorem dX5_isHeld_10 : decode cX5_isHeld 10 = .ok (.iconst 1, 1) := by decide +kernel
theorem dX5_isHeld_11 : decode cX5_isHeld 11 = .ok (.iand, 1) := by decide +kernel
theorem dX5_isHeld_12 : decode cX5_isHeld 12 = .ok (.iconst 1, 1) := by decide +kernel
theorem dX5_isHeld_13 : decode cX5_isHeld 13 = .ok (.if_icmp .ne 7, 3) := by decide +kernel
theorem dX5_isHeld_16 : decode cX5_isHeld 16 = .ok (.iconst 1, 1) := by decide +kernel
theorem dX5_isHeld_17 : decode cX5_isHeld 17 = .ok (.goto 4, 3) := by decide +kernel
theorem dX5_isHeld_20 : decode cX5_isHeld 20 = .ok (.iconst 0, 1) := by decide +kernel
theorem dX5_isHeld_21 : decode cX5_isHeld 21 = .ok (.ireturn, 1) := by decide +kernel
theorem dX5_hold_0 : decode cX5_hold 0 = .ok (.iload_n 1, 1) := by decide +kernel
theorem dX5_hold_1 : decode cX5_hold 1 = .ok (.ifCond .lt 29, 3) := by decide +kernel
theorem dX5_hold_4 : decode cX5_hold 4 = .ok (.aload_n 0, 1) := by decide +kernel
theorem dX5_hold_5 : decode cX5_hold 5 = .ok (.dup, 1) := by decide +kernel
theorem dX5_hold_6 : decode cX5_hold 6 = .ok (.getfield 42, 3) := by decide +kernel
theorem dX5_hold_9 : decode cX5_hold 9 = .ok (.iconst 1, 1) := by decide +kernel
theorem dX5_hold_10 : decode cX5_hold 10 = .ok (.iload_n 1, 1) := by decide +kernel
theorem dX5_hold_11 : decode cX5_hold 11 = .ok (.ishl, 1) := by decide +kernel
theorem dX5_hold_12 : decode cX5_hold 12 = .ok (.iconst (-1), 1) := by decide +kernel
theorem dX5_hold_13 : decode cX5_hold 13 = .ok (.ixor, 1) := by decide +kernel
theorem dX5_hold_14 : decode cX5_hold 14 = .ok (.iand, 1) := by decide +kernel
theorem dX5_hold_15 : decode cX5_hold 15 = .ok (.putfield 42, 3) := by decide +kernel
theorem dX5_hold_18 : decode cX5_hold 18 = .ok (.aload_n 0, 1) := by decide +kernel
theorem dX5_hold_19 : decode cX5_hold 19 = .ok (.dup, 1) := by decide +kernel
theorem dX5_hold_20 : decode cX5_hold 20 = .ok (.getfield 45, 3) := by decide +kernel
theorem dX5_hold_23 : decode cX5_hold 23 = .ok (.iconst 1, 1) := by decide +kernel
theorem dX5_hold_24 : decode cX5_hold 24 = .ok (.iload_n 1, 1) := by decide +kernel
theorem dX5_hold_25 : decode cX5_hold 25 = .ok (.ishl, 1) := by decide +kernel
theorem dX5_hold_26 : decode cX5_hold 26 = .ok (.ior, 1) := by decide +kernel
theorem dX5_hold_27 : decode cX5_hold 27 = .ok (.putfield 45, 3) := by decide +kernel
theorem dX5_hold_30 : decode cX5_hold 30 = .ok (.return_, 1) := by decide +kernel
theorem dX5_drop_0 : decode cX5_drop 0 = .ok (.iload_n 1, 1) := by decide +kernel
theorem dX5_drop_1 : decode cX5_drop 1 = .ok (.ifCond .lt 17, 3) := by decide +kernel
theorem dX5_drop_4 : decode cX5_drop 4 = .ok (.aload_n 0, 1) := by decide +kernel
theorem dX5_drop_5 : decode cX5_drop 5 = .ok (.dup, 1) := by decide +kernel
theorem dX5_drop_6 : decode cX5_drop 6 = .ok (.getfield 45, 3) := by decide +kernel
theorem dX5_drop_9 : decode cX5_drop 9 = .ok (.iconst 1, 1) := by decide +kernel
theorem dX5_drop_10 : decode cX5_drop 10 = .ok (.iload_n 1, 1) := by decide +kernel
theorem dX5_drop_11 : decode cX5_drop 11 = .ok (.ishl, 1) := by decide +kernel
theorem dX5_drop_12 : decode cX5_drop 12 = .ok (.iconst (-1), 1) := by decide +kernel
theorem dX5_drop_13 : decode cX5_drop 13 = .ok (.ixor, 1) := by decide +kernel
theorem dX5_drop_14 : decode cX5_drop 14 = .ok (.iand, 1) := by decide +kernel
theorem dX5_drop_15 : decode cX5_drop 15 = .ok (.putfield 45, 3) := by decide +kernel
theorem dX5_drop_18 : decode cX5_drop 18 = .ok (.return_, 1) := by decide +kernel
theorem dX5_lay_0 : decode cX5_lay 0 = .ok (.iload_n 1, 1) := by decide +kernel
theorem dX5_lay_1 : decode cX5_lay 1 = .ok (.ifCond .lt 15, 3) := by decide +kernel
theorem dX5_lay_4 : decode cX5_lay 4 = .ok (.aload_n 0, 1) := by decide +kernel
theorem dX5_lay_5 : decode cX5_lay 5 = .ok (.dup, 1) := by decide +kernel
theorem dX5_lay_6 : decode cX5_lay 6 = .ok (.getfield 42, 3) := by decide +kernel
theorem dX5_lay_9 : decode cX5_lay 9 = .ok (.iconst 1, 1) := by decide +kernel
theorem dX5_lay_10 : decode cX5_lay 10 = .ok (.iload_n 1, 1) := by decide +kernel
theorem dX5_lay_11 : decode cX5_lay 11 = .ok (.ishl, 1) := by decide +kernel
theorem dX5_lay_12 : decode cX5_lay 12 = .ok (.ior, 1) := by decide +kernel
theorem dX5_lay_13 : decode cX5_lay 13 = .ok (.putfield 42, 3) := by decide +kernel
theorem dX5_lay_16 : decode cX5_lay 16 = .ok (.return_, 1) := by decide +kernel
theorem dX5_holdLowestLying_0 : decode cX5_holdLowestLying 0 = .ok (.aload_n 0, 1) := by decide +kernel
theorem dX5_holdLowestLying_1 : decode cX5_holdLowestLying 1 = .ok (.getfield 42, 3) := by decide +kernel
theorem dX5_holdLowestLying_4 : decode cX5_holdLowestLying 4 = .ok (.ifCond .ne 5, 3) := by decide +kernel
theorem dX5_holdLowestLying_7 : decode cX5_holdLowestLying 7 = .ok (.iconst (-1), 1) := by decide +kernel
theorem dX5_holdLowestLying_8 : decode cX5_holdLowestLying 8 = .ok (.ireturn, 1) := by decide +kernel
theorem dX5_holdLowestLying_9 : decode cX5_holdLowestLying 9 = .ok (.aload_n 0, 1) := by decide +kernel
theorem dX5_holdLowestLying_10 : decode cX5_holdLowestLying 10 = .ok (.getfield 42, 3) := by decide +kernel
theorem dX5_holdLowestLying_13 : decode cX5_holdLowestLying 13 = .ok (.invokestatic 48, 3) := by decide +kernel
theorem dX5_holdLowestLying_16 : decode cX5_holdLowestLying 16 = .ok (.istore_n 1, 1) := by decide +kernel
theorem dX5_holdLowestLying_17 : decode cX5_holdLowestLying 17 = .ok (.aload_n 0, 1) := by decide +kernel
theorem dX5_holdLowestLying_18 : decode cX5_holdLowestLying 18 = .ok (.iload_n 1, 1) := by decide +kernel
theorem dX5_holdLowestLying_19 : decode cX5_holdLowestLying 19 = .ok (.invokevirtual 54, 3) := by decide +kernel
theorem dX5_holdLowestLying_22 : decode cX5_holdLowestLying 22 = .ok (.aload_n 0, 1) := by decide +kernel
theorem dX5_holdLowestLying_23 : decode cX5_holdLowestLying 23 = .ok (.iload_n 1, 1) := by decide +kernel
theorem dX5_holdLowestLying_24 : decode cX5_holdLowestLying 24 = .ok (.invokevirtual 58, 3) := by decide +kernel
theorem dX5_holdLowestLying_27 : decode cX5_holdLowestLying 27 = .ok (.ireturn, 1) := by decide +kernel
theorem dX6_init_0 : decode cX6_init 0 = .ok (.aload_n 0, 1) := by decide +kernel
theorem dX6_init_1 : decode cX6_init 1 = .ok (.invokespecial 3, 3) := by decide +kernel
theorem dX6_init_4 : decode cX6_init 4 = .ok (.aload_n 0, 1) := by decide +kernel
theorem dX6_init_5 : decode cX6_init 5 = .ok (.bipush 8, 2) := by decide +kernel
theorem dX6_init_7 : decode cX6_init 7 = .ok (.anewarray 9, 3) := by decide +kernel
theorem dX6_init_10 : decode cX6_init 10 = .ok (.putfield 11, 3) := by decide +kernel
theorem dX6_init_13 : decode cX6_init 13 = .ok (.aload_n 0, 1) := by decide +kernel
theorem dX6_init_14 : decode cX6_init 14 = .ok (.iconst 0, 1) := by decide +kernel
theorem dX6_init_15 : decode cX6_init 15 = .ok (.putfield 15, 3) := by decide +kernel
theorem dX6_init_18 : decode cX6_init 18 = .ok (.return_, 1) := by decide +kernel
theorem dX6_make_0 : decode cX6_make 0 = .ok (.iload_n 1, 1) := by decide +kernel
theorem dX6_make_1 : decode cX6_make 1 = .ok (.invokestatic 19, 3) := by decide +kernel
theorem dX6_make_4 : decode cX6_make 4 = .ok (.ifCond .eq 19, 3) := by decide +kernel
theorem dX6_make_7 : decode cX6_make 7 = .ok (.iload_n 1, 1) := by decide +kernel
theorem dX6_make_8 : decode cX6_make 8 = .ok (.ldc 23, 2) := by decide +kernel
theorem dX6_make_10 : decode cX6_make 10 = .ok (.if_icmp .gt 13, 3) := by decide +kernel
