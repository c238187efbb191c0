theorem dX0_init_0 : decode (mc mX0_init) 0 = .ok (.aload_n 0, 1) := by decide +kernel
theorem dX0_init_1 : decode (mc mX0_init) 1 = .ok (.invokespecial 3, 3) := by decide +kernel
theorem dX0_init_4 : decode (mc mX0_init) 4 = .ok (.aload_n 0, 1) := by decide +kernel
theorem dX0_init_5 : decode (mc mX0_init) 5 = .ok (.iconst 4, 1) := by decide +kernel
theorem dX0_init_6 : decode (mc mX0_init) 6 = .ok (.sipush 654, 3) := by decide +kernel
theorem dX0_init_9 : decode (mc mX0_init) 9 = .ok (.multianewarray 11 2, 4) := by decide +kernel
theorem dX0_init_13 : decode (mc mX0_init) 13 = .ok (.putfield 13, 3) := by decide +kernel
theorem dX0_init_16 : decode (mc mX0_init) 16 = .ok (.return_, 1) := by decide +kernel
theorem dX0_keep_0 : decode (mc mX0_keep) 0 = .ok (.aload_n 1, 1) := by decide +kernel
theorem dX0_keep_1 : decode (mc mX0_keep) 1 = .ok (.aload_n 0, 1) := by decide +kernel
theorem dX0_keep_2 : decode (mc mX0_keep) 2 = .ok (.getfield 13, 3) := by decide +kernel
theorem dX0_keep_5 : decode (mc mX0_keep) 5 = .ok (.aload_n 0, 1) := by decide +kernel
theorem dX0_keep_6 : decode (mc mX0_keep) 6 = .ok (.getfield 18, 3) := by decide +kernel
theorem dX0_keep_9 : decode (mc mX0_keep) 9 = .ok (.aaload, 1) := by decide +kernel
theorem dX0_keep_10 : decode (mc mX0_keep) 10 = .ok (.invokevirtual 22, 3) := by decide +kernel
theorem dX0_keep_13 : decode (mc mX0_keep) 13 = .ok (.aload_n 0, 1) := by decide +kernel
theorem dX0_keep_14 : decode (mc mX0_keep) 14 = .ok (.aload_n 0, 1) := by decide +kernel
theorem dX0_keep_15 : decode (mc mX0_keep) 15 = .ok (.getfield 18, 3) := by decide +kernel
theorem dX0_keep_18 : decode (mc mX0_keep) 18 = .ok (.iconst 1, 1) := by decide +kernel
theorem dX0_keep_19 : decode (mc mX0_keep) 19 = .ok (.iadd, 1) := by decide +kernel
theorem dX0_keep_20 : decode (mc mX0_keep) 20 = .ok (.iconst 4, 1) := by decide +kernel
theorem dX0_keep_21 : decode (mc mX0_keep) 21 = .ok (.irem, 1) := by decide +kernel
theorem dX0_keep_22 : decode (mc mX0_keep) 22 = .ok (.putfield 18, 3) := by decide +kernel
theorem dX0_keep_25 : decode (mc mX0_keep) 25 = .ok (.aload_n 0, 1) := by decide +kernel
theorem dX0_keep_26 : decode (mc mX0_keep) 26 = .ok (.aload_n 0, 1) := by decide +kernel
theorem dX0_keep_27 : decode (mc mX0_keep) 27 = .ok (.getfield 26, 3) := by decide +kernel
theorem dX0_keep_30 : decode (mc mX0_keep) 30 = .ok (.iconst 1, 1) := by decide +kernel
theorem dX0_keep_31 : decode (mc mX0_keep) 31 = .ok (.iadd, 1) := by decide +kernel
theorem dX0_keep_32 : decode (mc mX0_keep) 32 = .ok (.iconst 4, 1) := by decide +kernel
theorem dX0_keep_33 : decode (mc mX0_keep) 33 = .ok (.invokestatic 29, 3) := by decide +kernel
theorem dX0_keep_36 : decode (mc mX0_keep) 36 = .ok (.putfield 26, 3) := by decide +kernel
theorem dX0_keep_39 : decode (mc mX0_keep) 39 = .ok (.return_, 1) := by decide +kernel
theorem dX0_restoreInto_0 : decode (mc mX0_restoreInto) 0 = .ok (.aload_n 0, 1) := by decide +kernel
theorem dX0_restoreInto_1 : decode (mc mX0_restoreInto) 1 = .ok (.getfield 26, 3) := by decide +kernel
theorem dX0_restoreInto_4 : decode (mc mX0_restoreInto) 4 = .ok (.ifCond .le 40, 3) := by decide +kernel
theorem dX0_restoreInto_7 : decode (mc mX0_restoreInto) 7 = .ok (.aload_n 0, 1) := by decide +kernel
theorem dX0_restoreInto_8 : decode (mc mX0_restoreInto) 8 = .ok (.aload_n 0, 1) := by decide +kernel
theorem dX0_restoreInto_9 : decode (mc mX0_restoreInto) 9 = .ok (.getfield 18, 3) := by decide +kernel
theorem dX0_restoreInto_12 : decode (mc mX0_restoreInto) 12 = .ok (.iconst 4, 1) := by decide +kernel
theorem dX0_restoreInto_13 : decode (mc mX0_restoreInto) 13 = .ok (.iadd, 1) := by decide +kernel
theorem dX0_restoreInto_14 : decode (mc mX0_restoreInto) 14 = .ok (.iconst 1, 1) := by decide +kernel
theorem dX0_restoreInto_15 : decode (mc mX0_restoreInto) 15 = .ok (.isub, 1) := by decide +kernel
theorem dX0_restoreInto_16 : decode (mc mX0_restoreInto) 16 = .ok (.iconst 4, 1) := by decide +kernel
theorem dX0_restoreInto_17 : decode (mc mX0_restoreInto) 17 = .ok (.irem, 1) := by decide +kernel
theorem dX0_restoreInto_18 : decode (mc mX0_restoreInto) 18 = .ok (.putfield 18, 3) := by decide +kernel
theorem dX0_restoreInto_21 : decode (mc mX0_restoreInto) 21 = .ok (.aload_n 0, 1) := by decide +kernel
theorem dX0_restoreInto_22 : decode (mc mX0_restoreInto) 22 = .ok (.dup, 1) := by decide +kernel
theorem dX0_restoreInto_23 : decode (mc mX0_restoreInto) 23 = .ok (.getfield 26, 3) := by decide +kernel
theorem dX0_restoreInto_26 : decode (mc mX0_restoreInto) 26 = .ok (.iconst 1, 1) := by decide +kernel
theorem dX0_restoreInto_27 : decode (mc mX0_restoreInto) 27 = .ok (.isub, 1) := by decide +kernel
theorem dX0_restoreInto_28 : decode (mc mX0_restoreInto) 28 = .ok (.putfield 26, 3) := by decide +kernel
theorem dX0_restoreInto_31 : decode (mc mX0_restoreInto) 31 = .ok (.aload_n 1, 1) := by decide +kernel
theorem dX0_restoreInto_32 : decode (mc mX0_restoreInto) 32 = .ok (.aload_n 0, 1) := by decide +kernel
theorem dX0_restoreInto_33 : decode (mc mX0_restoreInto) 33 = .ok (.getfield 13, 3) := by decide +kernel
theorem dX0_restoreInto_36 : decode (mc mX0_restoreInto) 36 = .ok (.aload_n 0, 1) := by decide +kernel
theorem dX0_restoreInto_37 : decode (mc mX0_restoreInto) 37 = .ok (.getfield 18, 3) := by decide +kernel
theorem dX0_restoreInto_40 : decode (mc mX0_restoreInto) 40 = .ok (.aaload, 1) := by decide +kernel
theorem dX0_restoreInto_41 : decode (mc mX0_restoreInto) 41 = .ok (.invokevirtual 35, 3) := by decide +kernel
theorem dX0_restoreInto_44 : decode (mc mX0_restoreInto) 44 = .ok (.aload_n 0, 1) := by decide +kernel
theorem dX0_restoreInto_45 : decode (mc mX0_restoreInto) 45 = .ok (.getfield 26, 3) := by decide +kernel
theorem dX0_restoreInto_48 : decode (mc mX0_restoreInto) 48 = .ok (.ireturn, 1) := by decide +kernel
theorem dX1_init_0 : decode (mc mX1_init) 0 = .ok (.aload_n 0, 1) := by decide +kernel
theorem dX1_init_1 : decode (mc mX1_init) 1 = .ok (.invokespecial 3, 3) := by decide +kernel
theorem dX1_init_4 : decode (mc mX1_init) 4 = .ok (.aload_n 0, 1) := by decide +kernel
theorem dX1_init_5 : decode (mc mX1_init) 5 = .ok (.bipush 10, 2) := by decide +kernel
theorem dX1_init_7 : decode (mc mX1_init) 7 = .ok (.newarray .int, 2) := by decide +kernel
theorem dX1_init_9 : decode (mc mX1_init) 9 = .ok (.putfield 9, 3) := by decide +kernel
theorem dX1_init_12 : decode (mc mX1_init) 12 = .ok (.return_, 1) := by decide +kernel
theorem dX1_clear_0 : decode (mc mX1_clear) 0 = .ok (.aload_n 0, 1) := by decide +kernel
theorem dX1_clear_1 : decode (mc mX1_clear) 1 = .ok (.iconst 0, 1) := by decide +kernel
theorem dX1_clear_2 : decode (mc mX1_clear) 2 = .ok (.putfield 15, 3) := by decide +kernel
theorem dX1_clear_5 : decode (mc mX1_clear) 5 = .ok (.return_, 1) := by decide +kernel
theorem dX1_append_0 : decode (mc mX1_append) 0 = .ok (.aload_n 0, 1) := by decide +kernel
theorem dX1_append_1 : decode (mc mX1_append) 1 = .ok (.getfield 15, 3) := by decide +kernel
theorem dX1_append_4 : decode (mc mX1_append) 4 = .ok (.bipush 10, 2) := by decide +kernel
theorem dX1_append_6 : decode (mc mX1_append) 6 = .ok (.if_icmp .ge 23, 3) := by decide +kernel
theorem dX1_append_9 : decode (mc mX1_append) 9 = .ok (.aload_n 0, 1) := by decide +kernel
theorem dX1_append_10 : decode (mc mX1_append) 10 = .ok (.getfield 9, 3) := by decide +kernel
theorem dX1_append_13 : decode (mc mX1_append) 13 = .ok (.aload_n 0, 1) := by decide +kernel
theorem dX1_append_14 : decode (mc mX1_append) 14 = .ok (.getfield 15, 3) := by decide +kernel
theorem dX1_append_17 : decode (mc mX1_append) 17 = .ok (.iload_n 1, 1) := by decide +kernel
theorem dX1_append_18 : decode (mc mX1_append) 18 = .ok (.iastore, 1) := by decide +kernel
theorem dX1_append_19 : decode (mc mX1_append) 19 = .ok (.aload_n 0, 1) := by decide +kernel
theorem dX1_append_20 : decode (mc mX1_append) 20 = .ok (.dup, 1) := by decide +kernel
theorem dX1_append_21 : decode (mc mX1_append) 21 = .ok (.getfield 15, 3) := by decide +kernel
theorem dX1_append_24 : decode (mc mX1_append) 24 = .ok (.iconst 1, 1) := by decide +kernel
theorem dX1_append_25 : decode (mc mX1_append) 25 = .ok (.iadd, 1) := by decide +kernel
theorem dX1_append_26 : decode (mc mX1_append) 26 = .ok (.putfield 15, 3) := by decide +kernel
theorem dX1_append_29 : decode (mc mX1_append) 29 = .ok (.return_, 1) := by decide +kernel
theorem dX1_wordAt_0 : decode (mc mX1_wordAt) 0 = .ok (.iload_n 1, 1) := by decide +kernel
theorem dX1_wordAt_1 : decode (mc mX1_wordAt) 1 = .ok (.ifCond .lt 20, 3) := by decide +kernel
theorem dX1_wordAt_4 : decode (mc mX1_wordAt) 4 = .ok (.iload_n 1, 1) := by decide +kernel
theorem dX1_wordAt_5 : decode (mc mX1_wordAt) 5 = .ok (.aload_n 0, 1) := by decide +kernel
theorem dX1_wordAt_6 : decode (mc mX1_wordAt) 6 = .ok (.getfield 15, 3) := by decide +kernel
theorem dX1_wordAt_9 : decode (mc mX1_wordAt) 9 = .ok (.if_icmp .ge 12, 3) := by decide +kernel
theorem dX1_wordAt_12 : decode (mc mX1_wordAt) 12 = .ok (.aload_n 0, 1) := by decide +kernel
theorem dX1_wordAt_13 : decode (mc mX1_wordAt) 13 = .ok (.getfield 9, 3) := by decide +kernel
theorem dX1_wordAt_16 : decode (mc mX1_wordAt) 16 = .ok (.iload_n 1, 1) := by decide +kernel
theorem dX1_wordAt_17 : decode (mc mX1_wordAt) 17 = .ok (.iaload, 1) := by decide +kernel
theorem dX1_wordAt_18 : decode (mc mX1_wordAt) 18 = .ok (.goto 5, 3) := by decide +kernel
theorem dX1_wordAt_21 : decode (mc mX1_wordAt) 21 = .ok (.ldc 19, 2) := by decide +kernel
theorem dX1_wordAt_23 : decode (mc mX1_wordAt) 23 = .ok (.ireturn, 1) := by decide +kernel
theorem dX2_init_0 : decode (mc mX2_init) 0 = .ok (.aload_n 0, 1) := by decide +kernel
theorem dX2_init_1 : decode (mc mX2_init) 1 = .ok (.invokespecial 5, 3) := by decide +kernel
theorem dX2_init_4 : decode (mc mX2_init) 4 = .ok (.aload_n 0, 1) := by decide +kernel
theorem dX2_init_5 : decode (mc mX2_init) 5 = .ok (.sipush 654, 3) := by decide +kernel
theorem dX2_init_8 : decode (mc mX2_init) 8 = .ok (.newarray .int, 2) := by decide +kernel
theorem dX2_init_10 : decode (mc mX2_init) 10 = .ok (.putfield 11, 3) := by decide +kernel
theorem dX2_init_13 : decode (mc mX2_init) 13 = .ok (.aload_n 0, 1) := by decide +kernel
theorem dX2_init_14 : decode (mc mX2_init) 14 = .ok (.bipush 20, 2) := by decide +kernel
theorem dX2_init_16 : decode (mc mX2_init) 16 = .ok (.newarray .boolean, 2) := by decide +kernel
theorem dX2_init_18 : decode (mc mX2_init) 18 = .ok (.putfield 15, 3) := by decide +kernel
theorem dX2_init_21 : decode (mc mX2_init) 21 = .ok (.aload_n 0, 1) := by decide +kernel
theorem dX2_init_22 : decode (mc mX2_init) 22 = .ok (.new 19, 3) := by decide +kernel
theorem dX2_init_25 : decode (mc mX2_init) 25 = .ok (.dup, 1) := by decide +kernel
theorem dX2_init_26 : decode (mc mX2_init) 26 = .ok (.invokespecial 21, 3) := by decide +kernel
theorem dX2_init_29 : decode (mc mX2_init) 29 = .ok (.putfield 22, 3) := by decide +kernel
theorem dX2_init_32 : decode (mc mX2_init) 32 = .ok (.aload_n 0, 1) := by decide +kernel
theorem dX2_init_33 : decode (mc mX2_init) 33 = .ok (.new 19, 3) := by decide +kernel
theorem dX2_init_36 : decode (mc mX2_init) 36 = .ok (.dup, 1) := by decide +kernel
theorem dX2_init_37 : decode (mc mX2_init) 37 = .ok (.invokespecial 21, 3) := by decide +kernel
theorem dX2_init_40 : decode (mc mX2_init) 40 = .ok (.putfield 26, 3) := by decide +kernel
theorem dX2_init_43 : decode (mc mX2_init) 43 = .ok (.aload_n 0, 1) := by decide +kernel
theorem dX2_init_44 : decode (mc mX2_init) 44 = .ok (.new 29, 3) := by decide +kernel
theorem dX2_init_47 : decode (mc mX2_init) 47 = .ok (.dup, 1) := by decide +kernel
theorem dX2_init_48 : decode (mc mX2_init) 48 = .ok (.invokespecial 31, 3) := by decide +kernel
theorem dX2_init_51 : decode (mc mX2_init) 51 = .ok (.putfield 32, 3) := by decide +kernel
theorem dX2_init_54 : decode (mc mX2_init) 54 = .ok (.getstatic 36, 3) := by decide +kernel
theorem dX2_init_57 : decode (mc mX2_init) 57 = .ok (.iconst 0, 1) := by decide +kernel
theorem dX2_init_58 : decode (mc mX2_init) 58 = .ok (.aload_n 0, 1) := by decide +kernel
theorem dX2_init_59 : decode (mc mX2_init) 59 = .ok (.getfield 11, 3) := by decide +kernel
theorem dX2_init_62 : decode (mc mX2_init) 62 = .ok (.iconst 5, 1) := by decide +kernel
theorem dX2_init_63 : decode (mc mX2_init) 63 = .ok (.iconst 5, 1) := by decide +kernel
theorem dX2_init_64 : decode (mc mX2_init) 64 = .ok (.invokestatic 39, 3) := by decide +kernel
theorem dX2_init_67 : decode (mc mX2_init) 67 = .ok (.return_, 1) := by decide +kernel
theorem dX2_copyTo_0 : decode (mc mX2_copyTo) 0 = .ok (.aload_n 0, 1) := by decide +kernel
theorem dX2_copyTo_1 : decode (mc mX2_copyTo) 1 = .ok (.getfield 11, 3) := by decide +kernel
theorem dX2_copyTo_4 : decode (mc mX2_copyTo) 4 = .ok (.iconst 0, 1) := by decide +kernel
theorem dX2_copyTo_5 : decode (mc mX2_copyTo) 5 = .ok (.aload_n 1, 1) := by decide +kernel
theorem dX2_copyTo_6 : decode (mc mX2_copyTo) 6 = .ok (.iconst 0, 1) := by decide +kernel
theorem dX2_copyTo_7 : decode (mc mX2_copyTo) 7 = .ok (.sipush 654, 3) := by decide +kernel
theorem dX2_copyTo_10 : decode (mc mX2_copyTo) 10 = .ok (.invokestatic 39, 3) := by decide +kernel
theorem dX2_copyTo_13 : decode (mc mX2_copyTo) 13 = .ok (.return_, 1) := by decide +kernel
theorem dX2_copyFrom_0 : decode (mc mX2_copyFrom) 0 = .ok (.aload_n 1, 1) := by decide +kernel
theorem dX2_copyFrom_1 : decode (mc mX2_copyFrom) 1 = .ok (.iconst 0, 1) := by decide +kernel
theorem dX2_copyFrom_2 : decode (mc mX2_copyFrom) 2 = .ok (.aload_n 0, 1) := by decide +kernel
theorem dX2_copyFrom_3 : decode (mc mX2_copyFrom) 3 = .ok (.getfield 11, 3) := by decide +kernel
theorem dX2_copyFrom_6 : decode (mc mX2_copyFrom) 6 = .ok (.iconst 0, 1) := by decide +kernel
theorem dX2_copyFrom_7 : decode (mc mX2_copyFrom) 7 = .ok (.sipush 654, 3) := by decide +kernel
theorem dX2_copyFrom_10 : decode (mc mX2_copyFrom) 10 = .ok (.invokestatic 39, 3) := by decide +kernel
theorem dX2_copyFrom_13 : decode (mc mX2_copyFrom) 13 = .ok (.return_, 1) := by decide +kernel
theorem dX2_memberCell_0 : decode (mc mX2_memberCell) 0 = .ok (.bipush 10, 2) := by decide +kernel
theorem dX2_memberCell_2 : decode (mc mX2_memberCell) 2 = .ok (.iload_n 0, 1) := by decide +kernel
theorem dX2_memberCell_3 : decode (mc mX2_memberCell) 3 = .ok (.iconst 2, 1) := by decide +kernel
theorem dX2_memberCell_4 : decode (mc mX2_memberCell) 4 = .ok (.imul, 1) := by decide +kernel
theorem dX2_memberCell_5 : decode (mc mX2_memberCell) 5 = .ok (.iadd, 1) := by decide +kernel
theorem dX2_memberCell_6 : decode (mc mX2_memberCell) 6 = .ok (.iload_n 1, 1) := by decide +kernel
theorem dX2_memberCell_7 : decode (mc mX2_memberCell) 7 = .ok (.iadd, 1) := by decide +kernel
theorem dX2_memberCell_8 : decode (mc mX2_memberCell) 8 = .ok (.ireturn, 1) := by decide +kernel
theorem dX2_phraseCell_0 : decode (mc mX2_phraseCell) 0 = .ok (.bipush 22, 2) := by decide +kernel
theorem dX2_phraseCell_2 : decode (mc mX2_phraseCell) 2 = .ok (.iload_n 0, 1) := by decide +kernel
theorem dX2_phraseCell_3 : decode (mc mX2_phraseCell) 3 = .ok (.bipush 16, 2) := by decide +kernel
theorem dX2_phraseCell_5 : decode (mc mX2_phraseCell) 5 = .ok (.imul, 1) := by decide +kernel
theorem dX2_phraseCell_6 : decode (mc mX2_phraseCell) 6 = .ok (.iadd, 1) := by decide +kernel
theorem dX2_phraseCell_7 : decode (mc mX2_phraseCell) 7 = .ok (.iload_n 1, 1) := by decide +kernel
theorem dX2_phraseCell_8 : decode (mc mX2_phraseCell) 8 = .ok (.iadd, 1) := by decide +kernel
theorem dX2_phraseCell_9 : decode (mc mX2_phraseCell) 9 = .ok (.ireturn, 1) := by decide +kernel
theorem dX2_noteCell_0 : decode (mc mX2_noteCell) 0 = .ok (.sipush 342, 3) := by decide +kernel
theorem dX2_noteCell_3 : decode (mc mX2_noteCell) 3 = .ok (.iload_n 0, 1) := by decide +kernel
theorem dX2_noteCell_4 : decode (mc mX2_noteCell) 4 = .ok (.bipush 13, 2) := by decide +kernel
theorem dX2_noteCell_6 : decode (mc mX2_noteCell) 6 = .ok (.imul, 1) := by decide +kernel
theorem dX2_noteCell_7 : decode (mc mX2_noteCell) 7 = .ok (.iadd, 1) := by decide +kernel
theorem dX2_noteCell_8 : decode (mc mX2_noteCell) 8 = .ok (.iload_n 1, 1) := by decide +kernel
theorem dX2_noteCell_9 : decode (mc mX2_noteCell) 9 = .ok (.iadd, 1) := by decide +kernel
theorem dX2_noteCell_10 : decode (mc mX2_noteCell) 10 = .ok (.ireturn, 1) := by decide +kernel
theorem dX2_at_0 : decode (mc mX2_at) 0 = .ok (.iload_n 1, 1) := by decide +kernel
theorem dX2_at_1 : decode (mc mX2_at) 1 = .ok (.ifCond .lt 19, 3) := by decide +kernel
theorem dX2_at_4 : decode (mc mX2_at) 4 = .ok (.iload_n 1, 1) := by decide +kernel
theorem dX2_at_5 : decode (mc mX2_at) 5 = .ok (.sipush 654, 3) := by decide +kernel
theorem dX2_at_8 : decode (mc mX2_at) 8 = .ok (.if_icmp .ge 12, 3) := by decide +kernel
theorem dX2_at_11 : decode (mc mX2_at) 11 = .ok (.aload_n 0, 1) := by decide +kernel
theorem dX2_at_12 : decode (mc mX2_at) 12 = .ok (.getfield 11, 3) := by decide +kernel
theorem dX2_at_15 : decode (mc mX2_at) 15 = .ok (.iload_n 1, 1) := by decide +kernel
theorem dX2_at_16 : decode (mc mX2_at) 16 = .ok (.iaload, 1) := by decide +kernel
theorem dX2_at_17 : decode (mc mX2_at) 17 = .ok (.goto 4, 3) := by decide +kernel
theorem dX2_at_20 : decode (mc mX2_at) 20 = .ok (.iconst 0, 1) := by decide +kernel
theorem dX2_at_21 : decode (mc mX2_at) 21 = .ok (.ireturn, 1) := by decide +kernel
theorem dX2_put_0 : decode (mc mX2_put) 0 = .ok (.iload_n 1, 1) := by decide +kernel
theorem dX2_put_1 : decode (mc mX2_put) 1 = .ok (.ifCond .lt 17, 3) := by decide +kernel
theorem dX2_put_4 : decode (mc mX2_put) 4 = .ok (.iload_n 1, 1) := by decide +kernel
theorem dX2_put_5 : decode (mc mX2_put) 5 = .ok (.sipush 654, 3) := by decide +kernel
theorem dX2_put_8 : decode (mc mX2_put) 8 = .ok (.if_icmp .ge 10, 3) := by decide +kernel
theorem dX2_put_11 : decode (mc mX2_put) 11 = .ok (.aload_n 0, 1) := by decide +kernel
theorem dX2_put_12 : decode (mc mX2_put) 12 = .ok (.getfield 11, 3) := by decide +kernel
theorem dX2_put_15 : decode (mc mX2_put) 15 = .ok (.iload_n 1, 1) := by decide +kernel
theorem dX2_put_16 : decode (mc mX2_put) 16 = .ok (.iload_n 2, 1) := by decide +kernel
theorem dX2_put_17 : decode (mc mX2_put) 17 = .ok (.iastore, 1) := by decide +kernel
theorem dX2_put_18 : decode (mc mX2_put) 18 = .ok (.return_, 1) := by decide +kernel
theorem dX2_increase_0 : decode (mc mX2_increase) 0 = .ok (.aload_n 0, 1) := by decide +kernel
theorem dX2_increase_1 : decode (mc mX2_increase) 1 = .ok (.iload_n 1, 1) := by decide +kernel
theorem dX2_increase_2 : decode (mc mX2_increase) 2 = .ok (.aload_n 0, 1) := by decide +kernel
theorem dX2_increase_3 : decode (mc mX2_increase) 3 = .ok (.iload_n 1, 1) := by decide +kernel
theorem dX2_increase_4 : decode (mc mX2_increase) 4 = .ok (.invokevirtual 45, 3) := by decide +kernel
theorem dX2_increase_7 : decode (mc mX2_increase) 7 = .ok (.iload_n 2, 1) := by decide +kernel
theorem dX2_increase_8 : decode (mc mX2_increase) 8 = .ok (.iadd, 1) := by decide +kernel
theorem dX2_increase_9 : decode (mc mX2_increase) 9 = .ok (.invokevirtual 49, 3) := by decide +kernel
theorem dX2_increase_12 : decode (mc mX2_increase) 12 = .ok (.return_, 1) := by decide +kernel
theorem dX2_members_0 : decode (mc mX2_members) 0 = .ok (.aload_n 0, 1) := by decide +kernel
theorem dX2_members_1 : decode (mc mX2_members) 1 = .ok (.iconst 0, 1) := by decide +kernel
theorem dX2_members_2 : decode (mc mX2_members) 2 = .ok (.invokevirtual 45, 3) := by decide +kernel
theorem dX2_members_5 : decode (mc mX2_members) 5 = .ok (.ireturn, 1) := by decide +kernel
theorem dX2_phrases_0 : decode (mc mX2_phrases) 0 = .ok (.aload_n 0, 1) := by decide +kernel
theorem dX2_phrases_1 : decode (mc mX2_phrases) 1 = .ok (.iconst 1, 1) := by decide +kernel
theorem dX2_phrases_2 : decode (mc mX2_phrases) 2 = .ok (.invokevirtual 45, 3) := by decide +kernel
theorem dX2_phrases_5 : decode (mc mX2_phrases) 5 = .ok (.ireturn, 1) := by decide +kernel
theorem dX2_notes_0 : decode (mc mX2_notes) 0 = .ok (.aload_n 0, 1) := by decide +kernel
theorem dX2_notes_1 : decode (mc mX2_notes) 1 = .ok (.iconst 2, 1) := by decide +kernel
theorem dX2_notes_2 : decode (mc mX2_notes) 2 = .ok (.invokevirtual 45, 3) := by decide +kernel
theorem dX2_notes_5 : decode (mc mX2_notes) 5 = .ok (.ireturn, 1) := by decide +kernel
theorem dX2_tick_0 : decode (mc mX2_tick) 0 = .ok (.aload_n 0, 1) := by decide +kernel
theorem dX2_tick_1 : decode (mc mX2_tick) 1 = .ok (.iconst 3, 1) := by decide +kernel
theorem dX2_tick_2 : decode (mc mX2_tick) 2 = .ok (.invokevirtual 45, 3) := by decide +kernel
theorem dX2_tick_5 : decode (mc mX2_tick) 5 = .ok (.ireturn, 1) := by decide +kernel
theorem dX2_hasMember_0 : decode (mc mX2_hasMember) 0 = .ok (.iload_n 1, 1) := by decide +kernel
theorem dX2_hasMember_1 : decode (mc mX2_hasMember) 1 = .ok (.ifCond .lt 15, 3) := by decide +kernel
theorem dX2_hasMember_4 : decode (mc mX2_hasMember) 4 = .ok (.iload_n 1, 1) := by decide +kernel
theorem dX2_hasMember_5 : decode (mc mX2_hasMember) 5 = .ok (.aload_n 0, 1) := by decide +kernel
theorem dX2_hasMember_6 : decode (mc mX2_hasMember) 6 = .ok (.invokevirtual 53, 3) := by decide +kernel
theorem dX2_hasMember_9 : decode (mc mX2_hasMember) 9 = .ok (.if_icmp .ge 7, 3) := by decide +kernel
theorem dX2_hasMember_12 : decode (mc mX2_hasMember) 12 = .ok (.iconst 1, 1) := by decide +kernel
theorem dX2_hasMember_13 : decode (mc mX2_hasMember) 13 = .ok (.goto 4, 3) := by decide +kernel
theorem dX2_hasMember_16 : decode (mc mX2_hasMember) 16 = .ok (.iconst 0, 1) := by decide +kernel
theorem dX2_hasMember_17 : decode (mc mX2_hasMember) 17 = .ok (.ireturn, 1) := by decide +kernel
theorem dX2_hasPhrase_0 : decode (mc mX2_hasPhrase) 0 = .ok (.iload_n 1, 1) := by decide +kernel
theorem dX2_hasPhrase_1 : decode (mc mX2_hasPhrase) 1 = .ok (.ifCond .lt 15, 3) := by decide +kernel
theorem dX2_hasPhrase_4 : decode (mc mX2_hasPhrase) 4 = .ok (.iload_n 1, 1) := by decide +kernel
theorem dX2_hasPhrase_5 : decode (mc mX2_hasPhrase) 5 = .ok (.aload_n 0, 1) := by decide +kernel
theorem dX2_hasPhrase_6 : decode (mc mX2_hasPhrase) 6 = .ok (.invokevirtual 57, 3) := by decide +kernel
theorem dX2_hasPhrase_9 : decode (mc mX2_hasPhrase) 9 = .ok (.if_icmp .ge 7, 3) := by decide +kernel
theorem dX2_hasPhrase_12 : decode (mc mX2_hasPhrase) 12 = .ok (.iconst 1, 1) := by decide +kernel
theorem dX2_hasPhrase_13 : decode (mc mX2_hasPhrase) 13 = .ok (.goto 4, 3) := by decide +kernel
theorem dX2_hasPhrase_16 : decode (mc mX2_hasPhrase) 16 = .ok (.iconst 0, 1) := by decide +kernel
theorem dX2_hasPhrase_17 : decode (mc mX2_hasPhrase) 17 = .ok (.ireturn, 1) := by decide +kernel
theorem dX2_hasNote_0 : decode (mc mX2_hasNote) 0 = .ok (.iload_n 1, 1) := by decide +kernel
theorem dX2_hasNote_1 : decode (mc mX2_hasNote) 1 = .ok (.ifCond .lt 15, 3) := by decide +kernel
theorem dX2_hasNote_4 : decode (mc mX2_hasNote) 4 = .ok (.iload_n 1, 1) := by decide +kernel
theorem dX2_hasNote_5 : decode (mc mX2_hasNote) 5 = .ok (.aload_n 0, 1) := by decide +kernel
theorem dX2_hasNote_6 : decode (mc mX2_hasNote) 6 = .ok (.invokevirtual 60, 3) := by decide +kernel
theorem dX2_hasNote_9 : decode (mc mX2_hasNote) 9 = .ok (.if_icmp .ge 7, 3) := by decide +kernel
theorem dX2_hasNote_12 : decode (mc mX2_hasNote) 12 = .ok (.iconst 1, 1) := by decide +kernel
theorem dX2_hasNote_13 : decode (mc mX2_hasNote) 13 = .ok (.goto 4, 3) := by decide +kernel
theorem dX2_hasNote_16 : decode (mc mX2_hasNote) 16 = .ok (.iconst 0, 1) := by decide +kernel
theorem dX2_hasNote_17 : decode (mc mX2_hasNote) 17 = .ok (.ireturn, 1) := by decide +kernel
theorem dX2_settingOf_0 : decode (mc mX2_settingOf) 0 = .ok (.aload_n 0, 1) := by decide +kernel
theorem dX2_settingOf_1 : decode (mc mX2_settingOf) 1 = .ok (.iconst 5, 1) := by decide +kernel
theorem dX2_settingOf_2 : decode (mc mX2_settingOf) 2 = .ok (.iload_n 1, 1) := by decide +kernel
theorem dX2_settingOf_3 : decode (mc mX2_settingOf) 3 = .ok (.iadd, 1) := by decide +kernel
theorem dX2_settingOf_4 : decode (mc mX2_settingOf) 4 = .ok (.invokevirtual 45, 3) := by decide +kernel
theorem dX2_settingOf_7 : decode (mc mX2_settingOf) 7 = .ok (.ireturn, 1) := by decide +kernel
theorem dX2_changeSetting_0 : decode (mc mX2_changeSetting) 0 = .ok (.aload_n 0, 1) := by decide +kernel
theorem dX2_changeSetting_1 : decode (mc mX2_changeSetting) 1 = .ok (.iconst 5, 1) := by decide +kernel
theorem dX2_changeSetting_2 : decode (mc mX2_changeSetting) 2 = .ok (.iload_n 1, 1) := by decide +kernel
theorem dX2_changeSetting_3 : decode (mc mX2_changeSetting) 3 = .ok (.iadd, 1) := by decide +kernel
theorem dX2_changeSetting_4 : decode (mc mX2_changeSetting) 4 = .ok (.iload_n 2, 1) := by decide +kernel
theorem dX2_changeSetting_5 : decode (mc mX2_changeSetting) 5 = .ok (.invokevirtual 49, 3) := by decide +kernel
theorem dX2_changeSetting_8 : decode (mc mX2_changeSetting) 8 = .ok (.return_, 1) := by decide +kernel
theorem dX2_moveTick_0 : decode (mc mX2_moveTick) 0 = .ok (.aload_n 0, 1) := by decide +kernel
theorem dX2_moveTick_1 : decode (mc mX2_moveTick) 1 = .ok (.iconst 3, 1) := by decide +kernel
theorem dX2_moveTick_2 : decode (mc mX2_moveTick) 2 = .ok (.iload_n 1, 1) := by decide +kernel
theorem dX2_moveTick_3 : decode (mc mX2_moveTick) 3 = .ok (.invokevirtual 63, 3) := by decide +kernel
theorem dX2_moveTick_6 : decode (mc mX2_moveTick) 6 = .ok (.aload_n 0, 1) := by decide +kernel
theorem dX2_moveTick_7 : decode (mc mX2_moveTick) 7 = .ok (.iconst 3, 1) := by decide +kernel
theorem dX2_moveTick_8 : decode (mc mX2_moveTick) 8 = .ok (.invokevirtual 45, 3) := by decide +kernel
theorem dX2_moveTick_11 : decode (mc mX2_moveTick) 11 = .ok (.ireturn, 1) := by decide +kernel
theorem dX2_startMember_0 : decode (mc mX2_startMember) 0 = .ok (.aload_n 0, 1) := by decide +kernel
theorem dX2_startMember_1 : decode (mc mX2_startMember) 1 = .ok (.iconst 0, 1) := by decide +kernel
theorem dX2_startMember_2 : decode (mc mX2_startMember) 2 = .ok (.invokevirtual 45, 3) := by decide +kernel
theorem dX2_startMember_5 : decode (mc mX2_startMember) 5 = .ok (.istore_n 1, 1) := by decide +kernel
theorem dX2_startMember_6 : decode (mc mX2_startMember) 6 = .ok (.aload_n 0, 1) := by decide +kernel
theorem dX2_startMember_7 : decode (mc mX2_startMember) 7 = .ok (.iconst 0, 1) := by decide +kernel
theorem dX2_startMember_8 : decode (mc mX2_startMember) 8 = .ok (.iconst 1, 1) := by decide +kernel
theorem dX2_startMember_9 : decode (mc mX2_startMember) 9 = .ok (.invokevirtual 63, 3) := by decide +kernel
theorem dX2_startMember_12 : decode (mc mX2_startMember) 12 = .ok (.aload_n 0, 1) := by decide +kernel
theorem dX2_startMember_13 : decode (mc mX2_startMember) 13 = .ok (.iload_n 1, 1) := by decide +kernel
theorem dX2_startMember_14 : decode (mc mX2_startMember) 14 = .ok (.iconst 0, 1) := by decide +kernel
theorem dX2_startMember_15 : decode (mc mX2_startMember) 15 = .ok (.invokestatic 66, 3) := by decide +kernel
theorem dX2_startMember_18 : decode (mc mX2_startMember) 18 = .ok (.bipush 40, 2) := by decide +kernel
theorem dX2_startMember_20 : decode (mc mX2_startMember) 20 = .ok (.invokevirtual 49, 3) := by decide +kernel
theorem dX2_startMember_23 : decode (mc mX2_startMember) 23 = .ok (.aload_n 0, 1) := by decide +kernel
theorem dX2_startMember_24 : decode (mc mX2_startMember) 24 = .ok (.iload_n 1, 1) := by decide +kernel
theorem dX2_startMember_25 : decode (mc mX2_startMember) 25 = .ok (.iconst 1, 1) := by decide +kernel
theorem dX2_startMember_26 : decode (mc mX2_startMember) 26 = .ok (.invokestatic 66, 3) := by decide +kernel
theorem dX2_startMember_29 : decode (mc mX2_startMember) 29 = .ok (.iconst 0, 1) := by decide +kernel
theorem dX2_startMember_30 : decode (mc mX2_startMember) 30 = .ok (.invokevirtual 49, 3) := by decide +kernel
theorem dX2_startMember_33 : decode (mc mX2_startMember) 33 = .ok (.iload_n 1, 1) := by decide +kernel
theorem dX2_startMember_34 : decode (mc mX2_startMember) 34 = .ok (.ireturn, 1) := by decide +kernel
theorem dX2_priceOf_0 : decode (mc mX2_priceOf) 0 = .ok (.aload_n 0, 1) := by decide +kernel
theorem dX2_priceOf_1 : decode (mc mX2_priceOf) 1 = .ok (.iload_n 1, 1) := by decide +kernel
theorem dX2_priceOf_2 : decode (mc mX2_priceOf) 2 = .ok (.iconst 0, 1) := by decide +kernel
theorem dX2_priceOf_3 : decode (mc mX2_priceOf) 3 = .ok (.invokestatic 66, 3) := by decide +kernel
theorem dX2_priceOf_6 : decode (mc mX2_priceOf) 6 = .ok (.invokevirtual 45, 3) := by decide +kernel
theorem dX2_priceOf_9 : decode (mc mX2_priceOf) 9 = .ok (.ireturn, 1) := by decide +kernel
theorem dX2_changePrice_0 : decode (mc mX2_changePrice) 0 = .ok (.aload_n 0, 1) := by decide +kernel
theorem dX2_changePrice_1 : decode (mc mX2_changePrice) 1 = .ok (.iload_n 1, 1) := by decide +kernel
theorem dX2_changePrice_2 : decode (mc mX2_changePrice) 2 = .ok (.iconst 0, 1) := by decide +kernel
theorem dX2_changePrice_3 : decode (mc mX2_changePrice) 3 = .ok (.invokestatic 66, 3) := by decide +kernel
theorem dX2_changePrice_6 : decode (mc mX2_changePrice) 6 = .ok (.iload_n 2, 1) := by decide +kernel
theorem dX2_changePrice_7 : decode (mc mX2_changePrice) 7 = .ok (.invokevirtual 49, 3) := by decide +kernel
theorem dX2_changePrice_10 : decode (mc mX2_changePrice) 10 = .ok (.return_, 1) := by decide +kernel
theorem dX2_memberProperty_0 : decode (mc mX2_memberProperty) 0 = .ok (.iload_n 2, 1) := by decide +kernel
theorem dX2_memberProperty_1 : decode (mc mX2_memberProperty) 1 = .ok (.tableswitch 53 0 3 #[31, 31, 41, 47], 31) := by decide +kernel
theorem dX2_memberProperty_32 : decode (mc mX2_memberProperty) 32 = .ok (.aload_n 0, 1) := by decide +kernel
theorem dX2_memberProperty_33 : decode (mc mX2_memberProperty) 33 = .ok (.iload_n 1, 1) := by decide +kernel
theorem dX2_memberProperty_34 : decode (mc mX2_memberProperty) 34 = .ok (.iload_n 2, 1) := by decide +kernel
theorem dX2_memberProperty_35 : decode (mc mX2_memberProperty) 35 = .ok (.invokestatic 66, 3) := by decide +kernel
theorem dX2_memberProperty_38 : decode (mc mX2_memberProperty) 38 = .ok (.invokevirtual 45, 3) := by decide +kernel
theorem dX2_memberProperty_41 : decode (mc mX2_memberProperty) 41 = .ok (.ireturn, 1) := by decide +kernel
theorem dX2_memberProperty_42 : decode (mc mX2_memberProperty) 42 = .ok (.aload_n 0, 1) := by decide +kernel
theorem dX2_memberProperty_43 : decode (mc mX2_memberProperty) 43 = .ok (.iload_n 1, 1) := by decide +kernel
theorem dX2_memberProperty_44 : decode (mc mX2_memberProperty) 44 = .ok (.invokevirtual 70, 3) := by decide +kernel
theorem dX2_memberProperty_47 : decode (mc mX2_memberProperty) 47 = .ok (.ireturn, 1) := by decide +kernel
theorem dX2_memberProperty_48 : decode (mc mX2_memberProperty) 48 = .ok (.aload_n 0, 1) := by decide +kernel
theorem dX2_memberProperty_49 : decode (mc mX2_memberProperty) 49 = .ok (.iload_n 1, 1) := by decide +kernel
theorem dX2_memberProperty_50 : decode (mc mX2_memberProperty) 50 = .ok (.invokevirtual 73, 3) := by decide +kernel
theorem dX2_memberProperty_53 : decode (mc mX2_memberProperty) 53 = .ok (.ireturn, 1) := by decide +kernel
theorem dX2_memberProperty_54 : decode (mc mX2_memberProperty) 54 = .ok (.aload_n 0, 1) := by decide +kernel
theorem dX2_memberProperty_55 : decode (mc mX2_memberProperty) 55 = .ok (.iload_n 1, 1) := by decide +kernel
theorem dX2_memberProperty_56 : decode (mc mX2_memberProperty) 56 = .ok (.invokevirtual 76, 3) := by decide +kernel
theorem dX2_memberProperty_59 : decode (mc mX2_memberProperty) 59 = .ok (.ireturn, 1) := by decide +kernel
theorem dX2_countOwned_0 : decode (mc mX2_countOwned) 0 = .ok (.iconst 0, 1) := by decide +kernel
theorem dX2_countOwned_1 : decode (mc mX2_countOwned) 1 = .ok (.istore_n 2, 1) := by decide +kernel
theorem dX2_countOwned_2 : decode (mc mX2_countOwned) 2 = .ok (.iconst 0, 1) := by decide +kernel
theorem dX2_countOwned_3 : decode (mc mX2_countOwned) 3 = .ok (.istore_n 3, 1) := by decide +kernel
theorem dX2_countOwned_4 : decode (mc mX2_countOwned) 4 = .ok (.iload_n 3, 1) := by decide +kernel
theorem dX2_countOwned_5 : decode (mc mX2_countOwned) 5 = .ok (.aload_n 0, 1) := by decide +kernel
theorem dX2_countOwned_6 : decode (mc mX2_countOwned) 6 = .ok (.invokevirtual 57, 3) := by decide +kernel
theorem dX2_countOwned_9 : decode (mc mX2_countOwned) 9 = .ok (.if_icmp .ge 29, 3) := by decide +kernel
theorem dX2_countOwned_12 : decode (mc mX2_countOwned) 12 = .ok (.aload_n 0, 1) := by decide +kernel
theorem dX2_countOwned_13 : decode (mc mX2_countOwned) 13 = .ok (.iload_n 3, 1) := by decide +kernel
theorem dX2_countOwned_14 : decode (mc mX2_countOwned) 14 = .ok (.invokevirtual 79, 3) := by decide +kernel
theorem dX2_countOwned_17 : decode (mc mX2_countOwned) 17 = .ok (.ifCond .eq 15, 3) := by decide +kernel
theorem dX2_countOwned_20 : decode (mc mX2_countOwned) 20 = .ok (.aload_n 0, 1) := by decide +kernel
theorem dX2_countOwned_21 : decode (mc mX2_countOwned) 21 = .ok (.iload_n 3, 1) := by decide +kernel
theorem dX2_countOwned_22 : decode (mc mX2_countOwned) 22 = .ok (.invokevirtual 83, 3) := by decide +kernel
theorem dX2_countOwned_25 : decode (mc mX2_countOwned) 25 = .ok (.iload_n 1, 1) := by decide +kernel
theorem dX2_countOwned_26 : decode (mc mX2_countOwned) 26 = .ok (.if_icmp .ne 6, 3) := by decide +kernel
theorem dX2_countOwned_29 : decode (mc mX2_countOwned) 29 = .ok (.iinc 2 1, 3) := by decide +kernel
theorem dX2_countOwned_32 : decode (mc mX2_countOwned) 32 = .ok (.iinc 3 1, 3) := by decide +kernel
theorem dX2_countOwned_35 : decode (mc mX2_countOwned) 35 = .ok (.goto (-31), 3) := by decide +kernel
theorem dX2_countOwned_38 : decode (mc mX2_countOwned) 38 = .ok (.iload_n 2, 1) := by decide +kernel
theorem dX2_countOwned_39 : decode (mc mX2_countOwned) 39 = .ok (.ireturn, 1) := by decide +kernel
theorem dX2_countUsesNoted_0 : decode (mc mX2_countUsesNoted) 0 = .ok (.iconst 0, 1) := by decide +kernel
theorem dX2_countUsesNoted_1 : decode (mc mX2_countUsesNoted) 1 = .ok (.istore_n 2, 1) := by decide +kernel
theorem dX2_countUsesNoted_2 : decode (mc mX2_countUsesNoted) 2 = .ok (.iconst 0, 1) := by decide +kernel
theorem dX2_countUsesNoted_3 : decode (mc mX2_countUsesNoted) 3 = .ok (.istore_n 3, 1) := by decide +kernel
theorem dX2_countUsesNoted_4 : decode (mc mX2_countUsesNoted) 4 = .ok (.iload_n 3, 1) := by decide +kernel
theorem dX2_countUsesNoted_5 : decode (mc mX2_countUsesNoted) 5 = .ok (.aload_n 0, 1) := by decide +kernel
theorem dX2_countUsesNoted_6 : decode (mc mX2_countUsesNoted) 6 = .ok (.invokevirtual 60, 3) := by decide +kernel
theorem dX2_countUsesNoted_9 : decode (mc mX2_countUsesNoted) 9 = .ok (.if_icmp .ge 22, 3) := by decide +kernel
theorem dX2_countUsesNoted_12 : decode (mc mX2_countUsesNoted) 12 = .ok (.aload_n 0, 1) := by decide +kernel
theorem dX2_countUsesNoted_13 : decode (mc mX2_countUsesNoted) 13 = .ok (.iload_n 3, 1) := by decide +kernel
theorem dX2_countUsesNoted_14 : decode (mc mX2_countUsesNoted) 14 = .ok (.iconst 0, 1) := by decide +kernel
theorem dX2_countUsesNoted_15 : decode (mc mX2_countUsesNoted) 15 = .ok (.invokevirtual 86, 3) := by decide +kernel
theorem dX2_countUsesNoted_18 : decode (mc mX2_countUsesNoted) 18 = .ok (.iload_n 1, 1) := by decide +kernel
theorem dX2_countUsesNoted_19 : decode (mc mX2_countUsesNoted) 19 = .ok (.if_icmp .ne 6, 3) := by decide +kernel
theorem dX2_countUsesNoted_22 : decode (mc mX2_countUsesNoted) 22 = .ok (.iinc 2 1, 3) := by decide +kernel
theorem dX2_countUsesNoted_25 : decode (mc mX2_countUsesNoted) 25 = .ok (.iinc 3 1, 3) := by decide +kernel
theorem dX2_countUsesNoted_28 : decode (mc mX2_countUsesNoted) 28 = .ok (.goto (-24), 3) := by decide +kernel
theorem dX2_countUsesNoted_31 : decode (mc mX2_countUsesNoted) 31 = .ok (.iload_n 2, 1) := by decide +kernel
theorem dX2_countUsesNoted_32 : decode (mc mX2_countUsesNoted) 32 = .ok (.ireturn, 1) := by decide +kernel
theorem dX2_sumGot_0 : decode (mc mX2_sumGot) 0 = .ok (.iconst 0, 1) := by decide +kernel
theorem dX2_sumGot_1 : decode (mc mX2_sumGot) 1 = .ok (.istore_n 2, 1) := by decide +kernel
theorem dX2_sumGot_2 : decode (mc mX2_sumGot) 2 = .ok (.iconst 0, 1) := by decide +kernel
theorem dX2_sumGot_3 : decode (mc mX2_sumGot) 3 = .ok (.istore_n 3, 1) := by decide +kernel
theorem dX2_sumGot_4 : decode (mc mX2_sumGot) 4 = .ok (.iload_n 3, 1) := by decide +kernel
theorem dX2_sumGot_5 : decode (mc mX2_sumGot) 5 = .ok (.aload_n 0, 1) := by decide +kernel
theorem dX2_sumGot_6 : decode (mc mX2_sumGot) 6 = .ok (.invokevirtual 60, 3) := by decide +kernel
theorem dX2_sumGot_9 : decode (mc mX2_sumGot) 9 = .ok (.if_icmp .ge 29, 3) := by decide +kernel
theorem dX2_sumGot_12 : decode (mc mX2_sumGot) 12 = .ok (.aload_n 0, 1) := by decide +kernel
theorem dX2_sumGot_13 : decode (mc mX2_sumGot) 13 = .ok (.iload_n 3, 1) := by decide +kernel
theorem dX2_sumGot_14 : decode (mc mX2_sumGot) 14 = .ok (.invokevirtual 89, 3) := by decide +kernel
theorem dX2_sumGot_17 : decode (mc mX2_sumGot) 17 = .ok (.ifCond .ne 15, 3) := by decide +kernel
theorem dX2_sumGot_20 : decode (mc mX2_sumGot) 20 = .ok (.iload_n 2, 1) := by decide +kernel
theorem dX2_sumGot_21 : decode (mc mX2_sumGot) 21 = .ok (.aload_n 0, 1) := by decide +kernel
theorem dX2_sumGot_22 : decode (mc mX2_sumGot) 22 = .ok (.iload_n 3, 1) := by decide +kernel
theorem dX2_sumGot_23 : decode (mc mX2_sumGot) 23 = .ok (.bipush 7, 2) := by decide +kernel
theorem dX2_sumGot_25 : decode (mc mX2_sumGot) 25 = .ok (.iload_n 1, 1) := by decide +kernel
theorem dX2_sumGot_26 : decode (mc mX2_sumGot) 26 = .ok (.iadd, 1) := by decide +kernel
theorem dX2_sumGot_27 : decode (mc mX2_sumGot) 27 = .ok (.invokevirtual 86, 3) := by decide +kernel
theorem dX2_sumGot_30 : decode (mc mX2_sumGot) 30 = .ok (.iadd, 1) := by decide +kernel
theorem dX2_sumGot_31 : decode (mc mX2_sumGot) 31 = .ok (.istore_n 2, 1) := by decide +kernel
theorem dX2_sumGot_32 : decode (mc mX2_sumGot) 32 = .ok (.iinc 3 1, 3) := by decide +kernel
theorem dX2_sumGot_35 : decode (mc mX2_sumGot) 35 = .ok (.goto (-31), 3) := by decide +kernel
theorem dX2_sumGot_38 : decode (mc mX2_sumGot) 38 = .ok (.iload_n 2, 1) := by decide +kernel
theorem dX2_sumGot_39 : decode (mc mX2_sumGot) 39 = .ok (.ireturn, 1) := by decide +kernel
theorem dX2_countOf_0 : decode (mc mX2_countOf) 0 = .ok (.iload_n 1, 1) := by decide +kernel
theorem dX2_countOf_1 : decode (mc mX2_countOf) 1 = .ok (.tableswitch 88 0 7 #[47, 52, 57, 62, 67, 72, 77, 83], 47) := by decide +kernel
theorem dX2_countOf_48 : decode (mc mX2_countOf) 48 = .ok (.aload_n 0, 1) := by decide +kernel
theorem dX2_countOf_49 : decode (mc mX2_countOf) 49 = .ok (.invokevirtual 53, 3) := by decide +kernel
theorem dX2_countOf_52 : decode (mc mX2_countOf) 52 = .ok (.ireturn, 1) := by decide +kernel
theorem dX2_countOf_53 : decode (mc mX2_countOf) 53 = .ok (.aload_n 0, 1) := by decide +kernel
theorem dX2_countOf_54 : decode (mc mX2_countOf) 54 = .ok (.invokevirtual 57, 3) := by decide +kernel
theorem dX2_countOf_57 : decode (mc mX2_countOf) 57 = .ok (.ireturn, 1) := by decide +kernel
theorem dX2_countOf_58 : decode (mc mX2_countOf) 58 = .ok (.aload_n 0, 1) := by decide +kernel
theorem dX2_countOf_59 : decode (mc mX2_countOf) 59 = .ok (.invokevirtual 92, 3) := by decide +kernel
theorem dX2_countOf_62 : decode (mc mX2_countOf) 62 = .ok (.ireturn, 1) := by decide +kernel
theorem dX2_countOf_63 : decode (mc mX2_countOf) 63 = .ok (.aload_n 0, 1) := by decide +kernel
theorem dX2_countOf_64 : decode (mc mX2_countOf) 64 = .ok (.invokevirtual 60, 3) := by decide +kernel
theorem dX2_countOf_67 : decode (mc mX2_countOf) 67 = .ok (.ireturn, 1) := by decide +kernel
theorem dX2_countOf_68 : decode (mc mX2_countOf) 68 = .ok (.aload_n 0, 1) := by decide +kernel
theorem dX2_countOf_69 : decode (mc mX2_countOf) 69 = .ok (.invokevirtual 95, 3) := by decide +kernel
theorem dX2_countOf_72 : decode (mc mX2_countOf) 72 = .ok (.ireturn, 1) := by decide +kernel
theorem dX2_countOf_73 : decode (mc mX2_countOf) 73 = .ok (.aload_n 0, 1) := by decide +kernel
theorem dX2_countOf_74 : decode (mc mX2_countOf) 74 = .ok (.invokevirtual 98, 3) := by decide +kernel
theorem dX2_countOf_77 : decode (mc mX2_countOf) 77 = .ok (.ireturn, 1) := by decide +kernel
theorem dX2_countOf_78 : decode (mc mX2_countOf) 78 = .ok (.aload_n 0, 1) := by decide +kernel
theorem dX2_countOf_79 : decode (mc mX2_countOf) 79 = .ok (.iconst 4, 1) := by decide +kernel
theorem dX2_countOf_80 : decode (mc mX2_countOf) 80 = .ok (.invokevirtual 45, 3) := by decide +kernel
theorem dX2_countOf_83 : decode (mc mX2_countOf) 83 = .ok (.ireturn, 1) := by decide +kernel
theorem dX2_countOf_84 : decode (mc mX2_countOf) 84 = .ok (.aload_n 0, 1) := by decide +kernel
theorem dX2_countOf_85 : decode (mc mX2_countOf) 85 = .ok (.invokevirtual 101, 3) := by decide +kernel
theorem dX2_countOf_88 : decode (mc mX2_countOf) 88 = .ok (.ireturn, 1) := by decide +kernel
theorem dX2_countOf_89 : decode (mc mX2_countOf) 89 = .ok (.aload_n 0, 1) := by decide +kernel
theorem dX2_countOf_90 : decode (mc mX2_countOf) 90 = .ok (.iload_n 1, 1) := by decide +kernel
theorem dX2_countOf_91 : decode (mc mX2_countOf) 91 = .ok (.bipush 8, 2) := by decide +kernel
theorem dX2_countOf_93 : decode (mc mX2_countOf) 93 = .ok (.isub, 1) := by decide +kernel
theorem dX2_countOf_94 : decode (mc mX2_countOf) 94 = .ok (.invokevirtual 104, 3) := by decide +kernel
theorem dX2_countOf_97 : decode (mc mX2_countOf) 97 = .ok (.ireturn, 1) := by decide +kernel
theorem dX2_countLive_0 : decode (mc mX2_countLive) 0 = .ok (.iconst 0, 1) := by decide +kernel
theorem dX2_countLive_1 : decode (mc mX2_countLive) 1 = .ok (.istore_n 1, 1) := by decide +kernel
theorem dX2_countLive_2 : decode (mc mX2_countLive) 2 = .ok (.iconst 0, 1) := by decide +kernel
theorem dX2_countLive_3 : decode (mc mX2_countLive) 3 = .ok (.istore_n 2, 1) := by decide +kernel
theorem dX2_countLive_4 : decode (mc mX2_countLive) 4 = .ok (.iload_n 2, 1) := by decide +kernel
theorem dX2_countLive_5 : decode (mc mX2_countLive) 5 = .ok (.aload_n 0, 1) := by decide +kernel
theorem dX2_countLive_6 : decode (mc mX2_countLive) 6 = .ok (.invokevirtual 57, 3) := by decide +kernel
theorem dX2_countLive_9 : decode (mc mX2_countLive) 9 = .ok (.if_icmp .ge 20, 3) := by decide +kernel
theorem dX2_countLive_12 : decode (mc mX2_countLive) 12 = .ok (.aload_n 0, 1) := by decide +kernel
theorem dX2_countLive_13 : decode (mc mX2_countLive) 13 = .ok (.iload_n 2, 1) := by decide +kernel
theorem dX2_countLive_14 : decode (mc mX2_countLive) 14 = .ok (.invokevirtual 79, 3) := by decide +kernel
theorem dX2_countLive_17 : decode (mc mX2_countLive) 17 = .ok (.ifCond .eq 6, 3) := by decide +kernel
theorem dX2_countLive_20 : decode (mc mX2_countLive) 20 = .ok (.iinc 1 1, 3) := by decide +kernel
theorem dX2_countLive_23 : decode (mc mX2_countLive) 23 = .ok (.iinc 2 1, 3) := by decide +kernel
theorem dX2_countLive_26 : decode (mc mX2_countLive) 26 = .ok (.goto (-22), 3) := by decide +kernel
theorem dX2_countLive_29 : decode (mc mX2_countLive) 29 = .ok (.iload_n 1, 1) := by decide +kernel
theorem dX2_countLive_30 : decode (mc mX2_countLive) 30 = .ok (.ireturn, 1) := by decide +kernel
theorem dX2_countPaidBack_0 : decode (mc mX2_countPaidBack) 0 = .ok (.iconst 0, 1) := by decide +kernel
theorem dX2_countPaidBack_1 : decode (mc mX2_countPaidBack) 1 = .ok (.istore_n 1, 1) := by decide +kernel
theorem dX2_countPaidBack_2 : decode (mc mX2_countPaidBack) 2 = .ok (.iconst 0, 1) := by decide +kernel
theorem dX2_countPaidBack_3 : decode (mc mX2_countPaidBack) 3 = .ok (.istore_n 2, 1) := by decide +kernel
theorem dX2_countPaidBack_4 : decode (mc mX2_countPaidBack) 4 = .ok (.iload_n 2, 1) := by decide +kernel
theorem dX2_countPaidBack_5 : decode (mc mX2_countPaidBack) 5 = .ok (.aload_n 0, 1) := by decide +kernel
theorem dX2_countPaidBack_6 : decode (mc mX2_countPaidBack) 6 = .ok (.invokevirtual 60, 3) := by decide +kernel
theorem dX2_countPaidBack_9 : decode (mc mX2_countPaidBack) 9 = .ok (.if_icmp .ge 20, 3) := by decide +kernel
theorem dX2_countPaidBack_12 : decode (mc mX2_countPaidBack) 12 = .ok (.aload_n 0, 1) := by decide +kernel
theorem dX2_countPaidBack_13 : decode (mc mX2_countPaidBack) 13 = .ok (.iload_n 2, 1) := by decide +kernel
theorem dX2_countPaidBack_14 : decode (mc mX2_countPaidBack) 14 = .ok (.invokevirtual 89, 3) := by decide +kernel
theorem dX2_countPaidBack_17 : decode (mc mX2_countPaidBack) 17 = .ok (.ifCond .eq 6, 3) := by decide +kernel
theorem dX2_countPaidBack_20 : decode (mc mX2_countPaidBack) 20 = .ok (.iinc 1 1, 3) := by decide +kernel
theorem dX2_countPaidBack_23 : decode (mc mX2_countPaidBack) 23 = .ok (.iinc 2 1, 3) := by decide +kernel
theorem dX2_countPaidBack_26 : decode (mc mX2_countPaidBack) 26 = .ok (.goto (-22), 3) := by decide +kernel
theorem dX2_countPaidBack_29 : decode (mc mX2_countPaidBack) 29 = .ok (.iload_n 1, 1) := by decide +kernel
theorem dX2_countPaidBack_30 : decode (mc mX2_countPaidBack) 30 = .ok (.ireturn, 1) := by decide +kernel
theorem dX2_countConflicts_0 : decode (mc mX2_countConflicts) 0 = .ok (.iconst 0, 1) := by decide +kernel
theorem dX2_countConflicts_1 : decode (mc mX2_countConflicts) 1 = .ok (.istore_n 1, 1) := by decide +kernel
theorem dX2_countConflicts_2 : decode (mc mX2_countConflicts) 2 = .ok (.iconst 0, 1) := by decide +kernel
theorem dX2_countConflicts_3 : decode (mc mX2_countConflicts) 3 = .ok (.istore_n 2, 1) := by decide +kernel
theorem dX2_countConflicts_4 : decode (mc mX2_countConflicts) 4 = .ok (.iload_n 2, 1) := by decide +kernel
theorem dX2_countConflicts_5 : decode (mc mX2_countConflicts) 5 = .ok (.aload_n 0, 1) := by decide +kernel
theorem dX2_countConflicts_6 : decode (mc mX2_countConflicts) 6 = .ok (.invokevirtual 57, 3) := by decide +kernel
theorem dX2_countConflicts_9 : decode (mc mX2_countConflicts) 9 = .ok (.if_icmp .ge 17, 3) := by decide +kernel
theorem dX2_countConflicts_12 : decode (mc mX2_countConflicts) 12 = .ok (.iload_n 1, 1) := by decide +kernel
theorem dX2_countConflicts_13 : decode (mc mX2_countConflicts) 13 = .ok (.aload_n 0, 1) := by decide +kernel
theorem dX2_countConflicts_14 : decode (mc mX2_countConflicts) 14 = .ok (.iload_n 2, 1) := by decide +kernel
theorem dX2_countConflicts_15 : decode (mc mX2_countConflicts) 15 = .ok (.invokevirtual 107, 3) := by decide +kernel
theorem dX2_countConflicts_18 : decode (mc mX2_countConflicts) 18 = .ok (.iadd, 1) := by decide +kernel
theorem dX2_countConflicts_19 : decode (mc mX2_countConflicts) 19 = .ok (.istore_n 1, 1) := by decide +kernel
theorem dX2_countConflicts_20 : decode (mc mX2_countConflicts) 20 = .ok (.iinc 2 1, 3) := by decide +kernel
theorem dX2_countConflicts_23 : decode (mc mX2_countConflicts) 23 = .ok (.goto (-19), 3) := by decide +kernel
theorem dX2_countConflicts_26 : decode (mc mX2_countConflicts) 26 = .ok (.iload_n 1, 1) := by decide +kernel
theorem dX2_countConflicts_27 : decode (mc mX2_countConflicts) 27 = .ok (.iconst 2, 1) := by decide +kernel
theorem dX2_countConflicts_28 : decode (mc mX2_countConflicts) 28 = .ok (.idiv, 1) := by decide +kernel
theorem dX2_countConflicts_29 : decode (mc mX2_countConflicts) 29 = .ok (.ireturn, 1) := by decide +kernel
theorem dX2_startPhrase_0 : decode (mc mX2_startPhrase) 0 = .ok (.aload_n 0, 1) := by decide +kernel
theorem dX2_startPhrase_1 : decode (mc mX2_startPhrase) 1 = .ok (.iconst 1, 1) := by decide +kernel
theorem dX2_startPhrase_2 : decode (mc mX2_startPhrase) 2 = .ok (.invokevirtual 45, 3) := by decide +kernel
theorem dX2_startPhrase_5 : decode (mc mX2_startPhrase) 5 = .ok (.istore 5, 2) := by decide +kernel
theorem dX2_startPhrase_7 : decode (mc mX2_startPhrase) 7 = .ok (.aload_n 0, 1) := by decide +kernel
theorem dX2_startPhrase_8 : decode (mc mX2_startPhrase) 8 = .ok (.iconst 1, 1) := by decide +kernel
theorem dX2_startPhrase_9 : decode (mc mX2_startPhrase) 9 = .ok (.iconst 1, 1) := by decide +kernel
theorem dX2_startPhrase_10 : decode (mc mX2_startPhrase) 10 = .ok (.invokevirtual 63, 3) := by decide +kernel
theorem dX2_startPhrase_13 : decode (mc mX2_startPhrase) 13 = .ok (.aload_n 0, 1) := by decide +kernel
theorem dX2_startPhrase_14 : decode (mc mX2_startPhrase) 14 = .ok (.iload 5, 2) := by decide +kernel
theorem dX2_startPhrase_16 : decode (mc mX2_startPhrase) 16 = .ok (.iconst 0, 1) := by decide +kernel
theorem dX2_startPhrase_17 : decode (mc mX2_startPhrase) 17 = .ok (.invokestatic 110, 3) := by decide +kernel
theorem dX2_startPhrase_20 : decode (mc mX2_startPhrase) 20 = .ok (.iload_n 1, 1) := by decide +kernel
theorem dX2_startPhrase_21 : decode (mc mX2_startPhrase) 21 = .ok (.invokevirtual 49, 3) := by decide +kernel
theorem dX2_startPhrase_24 : decode (mc mX2_startPhrase) 24 = .ok (.aload_n 0, 1) := by decide +kernel
theorem dX2_startPhrase_25 : decode (mc mX2_startPhrase) 25 = .ok (.iload 5, 2) := by decide +kernel
theorem dX2_startPhrase_27 : decode (mc mX2_startPhrase) 27 = .ok (.iconst 1, 1) := by decide +kernel
theorem dX2_startPhrase_28 : decode (mc mX2_startPhrase) 28 = .ok (.invokestatic 110, 3) := by decide +kernel
theorem dX2_startPhrase_31 : decode (mc mX2_startPhrase) 31 = .ok (.aload 4, 2) := by decide +kernel
theorem dX2_startPhrase_33 : decode (mc mX2_startPhrase) 33 = .ok (.getfield 113, 3) := by decide +kernel
theorem dX2_startPhrase_36 : decode (mc mX2_startPhrase) 36 = .ok (.invokevirtual 49, 3) := by decide +kernel
theorem dX2_startPhrase_39 : decode (mc mX2_startPhrase) 39 = .ok (.aload_n 0, 1) := by decide +kernel
theorem dX2_startPhrase_40 : decode (mc mX2_startPhrase) 40 = .ok (.iload 5, 2) := by decide +kernel
theorem dX2_startPhrase_42 : decode (mc mX2_startPhrase) 42 = .ok (.iconst 2, 1) := by decide +kernel
theorem dX2_startPhrase_43 : decode (mc mX2_startPhrase) 43 = .ok (.invokestatic 110, 3) := by decide +kernel
theorem dX2_startPhrase_46 : decode (mc mX2_startPhrase) 46 = .ok (.iload_n 2, 1) := by decide +kernel
theorem dX2_startPhrase_47 : decode (mc mX2_startPhrase) 47 = .ok (.invokevirtual 49, 3) := by decide +kernel
theorem dX2_startPhrase_50 : decode (mc mX2_startPhrase) 50 = .ok (.aload_n 0, 1) := by decide +kernel
theorem dX2_startPhrase_51 : decode (mc mX2_startPhrase) 51 = .ok (.iload 5, 2) := by decide +kernel
theorem dX2_startPhrase_53 : decode (mc mX2_startPhrase) 53 = .ok (.iconst 3, 1) := by decide +kernel
theorem dX2_startPhrase_54 : decode (mc mX2_startPhrase) 54 = .ok (.invokestatic 110, 3) := by decide +kernel
theorem dX2_startPhrase_57 : decode (mc mX2_startPhrase) 57 = .ok (.iload_n 3, 1) := by decide +kernel
theorem dX2_startPhrase_58 : decode (mc mX2_startPhrase) 58 = .ok (.invokevirtual 49, 3) := by decide +kernel
theorem dX2_startPhrase_61 : decode (mc mX2_startPhrase) 61 = .ok (.aload_n 0, 1) := by decide +kernel
theorem dX2_startPhrase_62 : decode (mc mX2_startPhrase) 62 = .ok (.iload 5, 2) := by decide +kernel
theorem dX2_startPhrase_64 : decode (mc mX2_startPhrase) 64 = .ok (.iconst 4, 1) := by decide +kernel
theorem dX2_startPhrase_65 : decode (mc mX2_startPhrase) 65 = .ok (.invokestatic 110, 3) := by decide +kernel
theorem dX2_startPhrase_68 : decode (mc mX2_startPhrase) 68 = .ok (.iconst 1, 1) := by decide +kernel
theorem dX2_startPhrase_69 : decode (mc mX2_startPhrase) 69 = .ok (.invokevirtual 49, 3) := by decide +kernel
theorem dX2_startPhrase_72 : decode (mc mX2_startPhrase) 72 = .ok (.aload_n 0, 1) := by decide +kernel
theorem dX2_startPhrase_73 : decode (mc mX2_startPhrase) 73 = .ok (.iload 5, 2) := by decide +kernel
theorem dX2_startPhrase_75 : decode (mc mX2_startPhrase) 75 = .ok (.iconst 5, 1) := by decide +kernel
theorem dX2_startPhrase_76 : decode (mc mX2_startPhrase) 76 = .ok (.invokestatic 110, 3) := by decide +kernel
theorem dX2_startPhrase_79 : decode (mc mX2_startPhrase) 79 = .ok (.iconst 0, 1) := by decide +kernel
theorem dX2_startPhrase_80 : decode (mc mX2_startPhrase) 80 = .ok (.invokevirtual 49, 3) := by decide +kernel
theorem dX2_startPhrase_83 : decode (mc mX2_startPhrase) 83 = .ok (.iconst 0, 1) := by decide +kernel
theorem dX2_startPhrase_84 : decode (mc mX2_startPhrase) 84 = .ok (.istore 6, 2) := by decide +kernel
theorem dX2_startPhrase_86 : decode (mc mX2_startPhrase) 86 = .ok (.iload 6, 2) := by decide +kernel
theorem dX2_startPhrase_88 : decode (mc mX2_startPhrase) 88 = .ok (.aload 4, 2) := by decide +kernel
theorem dX2_startPhrase_90 : decode (mc mX2_startPhrase) 90 = .ok (.getfield 113, 3) := by decide +kernel
theorem dX2_startPhrase_93 : decode (mc mX2_startPhrase) 93 = .ok (.if_icmp .ge 30, 3) := by decide +kernel
theorem dX2_startPhrase_96 : decode (mc mX2_startPhrase) 96 = .ok (.aload_n 0, 1) := by decide +kernel
theorem dX2_startPhrase_97 : decode (mc mX2_startPhrase) 97 = .ok (.iload 5, 2) := by decide +kernel
theorem dX2_startPhrase_99 : decode (mc mX2_startPhrase) 99 = .ok (.bipush 6, 2) := by decide +kernel
theorem dX2_startPhrase_101 : decode (mc mX2_startPhrase) 101 = .ok (.iload 6, 2) := by decide +kernel
theorem dX2_startPhrase_103 : decode (mc mX2_startPhrase) 103 = .ok (.iadd, 1) := by decide +kernel
theorem dX2_startPhrase_104 : decode (mc mX2_startPhrase) 104 = .ok (.invokestatic 110, 3) := by decide +kernel
theorem dX2_startPhrase_107 : decode (mc mX2_startPhrase) 107 = .ok (.aload 4, 2) := by decide +kernel
theorem dX2_startPhrase_109 : decode (mc mX2_startPhrase) 109 = .ok (.iload 6, 2) := by decide +kernel
theorem dX2_startPhrase_111 : decode (mc mX2_startPhrase) 111 = .ok (.invokevirtual 117, 3) := by decide +kernel
theorem dX2_startPhrase_114 : decode (mc mX2_startPhrase) 114 = .ok (.invokevirtual 49, 3) := by decide +kernel
theorem dX2_startPhrase_117 : decode (mc mX2_startPhrase) 117 = .ok (.iinc 6 1, 3) := by decide +kernel
theorem dX2_startPhrase_120 : decode (mc mX2_startPhrase) 120 = .ok (.goto (-34), 3) := by decide +kernel
theorem dX2_startPhrase_123 : decode (mc mX2_startPhrase) 123 = .ok (.iload 5, 2) := by decide +kernel
theorem dX2_startPhrase_125 : decode (mc mX2_startPhrase) 125 = .ok (.ireturn, 1) := by decide +kernel
theorem dX2_phraseProperty_0 : decode (mc mX2_phraseProperty) 0 = .ok (.iload_n 2, 1) := by decide +kernel
theorem dX2_phraseProperty_1 : decode (mc mX2_phraseProperty) 1 = .ok (.bipush 6, 2) := by decide +kernel
theorem dX2_phraseProperty_3 : decode (mc mX2_phraseProperty) 3 = .ok (.if_icmp .ne 11, 3) := by decide +kernel
theorem dX2_phraseProperty_6 : decode (mc mX2_phraseProperty) 6 = .ok (.aload_n 0, 1) := by decide +kernel
theorem dX2_phraseProperty_7 : decode (mc mX2_phraseProperty) 7 = .ok (.iload_n 1, 1) := by decide +kernel
theorem dX2_phraseProperty_8 : decode (mc mX2_phraseProperty) 8 = .ok (.invokevirtual 107, 3) := by decide +kernel
theorem dX2_phraseProperty_11 : decode (mc mX2_phraseProperty) 11 = .ok (.goto 12, 3) := by decide +kernel
theorem dX2_phraseProperty_14 : decode (mc mX2_phraseProperty) 14 = .ok (.aload_n 0, 1) := by decide +kernel
theorem dX2_phraseProperty_15 : decode (mc mX2_phraseProperty) 15 = .ok (.iload_n 1, 1) := by decide +kernel
theorem dX2_phraseProperty_16 : decode (mc mX2_phraseProperty) 16 = .ok (.iload_n 2, 1) := by decide +kernel
theorem dX2_phraseProperty_17 : decode (mc mX2_phraseProperty) 17 = .ok (.invokestatic 110, 3) := by decide +kernel
theorem dX2_phraseProperty_20 : decode (mc mX2_phraseProperty) 20 = .ok (.invokevirtual 45, 3) := by decide +kernel
theorem dX2_phraseProperty_23 : decode (mc mX2_phraseProperty) 23 = .ok (.ireturn, 1) := by decide +kernel
theorem dX2_ownerOf_0 : decode (mc mX2_ownerOf) 0 = .ok (.aload_n 0, 1) := by decide +kernel
theorem dX2_ownerOf_1 : decode (mc mX2_ownerOf) 1 = .ok (.iload_n 1, 1) := by decide +kernel
theorem dX2_ownerOf_2 : decode (mc mX2_ownerOf) 2 = .ok (.iconst 0, 1) := by decide +kernel
theorem dX2_ownerOf_3 : decode (mc mX2_ownerOf) 3 = .ok (.invokestatic 110, 3) := by decide +kernel
theorem dX2_ownerOf_6 : decode (mc mX2_ownerOf) 6 = .ok (.invokevirtual 45, 3) := by decide +kernel
theorem dX2_ownerOf_9 : decode (mc mX2_ownerOf) 9 = .ok (.ireturn, 1) := by decide +kernel
theorem dX2_lengthOf_0 : decode (mc mX2_lengthOf) 0 = .ok (.aload_n 0, 1) := by decide +kernel
theorem dX2_lengthOf_1 : decode (mc mX2_lengthOf) 1 = .ok (.iload_n 1, 1) := by decide +kernel
theorem dX2_lengthOf_2 : decode (mc mX2_lengthOf) 2 = .ok (.iconst 1, 1) := by decide +kernel
theorem dX2_lengthOf_3 : decode (mc mX2_lengthOf) 3 = .ok (.invokestatic 110, 3) := by decide +kernel
theorem dX2_lengthOf_6 : decode (mc mX2_lengthOf) 6 = .ok (.invokevirtual 45, 3) := by decide +kernel
theorem dX2_lengthOf_9 : decode (mc mX2_lengthOf) 9 = .ok (.ireturn, 1) := by decide +kernel
theorem dX2_targetOf_0 : decode (mc mX2_targetOf) 0 = .ok (.aload_n 0, 1) := by decide +kernel
theorem dX2_targetOf_1 : decode (mc mX2_targetOf) 1 = .ok (.iload_n 1, 1) := by decide +kernel
theorem dX2_targetOf_2 : decode (mc mX2_targetOf) 2 = .ok (.iconst 2, 1) := by decide +kernel
theorem dX2_targetOf_3 : decode (mc mX2_targetOf) 3 = .ok (.invokestatic 110, 3) := by decide +kernel
theorem dX2_targetOf_6 : decode (mc mX2_targetOf) 6 = .ok (.invokevirtual 45, 3) := by decide +kernel
theorem dX2_targetOf_9 : decode (mc mX2_targetOf) 9 = .ok (.ireturn, 1) := by decide +kernel
theorem dX2_parentOf_0 : decode (mc mX2_parentOf) 0 = .ok (.aload_n 0, 1) := by decide +kernel
theorem dX2_parentOf_1 : decode (mc mX2_parentOf) 1 = .ok (.iload_n 1, 1) := by decide +kernel
theorem dX2_parentOf_2 : decode (mc mX2_parentOf) 2 = .ok (.iconst 3, 1) := by decide +kernel
theorem dX2_parentOf_3 : decode (mc mX2_parentOf) 3 = .ok (.invokestatic 110, 3) := by decide +kernel
theorem dX2_parentOf_6 : decode (mc mX2_parentOf) 6 = .ok (.invokevirtual 45, 3) := by decide +kernel
theorem dX2_parentOf_9 : decode (mc mX2_parentOf) 9 = .ok (.ireturn, 1) := by decide +kernel
theorem dX2_isLive_0 : decode (mc mX2_isLive) 0 = .ok (.aload_n 0, 1) := by decide +kernel
theorem dX2_isLive_1 : decode (mc mX2_isLive) 1 = .ok (.iload_n 1, 1) := by decide +kernel
theorem dX2_isLive_2 : decode (mc mX2_isLive) 2 = .ok (.iconst 4, 1) := by decide +kernel
theorem dX2_isLive_3 : decode (mc mX2_isLive) 3 = .ok (.invokestatic 110, 3) := by decide +kernel
theorem dX2_isLive_6 : decode (mc mX2_isLive) 6 = .ok (.invokevirtual 45, 3) := by decide +kernel
theorem dX2_isLive_9 : decode (mc mX2_isLive) 9 = .ok (.iconst 1, 1) := by decide +kernel
theorem dX2_isLive_10 : decode (mc mX2_isLive) 10 = .ok (.if_icmp .ne 7, 3) := by decide +kernel
theorem dX2_isLive_13 : decode (mc mX2_isLive) 13 = .ok (.iconst 1, 1) := by decide +kernel
theorem dX2_isLive_14 : decode (mc mX2_isLive) 14 = .ok (.goto 4, 3) := by decide +kernel
theorem dX2_isLive_17 : decode (mc mX2_isLive) 17 = .ok (.iconst 0, 1) := by decide +kernel
theorem dX2_isLive_18 : decode (mc mX2_isLive) 18 = .ok (.ireturn, 1) := by decide +kernel
theorem dX2_usesOf_0 : decode (mc mX2_usesOf) 0 = .ok (.aload_n 0, 1) := by decide +kernel
theorem dX2_usesOf_1 : decode (mc mX2_usesOf) 1 = .ok (.iload_n 1, 1) := by decide +kernel
theorem dX2_usesOf_2 : decode (mc mX2_usesOf) 2 = .ok (.iconst 5, 1) := by decide +kernel
theorem dX2_usesOf_3 : decode (mc mX2_usesOf) 3 = .ok (.invokestatic 110, 3) := by decide +kernel
theorem dX2_usesOf_6 : decode (mc mX2_usesOf) 6 = .ok (.invokevirtual 45, 3) := by decide +kernel
theorem dX2_usesOf_9 : decode (mc mX2_usesOf) 9 = .ok (.ireturn, 1) := by decide +kernel
theorem dX2_wordOf_0 : decode (mc mX2_wordOf) 0 = .ok (.aload_n 0, 1) := by decide +kernel
theorem dX2_wordOf_1 : decode (mc mX2_wordOf) 1 = .ok (.iload_n 1, 1) := by decide +kernel
theorem dX2_wordOf_2 : decode (mc mX2_wordOf) 2 = .ok (.bipush 6, 2) := by decide +kernel
theorem dX2_wordOf_4 : decode (mc mX2_wordOf) 4 = .ok (.iload_n 2, 1) := by decide +kernel
theorem dX2_wordOf_5 : decode (mc mX2_wordOf) 5 = .ok (.iadd, 1) := by decide +kernel
theorem dX2_wordOf_6 : decode (mc mX2_wordOf) 6 = .ok (.invokestatic 110, 3) := by decide +kernel
theorem dX2_wordOf_9 : decode (mc mX2_wordOf) 9 = .ok (.invokevirtual 45, 3) := by decide +kernel
theorem dX2_wordOf_12 : decode (mc mX2_wordOf) 12 = .ok (.ireturn, 1) := by decide +kernel
theorem dX2_readInto_0 : decode (mc mX2_readInto) 0 = .ok (.aload_n 1, 1) := by decide +kernel
theorem dX2_readInto_1 : decode (mc mX2_readInto) 1 = .ok (.invokevirtual 120, 3) := by decide +kernel
theorem dX2_readInto_4 : decode (mc mX2_readInto) 4 = .ok (.iconst 0, 1) := by decide +kernel
theorem dX2_readInto_5 : decode (mc mX2_readInto) 5 = .ok (.istore_n 3, 1) := by decide +kernel
theorem dX2_readInto_6 : decode (mc mX2_readInto) 6 = .ok (.iload_n 3, 1) := by decide +kernel
theorem dX2_readInto_7 : decode (mc mX2_readInto) 7 = .ok (.aload_n 0, 1) := by decide +kernel
theorem dX2_readInto_8 : decode (mc mX2_readInto) 8 = .ok (.iload_n 2, 1) := by decide +kernel
theorem dX2_readInto_9 : decode (mc mX2_readInto) 9 = .ok (.invokevirtual 123, 3) := by decide +kernel
theorem dX2_readInto_12 : decode (mc mX2_readInto) 12 = .ok (.if_icmp .ge 19, 3) := by decide +kernel
theorem dX2_readInto_15 : decode (mc mX2_readInto) 15 = .ok (.aload_n 1, 1) := by decide +kernel
theorem dX2_readInto_16 : decode (mc mX2_readInto) 16 = .ok (.aload_n 0, 1) := by decide +kernel
theorem dX2_readInto_17 : decode (mc mX2_readInto) 17 = .ok (.iload_n 2, 1) := by decide +kernel
theorem dX2_readInto_18 : decode (mc mX2_readInto) 18 = .ok (.iload_n 3, 1) := by decide +kernel
theorem dX2_readInto_19 : decode (mc mX2_readInto) 19 = .ok (.invokevirtual 126, 3) := by decide +kernel
theorem dX2_readInto_22 : decode (mc mX2_readInto) 22 = .ok (.invokevirtual 129, 3) := by decide +kernel
theorem dX2_readInto_25 : decode (mc mX2_readInto) 25 = .ok (.iinc 3 1, 3) := by decide +kernel
theorem dX2_readInto_28 : decode (mc mX2_readInto) 28 = .ok (.goto (-22), 3) := by decide +kernel
theorem dX2_readInto_31 : decode (mc mX2_readInto) 31 = .ok (.return_, 1) := by decide +kernel
theorem dX2_likenessOf_0 : decode (mc mX2_likenessOf) 0 = .ok (.aload_n 0, 1) := by decide +kernel
theorem dX2_likenessOf_1 : decode (mc mX2_likenessOf) 1 = .ok (.aload_n 0, 1) := by decide +kernel
theorem dX2_likenessOf_2 : decode (mc mX2_likenessOf) 2 = .ok (.getfield 22, 3) := by decide +kernel
theorem dX2_likenessOf_5 : decode (mc mX2_likenessOf) 5 = .ok (.iload_n 1, 1) := by decide +kernel
theorem dX2_likenessOf_6 : decode (mc mX2_likenessOf) 6 = .ok (.invokevirtual 133, 3) := by decide +kernel
theorem dX2_likenessOf_9 : decode (mc mX2_likenessOf) 9 = .ok (.aload_n 0, 1) := by decide +kernel
theorem dX2_likenessOf_10 : decode (mc mX2_likenessOf) 10 = .ok (.aload_n 0, 1) := by decide +kernel
theorem dX2_likenessOf_11 : decode (mc mX2_likenessOf) 11 = .ok (.getfield 22, 3) := by decide +kernel
theorem dX2_likenessOf_14 : decode (mc mX2_likenessOf) 14 = .ok (.iload_n 2, 1) := by decide +kernel
theorem dX2_likenessOf_15 : decode (mc mX2_likenessOf) 15 = .ok (.invokevirtual 137, 3) := by decide +kernel
theorem dX2_likenessOf_18 : decode (mc mX2_likenessOf) 18 = .ok (.ireturn, 1) := by decide +kernel
theorem dX2_likenessTo_0 : decode (mc mX2_likenessTo) 0 = .ok (.aload_n 0, 1) := by decide +kernel
theorem dX2_likenessTo_1 : decode (mc mX2_likenessTo) 1 = .ok (.aload_n 0, 1) := by decide +kernel
theorem dX2_likenessTo_2 : decode (mc mX2_likenessTo) 2 = .ok (.getfield 26, 3) := by decide +kernel
theorem dX2_likenessTo_5 : decode (mc mX2_likenessTo) 5 = .ok (.iload_n 2, 1) := by decide +kernel
theorem dX2_likenessTo_6 : decode (mc mX2_likenessTo) 6 = .ok (.invokevirtual 133, 3) := by decide +kernel
theorem dX2_likenessTo_9 : decode (mc mX2_likenessTo) 9 = .ok (.aload_n 0, 1) := by decide +kernel
theorem dX2_likenessTo_10 : decode (mc mX2_likenessTo) 10 = .ok (.getfield 32, 3) := by decide +kernel
theorem dX2_likenessTo_13 : decode (mc mX2_likenessTo) 13 = .ok (.aload_n 1, 1) := by decide +kernel
theorem dX2_likenessTo_14 : decode (mc mX2_likenessTo) 14 = .ok (.aload_n 0, 1) := by decide +kernel
theorem dX2_likenessTo_15 : decode (mc mX2_likenessTo) 15 = .ok (.getfield 26, 3) := by decide +kernel
theorem dX2_likenessTo_18 : decode (mc mX2_likenessTo) 18 = .ok (.invokevirtual 141, 3) := by decide +kernel
theorem dX2_likenessTo_21 : decode (mc mX2_likenessTo) 21 = .ok (.ireturn, 1) := by decide +kernel
theorem dX2_conflictsOf_0 : decode (mc mX2_conflictsOf) 0 = .ok (.aload_n 0, 1) := by decide +kernel
theorem dX2_conflictsOf_1 : decode (mc mX2_conflictsOf) 1 = .ok (.iload_n 1, 1) := by decide +kernel
theorem dX2_conflictsOf_2 : decode (mc mX2_conflictsOf) 2 = .ok (.invokevirtual 79, 3) := by decide +kernel
theorem dX2_conflictsOf_5 : decode (mc mX2_conflictsOf) 5 = .ok (.ifCond .ne 5, 3) := by decide +kernel
theorem dX2_conflictsOf_8 : decode (mc mX2_conflictsOf) 8 = .ok (.iconst 0, 1) := by decide +kernel
theorem dX2_conflictsOf_9 : decode (mc mX2_conflictsOf) 9 = .ok (.ireturn, 1) := by decide +kernel
theorem dX2_conflictsOf_10 : decode (mc mX2_conflictsOf) 10 = .ok (.aload_n 0, 1) := by decide +kernel
theorem dX2_conflictsOf_11 : decode (mc mX2_conflictsOf) 11 = .ok (.aload_n 0, 1) := by decide +kernel
theorem dX2_conflictsOf_12 : decode (mc mX2_conflictsOf) 12 = .ok (.getfield 22, 3) := by decide +kernel
theorem dX2_conflictsOf_15 : decode (mc mX2_conflictsOf) 15 = .ok (.iload_n 1, 1) := by decide +kernel
theorem dX2_conflictsOf_16 : decode (mc mX2_conflictsOf) 16 = .ok (.invokevirtual 133, 3) := by decide +kernel
theorem dX2_conflictsOf_19 : decode (mc mX2_conflictsOf) 19 = .ok (.iconst 0, 1) := by decide +kernel
theorem dX2_conflictsOf_20 : decode (mc mX2_conflictsOf) 20 = .ok (.istore_n 2, 1) := by decide +kernel
theorem dX2_conflictsOf_21 : decode (mc mX2_conflictsOf) 21 = .ok (.iconst 0, 1) := by decide +kernel
theorem dX2_conflictsOf_22 : decode (mc mX2_conflictsOf) 22 = .ok (.istore_n 3, 1) := by decide +kernel
theorem dX2_conflictsOf_23 : decode (mc mX2_conflictsOf) 23 = .ok (.iload_n 3, 1) := by decide +kernel
theorem dX2_conflictsOf_24 : decode (mc mX2_conflictsOf) 24 = .ok (.aload_n 0, 1) := by decide +kernel
theorem dX2_conflictsOf_25 : decode (mc mX2_conflictsOf) 25 = .ok (.invokevirtual 57, 3) := by decide +kernel
theorem dX2_conflictsOf_28 : decode (mc mX2_conflictsOf) 28 = .ok (.if_icmp .ge 37, 3) := by decide +kernel
theorem dX2_conflictsOf_31 : decode (mc mX2_conflictsOf) 31 = .ok (.aload_n 0, 1) := by decide +kernel
theorem dX2_conflictsOf_32 : decode (mc mX2_conflictsOf) 32 = .ok (.iload_n 3, 1) := by decide +kernel
theorem dX2_conflictsOf_33 : decode (mc mX2_conflictsOf) 33 = .ok (.aload_n 0, 1) := by decide +kernel
theorem dX2_conflictsOf_34 : decode (mc mX2_conflictsOf) 34 = .ok (.getfield 22, 3) := by decide +kernel
theorem dX2_conflictsOf_37 : decode (mc mX2_conflictsOf) 37 = .ok (.invokevirtual 145, 3) := by decide +kernel
theorem dX2_conflictsOf_40 : decode (mc mX2_conflictsOf) 40 = .ok (.ifCond .eq 19, 3) := by decide +kernel
theorem dX2_conflictsOf_43 : decode (mc mX2_conflictsOf) 43 = .ok (.aload_n 0, 1) := by decide +kernel
theorem dX2_conflictsOf_44 : decode (mc mX2_conflictsOf) 44 = .ok (.iload_n 3, 1) := by decide +kernel
theorem dX2_conflictsOf_45 : decode (mc mX2_conflictsOf) 45 = .ok (.invokevirtual 149, 3) := by decide +kernel
theorem dX2_conflictsOf_48 : decode (mc mX2_conflictsOf) 48 = .ok (.aload_n 0, 1) := by decide +kernel
theorem dX2_conflictsOf_49 : decode (mc mX2_conflictsOf) 49 = .ok (.iload_n 1, 1) := by decide +kernel
theorem dX2_conflictsOf_50 : decode (mc mX2_conflictsOf) 50 = .ok (.invokevirtual 149, 3) := by decide +kernel
theorem dX2_conflictsOf_53 : decode (mc mX2_conflictsOf) 53 = .ok (.if_icmp .eq 6, 3) := by decide +kernel
theorem dX2_conflictsOf_56 : decode (mc mX2_conflictsOf) 56 = .ok (.iinc 2 1, 3) := by decide +kernel
theorem dX2_conflictsOf_59 : decode (mc mX2_conflictsOf) 59 = .ok (.iinc 3 1, 3) := by decide +kernel
theorem dX2_conflictsOf_62 : decode (mc mX2_conflictsOf) 62 = .ok (.goto (-39), 3) := by decide +kernel
theorem dX2_conflictsOf_65 : decode (mc mX2_conflictsOf) 65 = .ok (.iload_n 2, 1) := by decide +kernel
theorem dX2_conflictsOf_66 : decode (mc mX2_conflictsOf) 66 = .ok (.ireturn, 1) := by decide +kernel
theorem dX2_standsAt_0 : decode (mc mX2_standsAt) 0 = .ok (.aload_n 0, 1) := by decide +kernel
theorem dX2_standsAt_1 : decode (mc mX2_standsAt) 1 = .ok (.iload_n 1, 1) := by decide +kernel
theorem dX2_standsAt_2 : decode (mc mX2_standsAt) 2 = .ok (.iconst 1, 1) := by decide +kernel
theorem dX2_standsAt_3 : decode (mc mX2_standsAt) 3 = .ok (.invokestatic 110, 3) := by decide +kernel
theorem dX2_standsAt_6 : decode (mc mX2_standsAt) 6 = .ok (.invokevirtual 45, 3) := by decide +kernel
theorem dX2_standsAt_9 : decode (mc mX2_standsAt) 9 = .ok (.istore 4, 2) := by decide +kernel
theorem dX2_standsAt_11 : decode (mc mX2_standsAt) 11 = .ok (.iload_n 1, 1) := by decide +kernel
theorem dX2_standsAt_12 : decode (mc mX2_standsAt) 12 = .ok (.bipush 6, 2) := by decide +kernel
theorem dX2_standsAt_14 : decode (mc mX2_standsAt) 14 = .ok (.invokestatic 110, 3) := by decide +kernel
theorem dX2_standsAt_17 : decode (mc mX2_standsAt) 17 = .ok (.istore 5, 2) := by decide +kernel
theorem dX2_standsAt_19 : decode (mc mX2_standsAt) 19 = .ok (.iload_n 3, 1) := by decide +kernel
theorem dX2_standsAt_20 : decode (mc mX2_standsAt) 20 = .ok (.iload 4, 2) := by decide +kernel
theorem dX2_standsAt_22 : decode (mc mX2_standsAt) 22 = .ok (.iadd, 1) := by decide +kernel
theorem dX2_standsAt_23 : decode (mc mX2_standsAt) 23 = .ok (.aload_n 2, 1) := by decide +kernel
theorem dX2_standsAt_24 : decode (mc mX2_standsAt) 24 = .ok (.getfield 113, 3) := by decide +kernel
theorem dX2_standsAt_27 : decode (mc mX2_standsAt) 27 = .ok (.if_icmp .le 5, 3) := by decide +kernel
theorem dX2_standsAt_30 : decode (mc mX2_standsAt) 30 = .ok (.iconst 0, 1) := by decide +kernel
theorem dX2_standsAt_31 : decode (mc mX2_standsAt) 31 = .ok (.ireturn, 1) := by decide +kernel
theorem dX2_standsAt_32 : decode (mc mX2_standsAt) 32 = .ok (.iconst 0, 1) := by decide +kernel
theorem dX2_standsAt_33 : decode (mc mX2_standsAt) 33 = .ok (.istore 6, 2) := by decide +kernel
theorem dX2_standsAt_35 : decode (mc mX2_standsAt) 35 = .ok (.iload 6, 2) := by decide +kernel
theorem dX2_standsAt_37 : decode (mc mX2_standsAt) 37 = .ok (.iload 4, 2) := by decide +kernel
theorem dX2_standsAt_39 : decode (mc mX2_standsAt) 39 = .ok (.if_icmp .ge 31, 3) := by decide +kernel
theorem dX2_standsAt_42 : decode (mc mX2_standsAt) 42 = .ok (.aload_n 0, 1) := by decide +kernel
theorem dX2_standsAt_43 : decode (mc mX2_standsAt) 43 = .ok (.iload 5, 2) := by decide +kernel
theorem dX2_standsAt_45 : decode (mc mX2_standsAt) 45 = .ok (.iload 6, 2) := by decide +kernel
theorem dX2_standsAt_47 : decode (mc mX2_standsAt) 47 = .ok (.iadd, 1) := by decide +kernel
theorem dX2_standsAt_48 : decode (mc mX2_standsAt) 48 = .ok (.invokevirtual 45, 3) := by decide +kernel
theorem dX2_standsAt_51 : decode (mc mX2_standsAt) 51 = .ok (.aload_n 2, 1) := by decide +kernel
theorem dX2_standsAt_52 : decode (mc mX2_standsAt) 52 = .ok (.iload_n 3, 1) := by decide +kernel
theorem dX2_standsAt_53 : decode (mc mX2_standsAt) 53 = .ok (.iload 6, 2) := by decide +kernel
theorem dX2_standsAt_55 : decode (mc mX2_standsAt) 55 = .ok (.iadd, 1) := by decide +kernel
theorem dX2_standsAt_56 : decode (mc mX2_standsAt) 56 = .ok (.invokevirtual 117, 3) := by decide +kernel
theorem dX2_standsAt_59 : decode (mc mX2_standsAt) 59 = .ok (.if_icmp .eq 5, 3) := by decide +kernel
theorem dX2_standsAt_62 : decode (mc mX2_standsAt) 62 = .ok (.iconst 0, 1) := by decide +kernel
theorem dX2_standsAt_63 : decode (mc mX2_standsAt) 63 = .ok (.ireturn, 1) := by decide +kernel
theorem dX2_standsAt_64 : decode (mc mX2_standsAt) 64 = .ok (.iinc 6 1, 3) := by decide +kernel
theorem dX2_standsAt_67 : decode (mc mX2_standsAt) 67 = .ok (.goto (-32), 3) := by decide +kernel
theorem dX2_standsAt_70 : decode (mc mX2_standsAt) 70 = .ok (.iconst 1, 1) := by decide +kernel
theorem dX2_standsAt_71 : decode (mc mX2_standsAt) 71 = .ok (.ireturn, 1) := by decide +kernel
theorem dX2_isLiveAs_0 : decode (mc mX2_isLiveAs) 0 = .ok (.aload_n 0, 1) := by decide +kernel
theorem dX2_isLiveAs_1 : decode (mc mX2_isLiveAs) 1 = .ok (.iload_n 1, 1) := by decide +kernel
theorem dX2_isLiveAs_2 : decode (mc mX2_isLiveAs) 2 = .ok (.invokevirtual 79, 3) := by decide +kernel
theorem dX2_isLiveAs_5 : decode (mc mX2_isLiveAs) 5 = .ok (.ifCond .eq 29, 3) := by decide +kernel
theorem dX2_isLiveAs_8 : decode (mc mX2_isLiveAs) 8 = .ok (.aload_n 0, 1) := by decide +kernel
theorem dX2_isLiveAs_9 : decode (mc mX2_isLiveAs) 9 = .ok (.iload_n 1, 1) := by decide +kernel
theorem dX2_isLiveAs_10 : decode (mc mX2_isLiveAs) 10 = .ok (.invokevirtual 123, 3) := by decide +kernel
theorem dX2_isLiveAs_13 : decode (mc mX2_isLiveAs) 13 = .ok (.aload_n 2, 1) := by decide +kernel
theorem dX2_isLiveAs_14 : decode (mc mX2_isLiveAs) 14 = .ok (.getfield 113, 3) := by decide +kernel
theorem dX2_isLiveAs_17 : decode (mc mX2_isLiveAs) 17 = .ok (.if_icmp .ne 17, 3) := by decide +kernel
theorem dX2_isLiveAs_20 : decode (mc mX2_isLiveAs) 20 = .ok (.aload_n 0, 1) := by decide +kernel
theorem dX2_isLiveAs_21 : decode (mc mX2_isLiveAs) 21 = .ok (.iload_n 1, 1) := by decide +kernel
theorem dX2_isLiveAs_22 : decode (mc mX2_isLiveAs) 22 = .ok (.aload_n 2, 1) := by decide +kernel
theorem dX2_isLiveAs_23 : decode (mc mX2_isLiveAs) 23 = .ok (.iconst 0, 1) := by decide +kernel
theorem dX2_isLiveAs_24 : decode (mc mX2_isLiveAs) 24 = .ok (.invokevirtual 152, 3) := by decide +kernel
theorem dX2_isLiveAs_27 : decode (mc mX2_isLiveAs) 27 = .ok (.ifCond .eq 7, 3) := by decide +kernel
theorem dX2_isLiveAs_30 : decode (mc mX2_isLiveAs) 30 = .ok (.iconst 1, 1) := by decide +kernel
theorem dX2_isLiveAs_31 : decode (mc mX2_isLiveAs) 31 = .ok (.goto 4, 3) := by decide +kernel
theorem dX2_isLiveAs_34 : decode (mc mX2_isLiveAs) 34 = .ok (.iconst 0, 1) := by decide +kernel
theorem dX2_isLiveAs_35 : decode (mc mX2_isLiveAs) 35 = .ok (.ireturn, 1) := by decide +kernel
theorem dX2_feeFor_0 : decode (mc mX2_feeFor) 0 = .ok (.aload_n 0, 1) := by decide +kernel
theorem dX2_feeFor_1 : decode (mc mX2_feeFor) 1 = .ok (.iload_n 2, 1) := by decide +kernel
theorem dX2_feeFor_2 : decode (mc mX2_feeFor) 2 = .ok (.invokevirtual 83, 3) := by decide +kernel
theorem dX2_feeFor_5 : decode (mc mX2_feeFor) 5 = .ok (.istore 4, 2) := by decide +kernel
theorem dX2_feeFor_7 : decode (mc mX2_feeFor) 7 = .ok (.iload 4, 2) := by decide +kernel
theorem dX2_feeFor_9 : decode (mc mX2_feeFor) 9 = .ok (.iload_n 1, 1) := by decide +kernel
theorem dX2_feeFor_10 : decode (mc mX2_feeFor) 10 = .ok (.if_icmp .ne 7, 3) := by decide +kernel
theorem dX2_feeFor_13 : decode (mc mX2_feeFor) 13 = .ok (.iconst 0, 1) := by decide +kernel
theorem dX2_feeFor_14 : decode (mc mX2_feeFor) 14 = .ok (.goto 14, 3) := by decide +kernel
theorem dX2_feeFor_17 : decode (mc mX2_feeFor) 17 = .ok (.aload_n 0, 1) := by decide +kernel
theorem dX2_feeFor_18 : decode (mc mX2_feeFor) 18 = .ok (.iload 4, 2) := by decide +kernel
theorem dX2_feeFor_20 : decode (mc mX2_feeFor) 20 = .ok (.invokevirtual 160, 3) := by decide +kernel
theorem dX2_feeFor_23 : decode (mc mX2_feeFor) 23 = .ok (.iload_n 3, 1) := by decide +kernel
theorem dX2_feeFor_24 : decode (mc mX2_feeFor) 24 = .ok (.imul, 1) := by decide +kernel
theorem dX2_feeFor_25 : decode (mc mX2_feeFor) 25 = .ok (.bipush 100, 2) := by decide +kernel
theorem dX2_feeFor_27 : decode (mc mX2_feeFor) 27 = .ok (.idiv, 1) := by decide +kernel
theorem dX2_feeFor_28 : decode (mc mX2_feeFor) 28 = .ok (.ireturn, 1) := by decide +kernel
theorem dX2_noteProperty_0 : decode (mc mX2_noteProperty) 0 = .ok (.aload_n 0, 1) := by decide +kernel
theorem dX2_noteProperty_1 : decode (mc mX2_noteProperty) 1 = .ok (.iload_n 1, 1) := by decide +kernel
theorem dX2_noteProperty_2 : decode (mc mX2_noteProperty) 2 = .ok (.iload_n 2, 1) := by decide +kernel
theorem dX2_noteProperty_3 : decode (mc mX2_noteProperty) 3 = .ok (.invokestatic 163, 3) := by decide +kernel
theorem dX2_noteProperty_6 : decode (mc mX2_noteProperty) 6 = .ok (.invokevirtual 45, 3) := by decide +kernel
theorem dX2_noteProperty_9 : decode (mc mX2_noteProperty) 9 = .ok (.ireturn, 1) := by decide +kernel
theorem dX2_isPaidBack_0 : decode (mc mX2_isPaidBack) 0 = .ok (.aload_n 0, 1) := by decide +kernel
theorem dX2_isPaidBack_1 : decode (mc mX2_isPaidBack) 1 = .ok (.iload_n 1, 1) := by decide +kernel
theorem dX2_isPaidBack_2 : decode (mc mX2_isPaidBack) 2 = .ok (.iconst 5, 1) := by decide +kernel
theorem dX2_isPaidBack_3 : decode (mc mX2_isPaidBack) 3 = .ok (.invokestatic 163, 3) := by decide +kernel
theorem dX2_isPaidBack_6 : decode (mc mX2_isPaidBack) 6 = .ok (.invokevirtual 45, 3) := by decide +kernel
theorem dX2_isPaidBack_9 : decode (mc mX2_isPaidBack) 9 = .ok (.iconst 1, 1) := by decide +kernel
theorem dX2_isPaidBack_10 : decode (mc mX2_isPaidBack) 10 = .ok (.if_icmp .ne 7, 3) := by decide +kernel
theorem dX2_isPaidBack_13 : decode (mc mX2_isPaidBack) 13 = .ok (.iconst 1, 1) := by decide +kernel
theorem dX2_isPaidBack_14 : decode (mc mX2_isPaidBack) 14 = .ok (.goto 4, 3) := by decide +kernel
theorem dX2_isPaidBack_17 : decode (mc mX2_isPaidBack) 17 = .ok (.iconst 0, 1) := by decide +kernel
theorem dX2_isPaidBack_18 : decode (mc mX2_isPaidBack) 18 = .ok (.ireturn, 1) := by decide +kernel
theorem dX2_startNote_0 : decode (mc mX2_startNote) 0 = .ok (.aload_n 0, 1) := by decide +kernel
theorem dX2_startNote_1 : decode (mc mX2_startNote) 1 = .ok (.iconst 2, 1) := by decide +kernel
theorem dX2_startNote_2 : decode (mc mX2_startNote) 2 = .ok (.invokevirtual 45, 3) := by decide +kernel
theorem dX2_startNote_5 : decode (mc mX2_startNote) 5 = .ok (.istore 4, 2) := by decide +kernel
theorem dX2_startNote_7 : decode (mc mX2_startNote) 7 = .ok (.aload_n 0, 1) := by decide +kernel
theorem dX2_startNote_8 : decode (mc mX2_startNote) 8 = .ok (.iconst 2, 1) := by decide +kernel
theorem dX2_startNote_9 : decode (mc mX2_startNote) 9 = .ok (.iconst 1, 1) := by decide +kernel
theorem dX2_startNote_10 : decode (mc mX2_startNote) 10 = .ok (.invokevirtual 63, 3) := by decide +kernel
theorem dX2_startNote_13 : decode (mc mX2_startNote) 13 = .ok (.aload_n 0, 1) := by decide +kernel
theorem dX2_startNote_14 : decode (mc mX2_startNote) 14 = .ok (.iload 4, 2) := by decide +kernel
theorem dX2_startNote_16 : decode (mc mX2_startNote) 16 = .ok (.iconst 0, 1) := by decide +kernel
theorem dX2_startNote_17 : decode (mc mX2_startNote) 17 = .ok (.invokestatic 163, 3) := by decide +kernel
theorem dX2_startNote_20 : decode (mc mX2_startNote) 20 = .ok (.iload_n 1, 1) := by decide +kernel
theorem dX2_startNote_21 : decode (mc mX2_startNote) 21 = .ok (.invokevirtual 49, 3) := by decide +kernel
theorem dX2_startNote_24 : decode (mc mX2_startNote) 24 = .ok (.aload_n 0, 1) := by decide +kernel
theorem dX2_startNote_25 : decode (mc mX2_startNote) 25 = .ok (.iload 4, 2) := by decide +kernel
theorem dX2_startNote_27 : decode (mc mX2_startNote) 27 = .ok (.iconst 1, 1) := by decide +kernel
theorem dX2_startNote_28 : decode (mc mX2_startNote) 28 = .ok (.invokestatic 163, 3) := by decide +kernel
theorem dX2_startNote_31 : decode (mc mX2_startNote) 31 = .ok (.iload_n 2, 1) := by decide +kernel
theorem dX2_startNote_32 : decode (mc mX2_startNote) 32 = .ok (.invokevirtual 49, 3) := by decide +kernel
theorem dX2_startNote_35 : decode (mc mX2_startNote) 35 = .ok (.aload_n 0, 1) := by decide +kernel
theorem dX2_startNote_36 : decode (mc mX2_startNote) 36 = .ok (.iload 4, 2) := by decide +kernel
theorem dX2_startNote_38 : decode (mc mX2_startNote) 38 = .ok (.iconst 2, 1) := by decide +kernel
theorem dX2_startNote_39 : decode (mc mX2_startNote) 39 = .ok (.invokestatic 163, 3) := by decide +kernel
theorem dX2_startNote_42 : decode (mc mX2_startNote) 42 = .ok (.iload_n 3, 1) := by decide +kernel
theorem dX2_startNote_43 : decode (mc mX2_startNote) 43 = .ok (.invokevirtual 49, 3) := by decide +kernel
theorem dX2_startNote_46 : decode (mc mX2_startNote) 46 = .ok (.aload_n 0, 1) := by decide +kernel
theorem dX2_startNote_47 : decode (mc mX2_startNote) 47 = .ok (.iload 4, 2) := by decide +kernel
theorem dX2_startNote_49 : decode (mc mX2_startNote) 49 = .ok (.iconst 3, 1) := by decide +kernel
theorem dX2_startNote_50 : decode (mc mX2_startNote) 50 = .ok (.invokestatic 163, 3) := by decide +kernel
theorem dX2_startNote_53 : decode (mc mX2_startNote) 53 = .ok (.aload_n 0, 1) := by decide +kernel
theorem dX2_startNote_54 : decode (mc mX2_startNote) 54 = .ok (.iload_n 1, 1) := by decide +kernel
theorem dX2_startNote_55 : decode (mc mX2_startNote) 55 = .ok (.iload_n 2, 1) := by decide +kernel
theorem dX2_startNote_56 : decode (mc mX2_startNote) 56 = .ok (.iload_n 3, 1) := by decide +kernel
theorem dX2_startNote_57 : decode (mc mX2_startNote) 57 = .ok (.invokevirtual 166, 3) := by decide +kernel
theorem dX2_startNote_60 : decode (mc mX2_startNote) 60 = .ok (.invokevirtual 49, 3) := by decide +kernel
theorem dX2_startNote_63 : decode (mc mX2_startNote) 63 = .ok (.aload_n 0, 1) := by decide +kernel
theorem dX2_startNote_64 : decode (mc mX2_startNote) 64 = .ok (.iload 4, 2) := by decide +kernel
theorem dX2_startNote_66 : decode (mc mX2_startNote) 66 = .ok (.iconst 4, 1) := by decide +kernel
theorem dX2_startNote_67 : decode (mc mX2_startNote) 67 = .ok (.invokestatic 163, 3) := by decide +kernel
theorem dX2_startNote_70 : decode (mc mX2_startNote) 70 = .ok (.aload_n 0, 1) := by decide +kernel
theorem dX2_startNote_71 : decode (mc mX2_startNote) 71 = .ok (.invokevirtual 98, 3) := by decide +kernel
theorem dX2_startNote_74 : decode (mc mX2_startNote) 74 = .ok (.invokevirtual 49, 3) := by decide +kernel
theorem dX2_startNote_77 : decode (mc mX2_startNote) 77 = .ok (.aload_n 0, 1) := by decide +kernel
theorem dX2_startNote_78 : decode (mc mX2_startNote) 78 = .ok (.iload 4, 2) := by decide +kernel
theorem dX2_startNote_80 : decode (mc mX2_startNote) 80 = .ok (.iconst 5, 1) := by decide +kernel
theorem dX2_startNote_81 : decode (mc mX2_startNote) 81 = .ok (.invokestatic 163, 3) := by decide +kernel
theorem dX2_startNote_84 : decode (mc mX2_startNote) 84 = .ok (.iconst 0, 1) := by decide +kernel
theorem dX2_startNote_85 : decode (mc mX2_startNote) 85 = .ok (.invokevirtual 49, 3) := by decide +kernel
theorem dX2_startNote_88 : decode (mc mX2_startNote) 88 = .ok (.aload_n 0, 1) := by decide +kernel
theorem dX2_startNote_89 : decode (mc mX2_startNote) 89 = .ok (.iload 4, 2) := by decide +kernel
theorem dX2_startNote_91 : decode (mc mX2_startNote) 91 = .ok (.invokevirtual 170, 3) := by decide +kernel
theorem dX2_startNote_94 : decode (mc mX2_startNote) 94 = .ok (.aload_n 0, 1) := by decide +kernel
theorem dX2_startNote_95 : decode (mc mX2_startNote) 95 = .ok (.iload 4, 2) := by decide +kernel
theorem dX2_startNote_97 : decode (mc mX2_startNote) 97 = .ok (.iconst 1, 1) := by decide +kernel
theorem dX2_startNote_98 : decode (mc mX2_startNote) 98 = .ok (.invokevirtual 173, 3) := by decide +kernel
theorem dX2_startNote_101 : decode (mc mX2_startNote) 101 = .ok (.aload_n 0, 1) := by decide +kernel
theorem dX2_startNote_102 : decode (mc mX2_startNote) 102 = .ok (.iload_n 2, 1) := by decide +kernel
theorem dX2_startNote_103 : decode (mc mX2_startNote) 103 = .ok (.iconst 5, 1) := by decide +kernel
theorem dX2_startNote_104 : decode (mc mX2_startNote) 104 = .ok (.invokestatic 110, 3) := by decide +kernel
theorem dX2_startNote_107 : decode (mc mX2_startNote) 107 = .ok (.iconst 1, 1) := by decide +kernel
theorem dX2_startNote_108 : decode (mc mX2_startNote) 108 = .ok (.invokevirtual 63, 3) := by decide +kernel
theorem dX2_startNote_111 : decode (mc mX2_startNote) 111 = .ok (.iload 4, 2) := by decide +kernel
theorem dX2_startNote_113 : decode (mc mX2_startNote) 113 = .ok (.ireturn, 1) := by decide +kernel
theorem dX2_splitFee_0 : decode (mc mX2_splitFee) 0 = .ok (.iconst 0, 1) := by decide +kernel
theorem dX2_splitFee_1 : decode (mc mX2_splitFee) 1 = .ok (.istore_n 2, 1) := by decide +kernel
theorem dX2_splitFee_2 : decode (mc mX2_splitFee) 2 = .ok (.iload_n 2, 1) := by decide +kernel
theorem dX2_splitFee_3 : decode (mc mX2_splitFee) 3 = .ok (.bipush 6, 2) := by decide +kernel
theorem dX2_splitFee_5 : decode (mc mX2_splitFee) 5 = .ok (.if_icmp .ge 22, 3) := by decide +kernel
theorem dX2_splitFee_8 : decode (mc mX2_splitFee) 8 = .ok (.aload_n 0, 1) := by decide +kernel
theorem dX2_splitFee_9 : decode (mc mX2_splitFee) 9 = .ok (.iload_n 1, 1) := by decide +kernel
theorem dX2_splitFee_10 : decode (mc mX2_splitFee) 10 = .ok (.bipush 7, 2) := by decide +kernel
theorem dX2_splitFee_12 : decode (mc mX2_splitFee) 12 = .ok (.iload_n 2, 1) := by decide +kernel
theorem dX2_splitFee_13 : decode (mc mX2_splitFee) 13 = .ok (.iadd, 1) := by decide +kernel
theorem dX2_splitFee_14 : decode (mc mX2_splitFee) 14 = .ok (.invokestatic 163, 3) := by decide +kernel
theorem dX2_splitFee_17 : decode (mc mX2_splitFee) 17 = .ok (.iconst 0, 1) := by decide +kernel
theorem dX2_splitFee_18 : decode (mc mX2_splitFee) 18 = .ok (.invokevirtual 49, 3) := by decide +kernel
theorem dX2_splitFee_21 : decode (mc mX2_splitFee) 21 = .ok (.iinc 2 1, 3) := by decide +kernel
theorem dX2_splitFee_24 : decode (mc mX2_splitFee) 24 = .ok (.goto (-22), 3) := by decide +kernel
theorem dX2_splitFee_27 : decode (mc mX2_splitFee) 27 = .ok (.aload_n 0, 1) := by decide +kernel
theorem dX2_splitFee_28 : decode (mc mX2_splitFee) 28 = .ok (.iload_n 1, 1) := by decide +kernel
theorem dX2_splitFee_29 : decode (mc mX2_splitFee) 29 = .ok (.iconst 3, 1) := by decide +kernel
theorem dX2_splitFee_30 : decode (mc mX2_splitFee) 30 = .ok (.invokevirtual 86, 3) := by decide +kernel
theorem dX2_splitFee_33 : decode (mc mX2_splitFee) 33 = .ok (.aload_n 0, 1) := by decide +kernel
theorem dX2_splitFee_34 : decode (mc mX2_splitFee) 34 = .ok (.iconst 1, 1) := by decide +kernel
theorem dX2_splitFee_35 : decode (mc mX2_splitFee) 35 = .ok (.invokevirtual 104, 3) := by decide +kernel
theorem dX2_splitFee_38 : decode (mc mX2_splitFee) 38 = .ok (.imul, 1) := by decide +kernel
theorem dX2_splitFee_39 : decode (mc mX2_splitFee) 39 = .ok (.bipush 100, 2) := by decide +kernel
theorem dX2_splitFee_41 : decode (mc mX2_splitFee) 41 = .ok (.idiv, 1) := by decide +kernel
theorem dX2_splitFee_42 : decode (mc mX2_splitFee) 42 = .ok (.istore_n 2, 1) := by decide +kernel
theorem dX2_splitFee_43 : decode (mc mX2_splitFee) 43 = .ok (.aload_n 0, 1) := by decide +kernel
theorem dX2_splitFee_44 : decode (mc mX2_splitFee) 44 = .ok (.iload_n 1, 1) := by decide +kernel
theorem dX2_splitFee_45 : decode (mc mX2_splitFee) 45 = .ok (.bipush 6, 2) := by decide +kernel
theorem dX2_splitFee_47 : decode (mc mX2_splitFee) 47 = .ok (.invokestatic 163, 3) := by decide +kernel
theorem dX2_splitFee_50 : decode (mc mX2_splitFee) 50 = .ok (.iload_n 2, 1) := by decide +kernel
theorem dX2_splitFee_51 : decode (mc mX2_splitFee) 51 = .ok (.invokevirtual 49, 3) := by decide +kernel
theorem dX2_splitFee_54 : decode (mc mX2_splitFee) 54 = .ok (.aload_n 0, 1) := by decide +kernel
theorem dX2_splitFee_55 : decode (mc mX2_splitFee) 55 = .ok (.iload_n 1, 1) := by decide +kernel
theorem dX2_splitFee_56 : decode (mc mX2_splitFee) 56 = .ok (.iconst 3, 1) := by decide +kernel
theorem dX2_splitFee_57 : decode (mc mX2_splitFee) 57 = .ok (.invokevirtual 86, 3) := by decide +kernel
theorem dX2_splitFee_60 : decode (mc mX2_splitFee) 60 = .ok (.iload_n 2, 1) := by decide +kernel
theorem dX2_splitFee_61 : decode (mc mX2_splitFee) 61 = .ok (.isub, 1) := by decide +kernel
theorem dX2_splitFee_62 : decode (mc mX2_splitFee) 62 = .ok (.istore_n 3, 1) := by decide +kernel
theorem dX2_splitFee_63 : decode (mc mX2_splitFee) 63 = .ok (.aload_n 0, 1) := by decide +kernel
theorem dX2_splitFee_64 : decode (mc mX2_splitFee) 64 = .ok (.iload_n 1, 1) := by decide +kernel
theorem dX2_splitFee_65 : decode (mc mX2_splitFee) 65 = .ok (.iconst 1, 1) := by decide +kernel
theorem dX2_splitFee_66 : decode (mc mX2_splitFee) 66 = .ok (.invokevirtual 86, 3) := by decide +kernel
theorem dX2_splitFee_69 : decode (mc mX2_splitFee) 69 = .ok (.istore 4, 2) := by decide +kernel
theorem dX2_splitFee_71 : decode (mc mX2_splitFee) 71 = .ok (.iconst 0, 1) := by decide +kernel
theorem dX2_splitFee_72 : decode (mc mX2_splitFee) 72 = .ok (.istore 5, 2) := by decide +kernel
theorem dX2_splitFee_74 : decode (mc mX2_splitFee) 74 = .ok (.iload 5, 2) := by decide +kernel
theorem dX2_splitFee_76 : decode (mc mX2_splitFee) 76 = .ok (.bipush 20, 2) := by decide +kernel
theorem dX2_splitFee_78 : decode (mc mX2_splitFee) 78 = .ok (.if_icmp .ge 75, 3) := by decide +kernel
theorem dX2_splitFee_81 : decode (mc mX2_splitFee) 81 = .ok (.iload 4, 2) := by decide +kernel
theorem dX2_splitFee_83 : decode (mc mX2_splitFee) 83 = .ok (.ldc 176, 2) := by decide +kernel
theorem dX2_splitFee_85 : decode (mc mX2_splitFee) 85 = .ok (.if_icmp .eq 68, 3) := by decide +kernel
theorem dX2_splitFee_88 : decode (mc mX2_splitFee) 88 = .ok (.aload_n 0, 1) := by decide +kernel
theorem dX2_splitFee_89 : decode (mc mX2_splitFee) 89 = .ok (.iload 4, 2) := by decide +kernel
theorem dX2_splitFee_91 : decode (mc mX2_splitFee) 91 = .ok (.invokevirtual 177, 3) := by decide +kernel
theorem dX2_splitFee_94 : decode (mc mX2_splitFee) 94 = .ok (.istore 6, 2) := by decide +kernel
theorem dX2_splitFee_96 : decode (mc mX2_splitFee) 96 = .ok (.iload 6, 2) := by decide +kernel
theorem dX2_splitFee_98 : decode (mc mX2_splitFee) 98 = .ok (.ldc 176, 2) := by decide +kernel
theorem dX2_splitFee_100 : decode (mc mX2_splitFee) 100 = .ok (.if_icmp .ne 7, 3) := by decide +kernel
theorem dX2_splitFee_103 : decode (mc mX2_splitFee) 103 = .ok (.iconst 0, 1) := by decide +kernel
theorem dX2_splitFee_104 : decode (mc mX2_splitFee) 104 = .ok (.goto 13, 3) := by decide +kernel
theorem dX2_splitFee_107 : decode (mc mX2_splitFee) 107 = .ok (.iload_n 3, 1) := by decide +kernel
theorem dX2_splitFee_108 : decode (mc mX2_splitFee) 108 = .ok (.aload_n 0, 1) := by decide +kernel
theorem dX2_splitFee_109 : decode (mc mX2_splitFee) 109 = .ok (.iconst 2, 1) := by decide +kernel
theorem dX2_splitFee_110 : decode (mc mX2_splitFee) 110 = .ok (.invokevirtual 104, 3) := by decide +kernel
theorem dX2_splitFee_113 : decode (mc mX2_splitFee) 113 = .ok (.imul, 1) := by decide +kernel
theorem dX2_splitFee_114 : decode (mc mX2_splitFee) 114 = .ok (.bipush 100, 2) := by decide +kernel
theorem dX2_splitFee_116 : decode (mc mX2_splitFee) 116 = .ok (.idiv, 1) := by decide +kernel
theorem dX2_splitFee_117 : decode (mc mX2_splitFee) 117 = .ok (.istore 7, 2) := by decide +kernel
theorem dX2_splitFee_119 : decode (mc mX2_splitFee) 119 = .ok (.aload_n 0, 1) := by decide +kernel
theorem dX2_splitFee_120 : decode (mc mX2_splitFee) 120 = .ok (.iload_n 1, 1) := by decide +kernel
theorem dX2_splitFee_121 : decode (mc mX2_splitFee) 121 = .ok (.bipush 7, 2) := by decide +kernel
theorem dX2_splitFee_123 : decode (mc mX2_splitFee) 123 = .ok (.aload_n 0, 1) := by decide +kernel
theorem dX2_splitFee_124 : decode (mc mX2_splitFee) 124 = .ok (.iload 4, 2) := by decide +kernel
theorem dX2_splitFee_126 : decode (mc mX2_splitFee) 126 = .ok (.invokevirtual 83, 3) := by decide +kernel
theorem dX2_splitFee_129 : decode (mc mX2_splitFee) 129 = .ok (.iadd, 1) := by decide +kernel
theorem dX2_splitFee_130 : decode (mc mX2_splitFee) 130 = .ok (.invokestatic 163, 3) := by decide +kernel
theorem dX2_splitFee_133 : decode (mc mX2_splitFee) 133 = .ok (.iload_n 3, 1) := by decide +kernel
theorem dX2_splitFee_134 : decode (mc mX2_splitFee) 134 = .ok (.iload 7, 2) := by decide +kernel
theorem dX2_splitFee_136 : decode (mc mX2_splitFee) 136 = .ok (.isub, 1) := by decide +kernel
theorem dX2_splitFee_137 : decode (mc mX2_splitFee) 137 = .ok (.invokevirtual 63, 3) := by decide +kernel
theorem dX2_splitFee_140 : decode (mc mX2_splitFee) 140 = .ok (.iload 7, 2) := by decide +kernel
theorem dX2_splitFee_142 : decode (mc mX2_splitFee) 142 = .ok (.istore_n 3, 1) := by decide +kernel
theorem dX2_splitFee_143 : decode (mc mX2_splitFee) 143 = .ok (.iload 6, 2) := by decide +kernel
theorem dX2_splitFee_145 : decode (mc mX2_splitFee) 145 = .ok (.istore 4, 2) := by decide +kernel
theorem dX2_splitFee_147 : decode (mc mX2_splitFee) 147 = .ok (.iinc 5 1, 3) := by decide +kernel
theorem dX2_splitFee_150 : decode (mc mX2_splitFee) 150 = .ok (.goto (-76), 3) := by decide +kernel
theorem dX2_splitFee_153 : decode (mc mX2_splitFee) 153 = .ok (.return_, 1) := by decide +kernel
theorem dX2_moveMoney_0 : decode (mc mX2_moveMoney) 0 = .ok (.aload_n 0, 1) := by decide +kernel
theorem dX2_moveMoney_1 : decode (mc mX2_moveMoney) 1 = .ok (.aload_n 0, 1) := by decide +kernel
theorem dX2_moveMoney_2 : decode (mc mX2_moveMoney) 2 = .ok (.iload_n 1, 1) := by decide +kernel
theorem dX2_moveMoney_3 : decode (mc mX2_moveMoney) 3 = .ok (.iconst 0, 1) := by decide +kernel
theorem dX2_moveMoney_4 : decode (mc mX2_moveMoney) 4 = .ok (.invokevirtual 86, 3) := by decide +kernel
theorem dX2_moveMoney_7 : decode (mc mX2_moveMoney) 7 = .ok (.iconst 1, 1) := by decide +kernel
theorem dX2_moveMoney_8 : decode (mc mX2_moveMoney) 8 = .ok (.invokestatic 66, 3) := by decide +kernel
theorem dX2_moveMoney_11 : decode (mc mX2_moveMoney) 11 = .ok (.iload_n 2, 1) := by decide +kernel
theorem dX2_moveMoney_12 : decode (mc mX2_moveMoney) 12 = .ok (.ineg, 1) := by decide +kernel
theorem dX2_moveMoney_13 : decode (mc mX2_moveMoney) 13 = .ok (.aload_n 0, 1) := by decide +kernel
theorem dX2_moveMoney_14 : decode (mc mX2_moveMoney) 14 = .ok (.iload_n 1, 1) := by decide +kernel
theorem dX2_moveMoney_15 : decode (mc mX2_moveMoney) 15 = .ok (.iconst 3, 1) := by decide +kernel
theorem dX2_moveMoney_16 : decode (mc mX2_moveMoney) 16 = .ok (.invokevirtual 86, 3) := by decide +kernel
theorem dX2_moveMoney_19 : decode (mc mX2_moveMoney) 19 = .ok (.imul, 1) := by decide +kernel
theorem dX2_moveMoney_20 : decode (mc mX2_moveMoney) 20 = .ok (.invokevirtual 63, 3) := by decide +kernel
theorem dX2_moveMoney_23 : decode (mc mX2_moveMoney) 23 = .ok (.aload_n 0, 1) := by decide +kernel
theorem dX2_moveMoney_24 : decode (mc mX2_moveMoney) 24 = .ok (.iconst 4, 1) := by decide +kernel
theorem dX2_moveMoney_25 : decode (mc mX2_moveMoney) 25 = .ok (.iload_n 2, 1) := by decide +kernel
theorem dX2_moveMoney_26 : decode (mc mX2_moveMoney) 26 = .ok (.aload_n 0, 1) := by decide +kernel
theorem dX2_moveMoney_27 : decode (mc mX2_moveMoney) 27 = .ok (.iload_n 1, 1) := by decide +kernel
theorem dX2_moveMoney_28 : decode (mc mX2_moveMoney) 28 = .ok (.bipush 6, 2) := by decide +kernel
theorem dX2_moveMoney_30 : decode (mc mX2_moveMoney) 30 = .ok (.invokevirtual 86, 3) := by decide +kernel
theorem dX2_moveMoney_33 : decode (mc mX2_moveMoney) 33 = .ok (.imul, 1) := by decide +kernel
theorem dX2_moveMoney_34 : decode (mc mX2_moveMoney) 34 = .ok (.invokevirtual 63, 3) := by decide +kernel
theorem dX2_moveMoney_37 : decode (mc mX2_moveMoney) 37 = .ok (.iconst 0, 1) := by decide +kernel
theorem dX2_moveMoney_38 : decode (mc mX2_moveMoney) 38 = .ok (.istore_n 3, 1) := by decide +kernel
theorem dX2_moveMoney_39 : decode (mc mX2_moveMoney) 39 = .ok (.iload_n 3, 1) := by decide +kernel
theorem dX2_moveMoney_40 : decode (mc mX2_moveMoney) 40 = .ok (.aload_n 0, 1) := by decide +kernel
theorem dX2_moveMoney_41 : decode (mc mX2_moveMoney) 41 = .ok (.invokevirtual 53, 3) := by decide +kernel
theorem dX2_moveMoney_44 : decode (mc mX2_moveMoney) 44 = .ok (.if_icmp .ge 29, 3) := by decide +kernel
theorem dX2_moveMoney_47 : decode (mc mX2_moveMoney) 47 = .ok (.aload_n 0, 1) := by decide +kernel
theorem dX2_moveMoney_48 : decode (mc mX2_moveMoney) 48 = .ok (.iload_n 3, 1) := by decide +kernel
theorem dX2_moveMoney_49 : decode (mc mX2_moveMoney) 49 = .ok (.iconst 1, 1) := by decide +kernel
theorem dX2_moveMoney_50 : decode (mc mX2_moveMoney) 50 = .ok (.invokestatic 66, 3) := by decide +kernel
theorem dX2_moveMoney_53 : decode (mc mX2_moveMoney) 53 = .ok (.iload_n 2, 1) := by decide +kernel
theorem dX2_moveMoney_54 : decode (mc mX2_moveMoney) 54 = .ok (.aload_n 0, 1) := by decide +kernel
theorem dX2_moveMoney_55 : decode (mc mX2_moveMoney) 55 = .ok (.iload_n 1, 1) := by decide +kernel
theorem dX2_moveMoney_56 : decode (mc mX2_moveMoney) 56 = .ok (.bipush 7, 2) := by decide +kernel
theorem dX2_moveMoney_58 : decode (mc mX2_moveMoney) 58 = .ok (.iload_n 3, 1) := by decide +kernel
theorem dX2_moveMoney_59 : decode (mc mX2_moveMoney) 59 = .ok (.iadd, 1) := by decide +kernel
theorem dX2_moveMoney_60 : decode (mc mX2_moveMoney) 60 = .ok (.invokevirtual 86, 3) := by decide +kernel
theorem dX2_moveMoney_63 : decode (mc mX2_moveMoney) 63 = .ok (.imul, 1) := by decide +kernel
theorem dX2_moveMoney_64 : decode (mc mX2_moveMoney) 64 = .ok (.invokevirtual 63, 3) := by decide +kernel
theorem dX2_moveMoney_67 : decode (mc mX2_moveMoney) 67 = .ok (.iinc 3 1, 3) := by decide +kernel
theorem dX2_moveMoney_70 : decode (mc mX2_moveMoney) 70 = .ok (.goto (-31), 3) := by decide +kernel
theorem dX2_moveMoney_73 : decode (mc mX2_moveMoney) 73 = .ok (.return_, 1) := by decide +kernel
theorem dX2_markEndings_0 : decode (mc mX2_markEndings) 0 = .ok (.iconst 0, 1) := by decide +kernel
theorem dX2_markEndings_1 : decode (mc mX2_markEndings) 1 = .ok (.istore_n 2, 1) := by decide +kernel
theorem dX2_markEndings_2 : decode (mc mX2_markEndings) 2 = .ok (.iload_n 2, 1) := by decide +kernel
theorem dX2_markEndings_3 : decode (mc mX2_markEndings) 3 = .ok (.bipush 20, 2) := by decide +kernel
theorem dX2_markEndings_5 : decode (mc mX2_markEndings) 5 = .ok (.if_icmp .ge 59, 3) := by decide +kernel
theorem dX2_markEndings_8 : decode (mc mX2_markEndings) 8 = .ok (.aload_n 0, 1) := by decide +kernel
theorem dX2_markEndings_9 : decode (mc mX2_markEndings) 9 = .ok (.getfield 15, 3) := by decide +kernel
theorem dX2_markEndings_12 : decode (mc mX2_markEndings) 12 = .ok (.iload_n 2, 1) := by decide +kernel
theorem dX2_markEndings_13 : decode (mc mX2_markEndings) 13 = .ok (.iload_n 2, 1) := by decide +kernel
theorem dX2_markEndings_14 : decode (mc mX2_markEndings) 14 = .ok (.iload_n 1, 1) := by decide +kernel
theorem dX2_markEndings_15 : decode (mc mX2_markEndings) 15 = .ok (.if_icmp .eq 37, 3) := by decide +kernel
theorem dX2_markEndings_18 : decode (mc mX2_markEndings) 18 = .ok (.iload_n 2, 1) := by decide +kernel
theorem dX2_markEndings_19 : decode (mc mX2_markEndings) 19 = .ok (.aload_n 0, 1) := by decide +kernel
theorem dX2_markEndings_20 : decode (mc mX2_markEndings) 20 = .ok (.invokevirtual 57, 3) := by decide +kernel
theorem dX2_markEndings_23 : decode (mc mX2_markEndings) 23 = .ok (.if_icmp .ge 33, 3) := by decide +kernel
theorem dX2_markEndings_26 : decode (mc mX2_markEndings) 26 = .ok (.aload_n 0, 1) := by decide +kernel
theorem dX2_markEndings_27 : decode (mc mX2_markEndings) 27 = .ok (.iload_n 2, 1) := by decide +kernel
theorem dX2_markEndings_28 : decode (mc mX2_markEndings) 28 = .ok (.invokevirtual 180, 3) := by decide +kernel
theorem dX2_markEndings_31 : decode (mc mX2_markEndings) 31 = .ok (.ifCond .eq 25, 3) := by decide +kernel
theorem dX2_markEndings_34 : decode (mc mX2_markEndings) 34 = .ok (.aload_n 0, 1) := by decide +kernel
theorem dX2_markEndings_35 : decode (mc mX2_markEndings) 35 = .ok (.iload_n 2, 1) := by decide +kernel
theorem dX2_markEndings_36 : decode (mc mX2_markEndings) 36 = .ok (.aload_n 0, 1) := by decide +kernel
theorem dX2_markEndings_37 : decode (mc mX2_markEndings) 37 = .ok (.iload_n 2, 1) := by decide +kernel
theorem dX2_markEndings_38 : decode (mc mX2_markEndings) 38 = .ok (.invokevirtual 177, 3) := by decide +kernel
theorem dX2_markEndings_41 : decode (mc mX2_markEndings) 41 = .ok (.invokevirtual 183, 3) := by decide +kernel
theorem dX2_markEndings_44 : decode (mc mX2_markEndings) 44 = .ok (.aload_n 0, 1) := by decide +kernel
theorem dX2_markEndings_45 : decode (mc mX2_markEndings) 45 = .ok (.iconst 4, 1) := by decide +kernel
theorem dX2_markEndings_46 : decode (mc mX2_markEndings) 46 = .ok (.invokevirtual 104, 3) := by decide +kernel
theorem dX2_markEndings_49 : decode (mc mX2_markEndings) 49 = .ok (.if_icmp .lt 7, 3) := by decide +kernel
theorem dX2_markEndings_52 : decode (mc mX2_markEndings) 52 = .ok (.iconst 1, 1) := by decide +kernel
theorem dX2_markEndings_53 : decode (mc mX2_markEndings) 53 = .ok (.goto 4, 3) := by decide +kernel
theorem dX2_markEndings_56 : decode (mc mX2_markEndings) 56 = .ok (.iconst 0, 1) := by decide +kernel
theorem dX2_markEndings_57 : decode (mc mX2_markEndings) 57 = .ok (.bastore, 1) := by decide +kernel
theorem dX2_markEndings_58 : decode (mc mX2_markEndings) 58 = .ok (.iinc 2 1, 3) := by decide +kernel
theorem dX2_markEndings_61 : decode (mc mX2_markEndings) 61 = .ok (.goto (-59), 3) := by decide +kernel
theorem dX2_markEndings_64 : decode (mc mX2_markEndings) 64 = .ok (.return_, 1) := by decide +kernel
theorem dX2_isMarked_0 : decode (mc mX2_isMarked) 0 = .ok (.iload_n 1, 1) := by decide +kernel
theorem dX2_isMarked_1 : decode (mc mX2_isMarked) 1 = .ok (.ifCond .lt 22, 3) := by decide +kernel
theorem dX2_isMarked_4 : decode (mc mX2_isMarked) 4 = .ok (.iload_n 1, 1) := by decide +kernel
theorem dX2_isMarked_5 : decode (mc mX2_isMarked) 5 = .ok (.bipush 20, 2) := by decide +kernel
theorem dX2_isMarked_7 : decode (mc mX2_isMarked) 7 = .ok (.if_icmp .ge 16, 3) := by decide +kernel
theorem dX2_isMarked_10 : decode (mc mX2_isMarked) 10 = .ok (.aload_n 0, 1) := by decide +kernel
theorem dX2_isMarked_11 : decode (mc mX2_isMarked) 11 = .ok (.getfield 15, 3) := by decide +kernel
theorem dX2_isMarked_14 : decode (mc mX2_isMarked) 14 = .ok (.iload_n 1, 1) := by decide +kernel
theorem dX2_isMarked_15 : decode (mc mX2_isMarked) 15 = .ok (.baload, 1) := by decide +kernel
theorem dX2_isMarked_16 : decode (mc mX2_isMarked) 16 = .ok (.ifCond .eq 7, 3) := by decide +kernel
theorem dX2_isMarked_19 : decode (mc mX2_isMarked) 19 = .ok (.iconst 1, 1) := by decide +kernel
theorem dX2_isMarked_20 : decode (mc mX2_isMarked) 20 = .ok (.goto 4, 3) := by decide +kernel
theorem dX2_isMarked_23 : decode (mc mX2_isMarked) 23 = .ok (.iconst 0, 1) := by decide +kernel
theorem dX2_isMarked_24 : decode (mc mX2_isMarked) 24 = .ok (.ireturn, 1) := by decide +kernel
theorem dX2_hasMarkedParent_0 : decode (mc mX2_hasMarkedParent) 0 = .ok (.aload_n 0, 1) := by decide +kernel
theorem dX2_hasMarkedParent_1 : decode (mc mX2_hasMarkedParent) 1 = .ok (.iload_n 1, 1) := by decide +kernel
theorem dX2_hasMarkedParent_2 : decode (mc mX2_hasMarkedParent) 2 = .ok (.invokevirtual 79, 3) := by decide +kernel
theorem dX2_hasMarkedParent_5 : decode (mc mX2_hasMarkedParent) 5 = .ok (.ifCond .eq 19, 3) := by decide +kernel
theorem dX2_hasMarkedParent_8 : decode (mc mX2_hasMarkedParent) 8 = .ok (.aload_n 0, 1) := by decide +kernel
theorem dX2_hasMarkedParent_9 : decode (mc mX2_hasMarkedParent) 9 = .ok (.aload_n 0, 1) := by decide +kernel
theorem dX2_hasMarkedParent_10 : decode (mc mX2_hasMarkedParent) 10 = .ok (.iload_n 1, 1) := by decide +kernel
theorem dX2_hasMarkedParent_11 : decode (mc mX2_hasMarkedParent) 11 = .ok (.invokevirtual 177, 3) := by decide +kernel
theorem dX2_hasMarkedParent_14 : decode (mc mX2_hasMarkedParent) 14 = .ok (.invokevirtual 186, 3) := by decide +kernel
theorem dX2_hasMarkedParent_17 : decode (mc mX2_hasMarkedParent) 17 = .ok (.ifCond .eq 7, 3) := by decide +kernel
theorem dX2_hasMarkedParent_20 : decode (mc mX2_hasMarkedParent) 20 = .ok (.iconst 1, 1) := by decide +kernel
theorem dX2_hasMarkedParent_21 : decode (mc mX2_hasMarkedParent) 21 = .ok (.goto 4, 3) := by decide +kernel
theorem dX2_hasMarkedParent_24 : decode (mc mX2_hasMarkedParent) 24 = .ok (.iconst 0, 1) := by decide +kernel
theorem dX2_hasMarkedParent_25 : decode (mc mX2_hasMarkedParent) 25 = .ok (.ireturn, 1) := by decide +kernel
theorem dX2_endMarked_0 : decode (mc mX2_endMarked) 0 = .ok (.iconst 0, 1) := by decide +kernel
theorem dX2_endMarked_1 : decode (mc mX2_endMarked) 1 = .ok (.istore_n 1, 1) := by decide +kernel
theorem dX2_endMarked_2 : decode (mc mX2_endMarked) 2 = .ok (.iconst 0, 1) := by decide +kernel
theorem dX2_endMarked_3 : decode (mc mX2_endMarked) 3 = .ok (.istore_n 2, 1) := by decide +kernel
theorem dX2_endMarked_4 : decode (mc mX2_endMarked) 4 = .ok (.iload_n 2, 1) := by decide +kernel
theorem dX2_endMarked_5 : decode (mc mX2_endMarked) 5 = .ok (.aload_n 0, 1) := by decide +kernel
theorem dX2_endMarked_6 : decode (mc mX2_endMarked) 6 = .ok (.invokevirtual 57, 3) := by decide +kernel
theorem dX2_endMarked_9 : decode (mc mX2_endMarked) 9 = .ok (.if_icmp .ge 52, 3) := by decide +kernel
theorem dX2_endMarked_12 : decode (mc mX2_endMarked) 12 = .ok (.aload_n 0, 1) := by decide +kernel
theorem dX2_endMarked_13 : decode (mc mX2_endMarked) 13 = .ok (.iload_n 2, 1) := by decide +kernel
theorem dX2_endMarked_14 : decode (mc mX2_endMarked) 14 = .ok (.invokevirtual 186, 3) := by decide +kernel
theorem dX2_endMarked_17 : decode (mc mX2_endMarked) 17 = .ok (.ifCond .eq 19, 3) := by decide +kernel
theorem dX2_endMarked_20 : decode (mc mX2_endMarked) 20 = .ok (.aload_n 0, 1) := by decide +kernel
theorem dX2_endMarked_21 : decode (mc mX2_endMarked) 21 = .ok (.iload_n 2, 1) := by decide +kernel
theorem dX2_endMarked_22 : decode (mc mX2_endMarked) 22 = .ok (.iconst 4, 1) := by decide +kernel
theorem dX2_endMarked_23 : decode (mc mX2_endMarked) 23 = .ok (.invokestatic 110, 3) := by decide +kernel
theorem dX2_endMarked_26 : decode (mc mX2_endMarked) 26 = .ok (.iconst 0, 1) := by decide +kernel
theorem dX2_endMarked_27 : decode (mc mX2_endMarked) 27 = .ok (.invokevirtual 49, 3) := by decide +kernel
theorem dX2_endMarked_30 : decode (mc mX2_endMarked) 30 = .ok (.iinc 1 1, 3) := by decide +kernel
theorem dX2_endMarked_33 : decode (mc mX2_endMarked) 33 = .ok (.goto 22, 3) := by decide +kernel
theorem dX2_endMarked_36 : decode (mc mX2_endMarked) 36 = .ok (.aload_n 0, 1) := by decide +kernel
theorem dX2_endMarked_37 : decode (mc mX2_endMarked) 37 = .ok (.iload_n 2, 1) := by decide +kernel
theorem dX2_endMarked_38 : decode (mc mX2_endMarked) 38 = .ok (.invokevirtual 180, 3) := by decide +kernel
theorem dX2_endMarked_41 : decode (mc mX2_endMarked) 41 = .ok (.ifCond .eq 14, 3) := by decide +kernel
theorem dX2_endMarked_44 : decode (mc mX2_endMarked) 44 = .ok (.aload_n 0, 1) := by decide +kernel
theorem dX2_endMarked_45 : decode (mc mX2_endMarked) 45 = .ok (.iload_n 2, 1) := by decide +kernel
theorem dX2_endMarked_46 : decode (mc mX2_endMarked) 46 = .ok (.iconst 3, 1) := by decide +kernel
theorem dX2_endMarked_47 : decode (mc mX2_endMarked) 47 = .ok (.invokestatic 110, 3) := by decide +kernel
theorem dX2_endMarked_50 : decode (mc mX2_endMarked) 50 = .ok (.ldc 176, 2) := by decide +kernel
theorem dX2_endMarked_52 : decode (mc mX2_endMarked) 52 = .ok (.invokevirtual 49, 3) := by decide +kernel
theorem dX2_endMarked_55 : decode (mc mX2_endMarked) 55 = .ok (.iinc 2 1, 3) := by decide +kernel
theorem dX2_endMarked_58 : decode (mc mX2_endMarked) 58 = .ok (.goto (-54), 3) := by decide +kernel
theorem dX2_endMarked_61 : decode (mc mX2_endMarked) 61 = .ok (.iload_n 1, 1) := by decide +kernel
theorem dX2_endMarked_62 : decode (mc mX2_endMarked) 62 = .ok (.ireturn, 1) := by decide +kernel
theorem dX2_isOwed_0 : decode (mc mX2_isOwed) 0 = .ok (.aload_n 0, 1) := by decide +kernel
theorem dX2_isOwed_1 : decode (mc mX2_isOwed) 1 = .ok (.iload_n 1, 1) := by decide +kernel
theorem dX2_isOwed_2 : decode (mc mX2_isOwed) 2 = .ok (.invokevirtual 89, 3) := by decide +kernel
theorem dX2_isOwed_5 : decode (mc mX2_isOwed) 5 = .ok (.ifCond .ne 39, 3) := by decide +kernel
theorem dX2_isOwed_8 : decode (mc mX2_isOwed) 8 = .ok (.aload_n 0, 1) := by decide +kernel
theorem dX2_isOwed_9 : decode (mc mX2_isOwed) 9 = .ok (.aload_n 0, 1) := by decide +kernel
theorem dX2_isOwed_10 : decode (mc mX2_isOwed) 10 = .ok (.iload_n 1, 1) := by decide +kernel
theorem dX2_isOwed_11 : decode (mc mX2_isOwed) 11 = .ok (.iconst 1, 1) := by decide +kernel
theorem dX2_isOwed_12 : decode (mc mX2_isOwed) 12 = .ok (.invokevirtual 86, 3) := by decide +kernel
theorem dX2_isOwed_15 : decode (mc mX2_isOwed) 15 = .ok (.invokevirtual 186, 3) := by decide +kernel
theorem dX2_isOwed_18 : decode (mc mX2_isOwed) 18 = .ok (.ifCond .eq 26, 3) := by decide +kernel
theorem dX2_isOwed_21 : decode (mc mX2_isOwed) 21 = .ok (.aload_n 0, 1) := by decide +kernel
theorem dX2_isOwed_22 : decode (mc mX2_isOwed) 22 = .ok (.iload_n 1, 1) := by decide +kernel
theorem dX2_isOwed_23 : decode (mc mX2_isOwed) 23 = .ok (.iconst 4, 1) := by decide +kernel
theorem dX2_isOwed_24 : decode (mc mX2_isOwed) 24 = .ok (.invokevirtual 86, 3) := by decide +kernel
theorem dX2_isOwed_27 : decode (mc mX2_isOwed) 27 = .ok (.aload_n 0, 1) := by decide +kernel
theorem dX2_isOwed_28 : decode (mc mX2_isOwed) 28 = .ok (.invokevirtual 98, 3) := by decide +kernel
theorem dX2_isOwed_31 : decode (mc mX2_isOwed) 31 = .ok (.aload_n 0, 1) := by decide +kernel
theorem dX2_isOwed_32 : decode (mc mX2_isOwed) 32 = .ok (.iconst 3, 1) := by decide +kernel
theorem dX2_isOwed_33 : decode (mc mX2_isOwed) 33 = .ok (.invokevirtual 104, 3) := by decide +kernel
theorem dX2_isOwed_36 : decode (mc mX2_isOwed) 36 = .ok (.isub, 1) := by decide +kernel
theorem dX2_isOwed_37 : decode (mc mX2_isOwed) 37 = .ok (.if_icmp .lt 7, 3) := by decide +kernel
theorem dX2_isOwed_40 : decode (mc mX2_isOwed) 40 = .ok (.iconst 1, 1) := by decide +kernel
theorem dX2_isOwed_41 : decode (mc mX2_isOwed) 41 = .ok (.goto 4, 3) := by decide +kernel
theorem dX2_isOwed_44 : decode (mc mX2_isOwed) 44 = .ok (.iconst 0, 1) := by decide +kernel
theorem dX2_isOwed_45 : decode (mc mX2_isOwed) 45 = .ok (.ireturn, 1) := by decide +kernel
theorem dX2_owedForMarked_0 : decode (mc mX2_owedForMarked) 0 = .ok (.iconst 0, 1) := by decide +kernel
theorem dX2_owedForMarked_1 : decode (mc mX2_owedForMarked) 1 = .ok (.istore_n 1, 1) := by decide +kernel
theorem dX2_owedForMarked_2 : decode (mc mX2_owedForMarked) 2 = .ok (.iconst 0, 1) := by decide +kernel
theorem dX2_owedForMarked_3 : decode (mc mX2_owedForMarked) 3 = .ok (.istore_n 2, 1) := by decide +kernel
theorem dX2_owedForMarked_4 : decode (mc mX2_owedForMarked) 4 = .ok (.iload_n 2, 1) := by decide +kernel
theorem dX2_owedForMarked_5 : decode (mc mX2_owedForMarked) 5 = .ok (.aload_n 0, 1) := by decide +kernel
theorem dX2_owedForMarked_6 : decode (mc mX2_owedForMarked) 6 = .ok (.invokevirtual 60, 3) := by decide +kernel
theorem dX2_owedForMarked_9 : decode (mc mX2_owedForMarked) 9 = .ok (.if_icmp .ge 26, 3) := by decide +kernel
theorem dX2_owedForMarked_12 : decode (mc mX2_owedForMarked) 12 = .ok (.aload_n 0, 1) := by decide +kernel
theorem dX2_owedForMarked_13 : decode (mc mX2_owedForMarked) 13 = .ok (.iload_n 2, 1) := by decide +kernel
theorem dX2_owedForMarked_14 : decode (mc mX2_owedForMarked) 14 = .ok (.invokevirtual 189, 3) := by decide +kernel
theorem dX2_owedForMarked_17 : decode (mc mX2_owedForMarked) 17 = .ok (.ifCond .eq 12, 3) := by decide +kernel
theorem dX2_owedForMarked_20 : decode (mc mX2_owedForMarked) 20 = .ok (.iload_n 1, 1) := by decide +kernel
theorem dX2_owedForMarked_21 : decode (mc mX2_owedForMarked) 21 = .ok (.aload_n 0, 1) := by decide +kernel
theorem dX2_owedForMarked_22 : decode (mc mX2_owedForMarked) 22 = .ok (.iload_n 2, 1) := by decide +kernel
theorem dX2_owedForMarked_23 : decode (mc mX2_owedForMarked) 23 = .ok (.iconst 3, 1) := by decide +kernel
theorem dX2_owedForMarked_24 : decode (mc mX2_owedForMarked) 24 = .ok (.invokevirtual 86, 3) := by decide +kernel
theorem dX2_owedForMarked_27 : decode (mc mX2_owedForMarked) 27 = .ok (.iadd, 1) := by decide +kernel
theorem dX2_owedForMarked_28 : decode (mc mX2_owedForMarked) 28 = .ok (.istore_n 1, 1) := by decide +kernel
theorem dX2_owedForMarked_29 : decode (mc mX2_owedForMarked) 29 = .ok (.iinc 2 1, 3) := by decide +kernel
theorem dX2_owedForMarked_32 : decode (mc mX2_owedForMarked) 32 = .ok (.goto (-28), 3) := by decide +kernel
theorem dX2_owedForMarked_35 : decode (mc mX2_owedForMarked) 35 = .ok (.iload_n 1, 1) := by decide +kernel
theorem dX2_owedForMarked_36 : decode (mc mX2_owedForMarked) 36 = .ok (.ireturn, 1) := by decide +kernel
theorem dX2_payBackMarked_0 : decode (mc mX2_payBackMarked) 0 = .ok (.iconst 0, 1) := by decide +kernel
theorem dX2_payBackMarked_1 : decode (mc mX2_payBackMarked) 1 = .ok (.istore_n 1, 1) := by decide +kernel
theorem dX2_payBackMarked_2 : decode (mc mX2_payBackMarked) 2 = .ok (.iload_n 1, 1) := by decide +kernel
theorem dX2_payBackMarked_3 : decode (mc mX2_payBackMarked) 3 = .ok (.aload_n 0, 1) := by decide +kernel
theorem dX2_payBackMarked_4 : decode (mc mX2_payBackMarked) 4 = .ok (.invokevirtual 60, 3) := by decide +kernel
theorem dX2_payBackMarked_7 : decode (mc mX2_payBackMarked) 7 = .ok (.if_icmp .ge 33, 3) := by decide +kernel
theorem dX2_payBackMarked_10 : decode (mc mX2_payBackMarked) 10 = .ok (.aload_n 0, 1) := by decide +kernel
theorem dX2_payBackMarked_11 : decode (mc mX2_payBackMarked) 11 = .ok (.iload_n 1, 1) := by decide +kernel
theorem dX2_payBackMarked_12 : decode (mc mX2_payBackMarked) 12 = .ok (.invokevirtual 189, 3) := by decide +kernel
theorem dX2_payBackMarked_15 : decode (mc mX2_payBackMarked) 15 = .ok (.ifCond .eq 19, 3) := by decide +kernel
theorem dX2_payBackMarked_18 : decode (mc mX2_payBackMarked) 18 = .ok (.aload_n 0, 1) := by decide +kernel
theorem dX2_payBackMarked_19 : decode (mc mX2_payBackMarked) 19 = .ok (.iload_n 1, 1) := by decide +kernel
theorem dX2_payBackMarked_20 : decode (mc mX2_payBackMarked) 20 = .ok (.iconst (-1), 1) := by decide +kernel
theorem dX2_payBackMarked_21 : decode (mc mX2_payBackMarked) 21 = .ok (.invokevirtual 173, 3) := by decide +kernel
theorem dX2_payBackMarked_24 : decode (mc mX2_payBackMarked) 24 = .ok (.aload_n 0, 1) := by decide +kernel
theorem dX2_payBackMarked_25 : decode (mc mX2_payBackMarked) 25 = .ok (.iload_n 1, 1) := by decide +kernel
theorem dX2_payBackMarked_26 : decode (mc mX2_payBackMarked) 26 = .ok (.iconst 5, 1) := by decide +kernel
theorem dX2_payBackMarked_27 : decode (mc mX2_payBackMarked) 27 = .ok (.invokestatic 163, 3) := by decide +kernel
theorem dX2_payBackMarked_30 : decode (mc mX2_payBackMarked) 30 = .ok (.iconst 1, 1) := by decide +kernel
theorem dX2_payBackMarked_31 : decode (mc mX2_payBackMarked) 31 = .ok (.invokevirtual 49, 3) := by decide +kernel
theorem dX2_payBackMarked_34 : decode (mc mX2_payBackMarked) 34 = .ok (.iinc 1 1, 3) := by decide +kernel
theorem dX2_payBackMarked_37 : decode (mc mX2_payBackMarked) 37 = .ok (.goto (-35), 3) := by decide +kernel
theorem dX2_payBackMarked_40 : decode (mc mX2_payBackMarked) 40 = .ok (.return_, 1) := by decide +kernel
theorem dX3_init_0 : decode (mc mX3_init) 0 = .ok (.aload_n 0, 1) := by decide +kernel
theorem dX3_init_1 : decode (mc mX3_init) 1 = .ok (.invokespecial 3, 3) := by decide +kernel
theorem dX3_init_4 : decode (mc mX3_init) 4 = .ok (.aload_n 0, 1) := by decide +kernel
theorem dX3_init_5 : decode (mc mX3_init) 5 = .ok (.bipush 40, 2) := by decide +kernel
theorem dX3_init_7 : decode (mc mX3_init) 7 = .ok (.newarray .int, 2) := by decide +kernel
theorem dX3_init_9 : decode (mc mX3_init) 9 = .ok (.putfield 9, 3) := by decide +kernel
theorem dX3_init_12 : decode (mc mX3_init) 12 = .ok (.return_, 1) := by decide +kernel
theorem dX3_isLetter_0 : decode (mc mX3_isLetter) 0 = .ok (.iload_n 0, 1) := by decide +kernel
theorem dX3_isLetter_1 : decode (mc mX3_isLetter) 1 = .ok (.bipush 97, 2) := by decide +kernel
theorem dX3_isLetter_3 : decode (mc mX3_isLetter) 3 = .ok (.if_icmp .lt 13, 3) := by decide +kernel
theorem dX3_isLetter_6 : decode (mc mX3_isLetter) 6 = .ok (.iload_n 0, 1) := by decide +kernel
theorem dX3_isLetter_7 : decode (mc mX3_isLetter) 7 = .ok (.bipush 122, 2) := by decide +kernel
theorem dX3_isLetter_9 : decode (mc mX3_isLetter) 9 = .ok (.if_icmp .gt 7, 3) := by decide +kernel
theorem dX3_isLetter_12 : decode (mc mX3_isLetter) 12 = .ok (.iconst 1, 1) := by decide +kernel
theorem dX3_isLetter_13 : decode (mc mX3_isLetter) 13 = .ok (.goto 4, 3) := by decide +kernel
theorem dX3_isLetter_16 : decode (mc mX3_isLetter) 16 = .ok (.iconst 0, 1) := by decide +kernel
theorem dX3_isLetter_17 : decode (mc mX3_isLetter) 17 = .ok (.ireturn, 1) := by decide +kernel
theorem dX3_append_0 : decode (mc mX3_append) 0 = .ok (.aload_n 0, 1) := by decide +kernel
theorem dX3_append_1 : decode (mc mX3_append) 1 = .ok (.getfield 15, 3) := by decide +kernel
theorem dX3_append_4 : decode (mc mX3_append) 4 = .ok (.bipush 40, 2) := by decide +kernel
theorem dX3_append_6 : decode (mc mX3_append) 6 = .ok (.if_icmp .ge 23, 3) := by decide +kernel
theorem dX3_append_9 : decode (mc mX3_append) 9 = .ok (.aload_n 0, 1) := by decide +kernel
theorem dX3_append_10 : decode (mc mX3_append) 10 = .ok (.getfield 9, 3) := by decide +kernel
theorem dX3_append_13 : decode (mc mX3_append) 13 = .ok (.aload_n 0, 1) := by decide +kernel
theorem dX3_append_14 : decode (mc mX3_append) 14 = .ok (.getfield 15, 3) := by decide +kernel
theorem dX3_append_17 : decode (mc mX3_append) 17 = .ok (.iload_n 1, 1) := by decide +kernel
theorem dX3_append_18 : decode (mc mX3_append) 18 = .ok (.iastore, 1) := by decide +kernel
theorem dX3_append_19 : decode (mc mX3_append) 19 = .ok (.aload_n 0, 1) := by decide +kernel
theorem dX3_append_20 : decode (mc mX3_append) 20 = .ok (.dup, 1) := by decide +kernel
theorem dX3_append_21 : decode (mc mX3_append) 21 = .ok (.getfield 15, 3) := by decide +kernel
theorem dX3_append_24 : decode (mc mX3_append) 24 = .ok (.iconst 1, 1) := by decide +kernel
theorem dX3_append_25 : decode (mc mX3_append) 25 = .ok (.iadd, 1) := by decide +kernel
theorem dX3_append_26 : decode (mc mX3_append) 26 = .ok (.putfield 15, 3) := by decide +kernel
theorem dX3_append_29 : decode (mc mX3_append) 29 = .ok (.aload_n 0, 1) := by decide +kernel
theorem dX3_append_30 : decode (mc mX3_append) 30 = .ok (.getfield 15, 3) := by decide +kernel
theorem dX3_append_33 : decode (mc mX3_append) 33 = .ok (.ireturn, 1) := by decide +kernel
theorem dX3_empty_0 : decode (mc mX3_empty) 0 = .ok (.aload_n 0, 1) := by decide +kernel
theorem dX3_empty_1 : decode (mc mX3_empty) 1 = .ok (.getfield 15, 3) := by decide +kernel
theorem dX3_empty_4 : decode (mc mX3_empty) 4 = .ok (.istore_n 1, 1) := by decide +kernel
theorem dX3_empty_5 : decode (mc mX3_empty) 5 = .ok (.aload_n 0, 1) := by decide +kernel
theorem dX3_empty_6 : decode (mc mX3_empty) 6 = .ok (.iconst 0, 1) := by decide +kernel
theorem dX3_empty_7 : decode (mc mX3_empty) 7 = .ok (.putfield 15, 3) := by decide +kernel
theorem dX3_empty_10 : decode (mc mX3_empty) 10 = .ok (.iload_n 1, 1) := by decide +kernel
theorem dX3_empty_11 : decode (mc mX3_empty) 11 = .ok (.ireturn, 1) := by decide +kernel
theorem dX3_fault_0 : decode (mc mX3_fault) 0 = .ok (.iconst 0, 1) := by decide +kernel
theorem dX3_fault_1 : decode (mc mX3_fault) 1 = .ok (.istore_n 1, 1) := by decide +kernel
theorem dX3_fault_2 : decode (mc mX3_fault) 2 = .ok (.iconst 0, 1) := by decide +kernel
theorem dX3_fault_3 : decode (mc mX3_fault) 3 = .ok (.istore_n 2, 1) := by decide +kernel
theorem dX3_fault_4 : decode (mc mX3_fault) 4 = .ok (.iload_n 2, 1) := by decide +kernel
theorem dX3_fault_5 : decode (mc mX3_fault) 5 = .ok (.aload_n 0, 1) := by decide +kernel
theorem dX3_fault_6 : decode (mc mX3_fault) 6 = .ok (.getfield 15, 3) := by decide +kernel
theorem dX3_fault_9 : decode (mc mX3_fault) 9 = .ok (.if_icmp .ge 46, 3) := by decide +kernel
theorem dX3_fault_12 : decode (mc mX3_fault) 12 = .ok (.aload_n 0, 1) := by decide +kernel
theorem dX3_fault_13 : decode (mc mX3_fault) 13 = .ok (.getfield 9, 3) := by decide +kernel
theorem dX3_fault_16 : decode (mc mX3_fault) 16 = .ok (.iload_n 2, 1) := by decide +kernel
theorem dX3_fault_17 : decode (mc mX3_fault) 17 = .ok (.iaload, 1) := by decide +kernel
theorem dX3_fault_18 : decode (mc mX3_fault) 18 = .ok (.invokestatic 19, 3) := by decide +kernel
theorem dX3_fault_21 : decode (mc mX3_fault) 21 = .ok (.ifCond .eq 15, 3) := by decide +kernel
theorem dX3_fault_24 : decode (mc mX3_fault) 24 = .ok (.iload_n 1, 1) := by decide +kernel
theorem dX3_fault_25 : decode (mc mX3_fault) 25 = .ok (.bipush 10, 2) := by decide +kernel
theorem dX3_fault_27 : decode (mc mX3_fault) 27 = .ok (.if_icmp .ge 9, 3) := by decide +kernel
theorem dX3_fault_30 : decode (mc mX3_fault) 30 = .ok (.iinc 1 1, 3) := by decide +kernel
theorem dX3_fault_33 : decode (mc mX3_fault) 33 = .ok (.goto 16, 3) := by decide +kernel
theorem dX3_fault_36 : decode (mc mX3_fault) 36 = .ok (.aload_n 0, 1) := by decide +kernel
theorem dX3_fault_37 : decode (mc mX3_fault) 37 = .ok (.getfield 9, 3) := by decide +kernel
theorem dX3_fault_40 : decode (mc mX3_fault) 40 = .ok (.iload_n 2, 1) := by decide +kernel
theorem dX3_fault_41 : decode (mc mX3_fault) 41 = .ok (.iaload, 1) := by decide +kernel
theorem dX3_fault_42 : decode (mc mX3_fault) 42 = .ok (.bipush 32, 2) := by decide +kernel
theorem dX3_fault_44 : decode (mc mX3_fault) 44 = .ok (.if_icmp .eq 5, 3) := by decide +kernel
theorem dX3_fault_47 : decode (mc mX3_fault) 47 = .ok (.iload_n 2, 1) := by decide +kernel
theorem dX3_fault_48 : decode (mc mX3_fault) 48 = .ok (.ireturn, 1) := by decide +kernel
theorem dX3_fault_49 : decode (mc mX3_fault) 49 = .ok (.iinc 2 1, 3) := by decide +kernel
theorem dX3_fault_52 : decode (mc mX3_fault) 52 = .ok (.goto (-48), 3) := by decide +kernel
theorem dX3_fault_55 : decode (mc mX3_fault) 55 = .ok (.iload_n 1, 1) := by decide +kernel
theorem dX3_fault_56 : decode (mc mX3_fault) 56 = .ok (.ifCond .ne 10, 3) := by decide +kernel
theorem dX3_fault_59 : decode (mc mX3_fault) 59 = .ok (.aload_n 0, 1) := by decide +kernel
theorem dX3_fault_60 : decode (mc mX3_fault) 60 = .ok (.getfield 15, 3) := by decide +kernel
theorem dX3_fault_63 : decode (mc mX3_fault) 63 = .ok (.goto 5, 3) := by decide +kernel
theorem dX3_fault_66 : decode (mc mX3_fault) 66 = .ok (.ldc 23, 2) := by decide +kernel
theorem dX3_fault_68 : decode (mc mX3_fault) 68 = .ok (.ireturn, 1) := by decide +kernel
theorem dX3_isFaulty_0 : decode (mc mX3_isFaulty) 0 = .ok (.aload_n 0, 1) := by decide +kernel
theorem dX3_isFaulty_1 : decode (mc mX3_isFaulty) 1 = .ok (.invokevirtual 24, 3) := by decide +kernel
theorem dX3_isFaulty_4 : decode (mc mX3_isFaulty) 4 = .ok (.ldc 23, 2) := by decide +kernel
theorem dX3_isFaulty_6 : decode (mc mX3_isFaulty) 6 = .ok (.if_icmp .eq 7, 3) := by decide +kernel
theorem dX3_isFaulty_9 : decode (mc mX3_isFaulty) 9 = .ok (.iconst 1, 1) := by decide +kernel
theorem dX3_isFaulty_10 : decode (mc mX3_isFaulty) 10 = .ok (.goto 4, 3) := by decide +kernel
theorem dX3_isFaulty_13 : decode (mc mX3_isFaulty) 13 = .ok (.iconst 0, 1) := by decide +kernel
theorem dX3_isFaulty_14 : decode (mc mX3_isFaulty) 14 = .ok (.ireturn, 1) := by decide +kernel
theorem dX3_readInto_0 : decode (mc mX3_readInto) 0 = .ok (.aload_n 1, 1) := by decide +kernel
theorem dX3_readInto_1 : decode (mc mX3_readInto) 1 = .ok (.invokevirtual 28, 3) := by decide +kernel
theorem dX3_readInto_4 : decode (mc mX3_readInto) 4 = .ok (.iconst 0, 1) := by decide +kernel
theorem dX3_readInto_5 : decode (mc mX3_readInto) 5 = .ok (.istore_n 2, 1) := by decide +kernel
theorem dX3_readInto_6 : decode (mc mX3_readInto) 6 = .ok (.iload_n 2, 1) := by decide +kernel
theorem dX3_readInto_7 : decode (mc mX3_readInto) 7 = .ok (.aload_n 0, 1) := by decide +kernel
theorem dX3_readInto_8 : decode (mc mX3_readInto) 8 = .ok (.getfield 15, 3) := by decide +kernel
theorem dX3_readInto_11 : decode (mc mX3_readInto) 11 = .ok (.if_icmp .ge 34, 3) := by decide +kernel
theorem dX3_readInto_14 : decode (mc mX3_readInto) 14 = .ok (.aload_n 0, 1) := by decide +kernel
theorem dX3_readInto_15 : decode (mc mX3_readInto) 15 = .ok (.getfield 9, 3) := by decide +kernel
theorem dX3_readInto_18 : decode (mc mX3_readInto) 18 = .ok (.iload_n 2, 1) := by decide +kernel
theorem dX3_readInto_19 : decode (mc mX3_readInto) 19 = .ok (.iaload, 1) := by decide +kernel
theorem dX3_readInto_20 : decode (mc mX3_readInto) 20 = .ok (.invokestatic 19, 3) := by decide +kernel
theorem dX3_readInto_23 : decode (mc mX3_readInto) 23 = .ok (.ifCond .eq 16, 3) := by decide +kernel
theorem dX3_readInto_26 : decode (mc mX3_readInto) 26 = .ok (.aload_n 1, 1) := by decide +kernel
theorem dX3_readInto_27 : decode (mc mX3_readInto) 27 = .ok (.aload_n 0, 1) := by decide +kernel
theorem dX3_readInto_28 : decode (mc mX3_readInto) 28 = .ok (.getfield 9, 3) := by decide +kernel
theorem dX3_readInto_31 : decode (mc mX3_readInto) 31 = .ok (.iload_n 2, 1) := by decide +kernel
theorem dX3_readInto_32 : decode (mc mX3_readInto) 32 = .ok (.iaload, 1) := by decide +kernel
theorem dX3_readInto_33 : decode (mc mX3_readInto) 33 = .ok (.bipush 97, 2) := by decide +kernel
theorem dX3_readInto_35 : decode (mc mX3_readInto) 35 = .ok (.isub, 1) := by decide +kernel
theorem dX3_readInto_36 : decode (mc mX3_readInto) 36 = .ok (.invokevirtual 33, 3) := by decide +kernel
theorem dX3_readInto_39 : decode (mc mX3_readInto) 39 = .ok (.iinc 2 1, 3) := by decide +kernel
theorem dX3_readInto_42 : decode (mc mX3_readInto) 42 = .ok (.goto (-36), 3) := by decide +kernel
theorem dX3_readInto_45 : decode (mc mX3_readInto) 45 = .ok (.return_, 1) := by decide +kernel
theorem dX4_init_0 : decode (mc mX4_init) 0 = .ok (.aload_n 0, 1) := by decide +kernel
theorem dX4_init_1 : decode (mc mX4_init) 1 = .ok (.invokespecial 3, 3) := by decide +kernel
theorem dX4_init_4 : decode (mc mX4_init) 4 = .ok (.aload_n 0, 1) := by decide +kernel
theorem dX4_init_5 : decode (mc mX4_init) 5 = .ok (.bipush 11, 2) := by decide +kernel
theorem dX4_init_7 : decode (mc mX4_init) 7 = .ok (.newarray .int, 2) := by decide +kernel
theorem dX4_init_9 : decode (mc mX4_init) 9 = .ok (.putfield 9, 3) := by decide +kernel
theorem dX4_init_12 : decode (mc mX4_init) 12 = .ok (.aload_n 0, 1) := by decide +kernel
theorem dX4_init_13 : decode (mc mX4_init) 13 = .ok (.bipush 11, 2) := by decide +kernel
theorem dX4_init_15 : decode (mc mX4_init) 15 = .ok (.newarray .int, 2) := by decide +kernel
theorem dX4_init_17 : decode (mc mX4_init) 17 = .ok (.putfield 15, 3) := by decide +kernel
theorem dX4_init_20 : decode (mc mX4_init) 20 = .ok (.aload_n 0, 1) := by decide +kernel
theorem dX4_init_21 : decode (mc mX4_init) 21 = .ok (.bipush 11, 2) := by decide +kernel
theorem dX4_init_23 : decode (mc mX4_init) 23 = .ok (.newarray .int, 2) := by decide +kernel
theorem dX4_init_25 : decode (mc mX4_init) 25 = .ok (.putfield 18, 3) := by decide +kernel
theorem dX4_init_28 : decode (mc mX4_init) 28 = .ok (.aload_n 0, 1) := by decide +kernel
theorem dX4_init_29 : decode (mc mX4_init) 29 = .ok (.bipush 11, 2) := by decide +kernel
theorem dX4_init_31 : decode (mc mX4_init) 31 = .ok (.newarray .int, 2) := by decide +kernel
theorem dX4_init_33 : decode (mc mX4_init) 33 = .ok (.putfield 21, 3) := by decide +kernel
theorem dX4_init_36 : decode (mc mX4_init) 36 = .ok (.return_, 1) := by decide +kernel
theorem dX4_start_0 : decode (mc mX4_start) 0 = .ok (.aload_n 0, 1) := by decide +kernel
theorem dX4_start_1 : decode (mc mX4_start) 1 = .ok (.iconst 0, 1) := by decide +kernel
theorem dX4_start_2 : decode (mc mX4_start) 2 = .ok (.iload_n 1, 1) := by decide +kernel
theorem dX4_start_3 : decode (mc mX4_start) 3 = .ok (.bipush 10, 2) := by decide +kernel
theorem dX4_start_5 : decode (mc mX4_start) 5 = .ok (.invokestatic 24, 3) := by decide +kernel
theorem dX4_start_8 : decode (mc mX4_start) 8 = .ok (.invokestatic 30, 3) := by decide +kernel
theorem dX4_start_11 : decode (mc mX4_start) 11 = .ok (.putfield 33, 3) := by decide +kernel
theorem dX4_start_14 : decode (mc mX4_start) 14 = .ok (.aload_n 0, 1) := by decide +kernel
theorem dX4_start_15 : decode (mc mX4_start) 15 = .ok (.aload_n 0, 1) := by decide +kernel
theorem dX4_start_16 : decode (mc mX4_start) 16 = .ok (.getfield 33, 3) := by decide +kernel
theorem dX4_start_19 : decode (mc mX4_start) 19 = .ok (.invokevirtual 37, 3) := by decide +kernel
theorem dX4_start_22 : decode (mc mX4_start) 22 = .ok (.aload_n 0, 1) := by decide +kernel
theorem dX4_start_23 : decode (mc mX4_start) 23 = .ok (.getfield 9, 3) := by decide +kernel
theorem dX4_start_26 : decode (mc mX4_start) 26 = .ok (.aload_n 0, 1) := by decide +kernel
theorem dX4_start_27 : decode (mc mX4_start) 27 = .ok (.getfield 33, 3) := by decide +kernel
theorem dX4_start_30 : decode (mc mX4_start) 30 = .ok (.iconst 0, 1) := by decide +kernel
theorem dX4_start_31 : decode (mc mX4_start) 31 = .ok (.iastore, 1) := by decide +kernel
theorem dX4_start_32 : decode (mc mX4_start) 32 = .ok (.return_, 1) := by decide +kernel
theorem dX4_isPlace_0 : decode (mc mX4_isPlace) 0 = .ok (.iload_n 1, 1) := by decide +kernel
theorem dX4_isPlace_1 : decode (mc mX4_isPlace) 1 = .ok (.ifCond .lt 15, 3) := by decide +kernel
theorem dX4_isPlace_4 : decode (mc mX4_isPlace) 4 = .ok (.iload_n 1, 1) := by decide +kernel
theorem dX4_isPlace_5 : decode (mc mX4_isPlace) 5 = .ok (.aload_n 0, 1) := by decide +kernel
theorem dX4_isPlace_6 : decode (mc mX4_isPlace) 6 = .ok (.getfield 33, 3) := by decide +kernel
theorem dX4_isPlace_9 : decode (mc mX4_isPlace) 9 = .ok (.if_icmp .gt 7, 3) := by decide +kernel
theorem dX4_isPlace_12 : decode (mc mX4_isPlace) 12 = .ok (.iconst 1, 1) := by decide +kernel
theorem dX4_isPlace_13 : decode (mc mX4_isPlace) 13 = .ok (.goto 4, 3) := by decide +kernel
theorem dX4_isPlace_16 : decode (mc mX4_isPlace) 16 = .ok (.iconst 0, 1) := by decide +kernel
theorem dX4_isPlace_17 : decode (mc mX4_isPlace) 17 = .ok (.ireturn, 1) := by decide +kernel
theorem dX4_open_0 : decode (mc mX4_open) 0 = .ok (.aload_n 0, 1) := by decide +kernel
theorem dX4_open_1 : decode (mc mX4_open) 1 = .ok (.iload_n 1, 1) := by decide +kernel
theorem dX4_open_2 : decode (mc mX4_open) 2 = .ok (.invokevirtual 41, 3) := by decide +kernel
theorem dX4_open_5 : decode (mc mX4_open) 5 = .ok (.ifCond .eq 36, 3) := by decide +kernel
theorem dX4_open_8 : decode (mc mX4_open) 8 = .ok (.aload_n 0, 1) := by decide +kernel
theorem dX4_open_9 : decode (mc mX4_open) 9 = .ok (.getfield 9, 3) := by decide +kernel
theorem dX4_open_12 : decode (mc mX4_open) 12 = .ok (.iload_n 1, 1) := by decide +kernel
theorem dX4_open_13 : decode (mc mX4_open) 13 = .ok (.ldc 45, 2) := by decide +kernel
theorem dX4_open_15 : decode (mc mX4_open) 15 = .ok (.iastore, 1) := by decide +kernel
theorem dX4_open_16 : decode (mc mX4_open) 16 = .ok (.aload_n 0, 1) := by decide +kernel
theorem dX4_open_17 : decode (mc mX4_open) 17 = .ok (.getfield 15, 3) := by decide +kernel
theorem dX4_open_20 : decode (mc mX4_open) 20 = .ok (.iload_n 1, 1) := by decide +kernel
theorem dX4_open_21 : decode (mc mX4_open) 21 = .ok (.iconst 0, 1) := by decide +kernel
theorem dX4_open_22 : decode (mc mX4_open) 22 = .ok (.iastore, 1) := by decide +kernel
theorem dX4_open_23 : decode (mc mX4_open) 23 = .ok (.aload_n 0, 1) := by decide +kernel
theorem dX4_open_24 : decode (mc mX4_open) 24 = .ok (.getfield 18, 3) := by decide +kernel
theorem dX4_open_27 : decode (mc mX4_open) 27 = .ok (.iload_n 1, 1) := by decide +kernel
theorem dX4_open_28 : decode (mc mX4_open) 28 = .ok (.ldc 45, 2) := by decide +kernel
theorem dX4_open_30 : decode (mc mX4_open) 30 = .ok (.iastore, 1) := by decide +kernel
theorem dX4_open_31 : decode (mc mX4_open) 31 = .ok (.aload_n 0, 1) := by decide +kernel
theorem dX4_open_32 : decode (mc mX4_open) 32 = .ok (.getfield 21, 3) := by decide +kernel
theorem dX4_open_35 : decode (mc mX4_open) 35 = .ok (.iload_n 1, 1) := by decide +kernel
theorem dX4_open_36 : decode (mc mX4_open) 36 = .ok (.aload_n 0, 1) := by decide +kernel
theorem dX4_open_37 : decode (mc mX4_open) 37 = .ok (.getfield 33, 3) := by decide +kernel
theorem dX4_open_40 : decode (mc mX4_open) 40 = .ok (.iastore, 1) := by decide +kernel
theorem dX4_open_41 : decode (mc mX4_open) 41 = .ok (.return_, 1) := by decide +kernel
theorem dX4_offer_0 : decode (mc mX4_offer) 0 = .ok (.iload_n 1, 1) := by decide +kernel
theorem dX4_offer_1 : decode (mc mX4_offer) 1 = .ok (.iload_n 3, 1) := by decide +kernel
theorem dX4_offer_2 : decode (mc mX4_offer) 2 = .ok (.iadd, 1) := by decide +kernel
theorem dX4_offer_3 : decode (mc mX4_offer) 3 = .ok (.istore 5, 2) := by decide +kernel
theorem dX4_offer_5 : decode (mc mX4_offer) 5 = .ok (.aload_n 0, 1) := by decide +kernel
theorem dX4_offer_6 : decode (mc mX4_offer) 6 = .ok (.iload_n 1, 1) := by decide +kernel
theorem dX4_offer_7 : decode (mc mX4_offer) 7 = .ok (.invokevirtual 41, 3) := by decide +kernel
theorem dX4_offer_10 : decode (mc mX4_offer) 10 = .ok (.ifCond .eq 24, 3) := by decide +kernel
theorem dX4_offer_13 : decode (mc mX4_offer) 13 = .ok (.aload_n 0, 1) := by decide +kernel
theorem dX4_offer_14 : decode (mc mX4_offer) 14 = .ok (.iload 5, 2) := by decide +kernel
theorem dX4_offer_16 : decode (mc mX4_offer) 16 = .ok (.invokevirtual 41, 3) := by decide +kernel
theorem dX4_offer_19 : decode (mc mX4_offer) 19 = .ok (.ifCond .eq 15, 3) := by decide +kernel
theorem dX4_offer_22 : decode (mc mX4_offer) 22 = .ok (.aload_n 0, 1) := by decide +kernel
theorem dX4_offer_23 : decode (mc mX4_offer) 23 = .ok (.getfield 9, 3) := by decide +kernel
theorem dX4_offer_26 : decode (mc mX4_offer) 26 = .ok (.iload 5, 2) := by decide +kernel
theorem dX4_offer_28 : decode (mc mX4_offer) 28 = .ok (.iaload, 1) := by decide +kernel
theorem dX4_offer_29 : decode (mc mX4_offer) 29 = .ok (.ldc 45, 2) := by decide +kernel
theorem dX4_offer_31 : decode (mc mX4_offer) 31 = .ok (.if_icmp .ne 4, 3) := by decide +kernel
theorem dX4_offer_34 : decode (mc mX4_offer) 34 = .ok (.return_, 1) := by decide +kernel
theorem dX4_offer_35 : decode (mc mX4_offer) 35 = .ok (.iload 4, 2) := by decide +kernel
theorem dX4_offer_37 : decode (mc mX4_offer) 37 = .ok (.aload_n 0, 1) := by decide +kernel
theorem dX4_offer_38 : decode (mc mX4_offer) 38 = .ok (.getfield 9, 3) := by decide +kernel
theorem dX4_offer_41 : decode (mc mX4_offer) 41 = .ok (.iload 5, 2) := by decide +kernel
theorem dX4_offer_43 : decode (mc mX4_offer) 43 = .ok (.iaload, 1) := by decide +kernel
theorem dX4_offer_44 : decode (mc mX4_offer) 44 = .ok (.iadd, 1) := by decide +kernel
theorem dX4_offer_45 : decode (mc mX4_offer) 45 = .ok (.istore 6, 2) := by decide +kernel
theorem dX4_offer_47 : decode (mc mX4_offer) 47 = .ok (.iconst 1, 1) := by decide +kernel
theorem dX4_offer_48 : decode (mc mX4_offer) 48 = .ok (.aload_n 0, 1) := by decide +kernel
theorem dX4_offer_49 : decode (mc mX4_offer) 49 = .ok (.getfield 15, 3) := by decide +kernel
theorem dX4_offer_52 : decode (mc mX4_offer) 52 = .ok (.iload 5, 2) := by decide +kernel
theorem dX4_offer_54 : decode (mc mX4_offer) 54 = .ok (.iaload, 1) := by decide +kernel
theorem dX4_offer_55 : decode (mc mX4_offer) 55 = .ok (.iadd, 1) := by decide +kernel
theorem dX4_offer_56 : decode (mc mX4_offer) 56 = .ok (.istore 7, 2) := by decide +kernel
theorem dX4_offer_58 : decode (mc mX4_offer) 58 = .ok (.aload_n 0, 1) := by decide +kernel
theorem dX4_offer_59 : decode (mc mX4_offer) 59 = .ok (.getfield 9, 3) := by decide +kernel
theorem dX4_offer_62 : decode (mc mX4_offer) 62 = .ok (.iload_n 1, 1) := by decide +kernel
theorem dX4_offer_63 : decode (mc mX4_offer) 63 = .ok (.iaload, 1) := by decide +kernel
theorem dX4_offer_64 : decode (mc mX4_offer) 64 = .ok (.ldc 45, 2) := by decide +kernel
theorem dX4_offer_66 : decode (mc mX4_offer) 66 = .ok (.if_icmp .eq 36, 3) := by decide +kernel
theorem dX4_offer_69 : decode (mc mX4_offer) 69 = .ok (.iload 6, 2) := by decide +kernel
theorem dX4_offer_71 : decode (mc mX4_offer) 71 = .ok (.aload_n 0, 1) := by decide +kernel
theorem dX4_offer_72 : decode (mc mX4_offer) 72 = .ok (.getfield 9, 3) := by decide +kernel
theorem dX4_offer_75 : decode (mc mX4_offer) 75 = .ok (.iload_n 1, 1) := by decide +kernel
theorem dX4_offer_76 : decode (mc mX4_offer) 76 = .ok (.iaload, 1) := by decide +kernel
theorem dX4_offer_77 : decode (mc mX4_offer) 77 = .ok (.if_icmp .lt 25, 3) := by decide +kernel
theorem dX4_offer_80 : decode (mc mX4_offer) 80 = .ok (.iload 6, 2) := by decide +kernel
theorem dX4_offer_82 : decode (mc mX4_offer) 82 = .ok (.aload_n 0, 1) := by decide +kernel
theorem dX4_offer_83 : decode (mc mX4_offer) 83 = .ok (.getfield 9, 3) := by decide +kernel
theorem dX4_offer_86 : decode (mc mX4_offer) 86 = .ok (.iload_n 1, 1) := by decide +kernel
theorem dX4_offer_87 : decode (mc mX4_offer) 87 = .ok (.iaload, 1) := by decide +kernel
theorem dX4_offer_88 : decode (mc mX4_offer) 88 = .ok (.if_icmp .ne 45, 3) := by decide +kernel
theorem dX4_offer_91 : decode (mc mX4_offer) 91 = .ok (.iload 7, 2) := by decide +kernel
theorem dX4_offer_93 : decode (mc mX4_offer) 93 = .ok (.aload_n 0, 1) := by decide +kernel
theorem dX4_offer_94 : decode (mc mX4_offer) 94 = .ok (.getfield 15, 3) := by decide +kernel
theorem dX4_offer_97 : decode (mc mX4_offer) 97 = .ok (.iload_n 1, 1) := by decide +kernel
theorem dX4_offer_98 : decode (mc mX4_offer) 98 = .ok (.iaload, 1) := by decide +kernel
theorem dX4_offer_99 : decode (mc mX4_offer) 99 = .ok (.if_icmp .ge 34, 3) := by decide +kernel
theorem dX4_offer_102 : decode (mc mX4_offer) 102 = .ok (.aload_n 0, 1) := by decide +kernel
theorem dX4_offer_103 : decode (mc mX4_offer) 103 = .ok (.getfield 9, 3) := by decide +kernel
theorem dX4_offer_106 : decode (mc mX4_offer) 106 = .ok (.iload_n 1, 1) := by decide +kernel
theorem dX4_offer_107 : decode (mc mX4_offer) 107 = .ok (.iload 6, 2) := by decide +kernel
theorem dX4_offer_109 : decode (mc mX4_offer) 109 = .ok (.iastore, 1) := by decide +kernel
theorem dX4_offer_110 : decode (mc mX4_offer) 110 = .ok (.aload_n 0, 1) := by decide +kernel
theorem dX4_offer_111 : decode (mc mX4_offer) 111 = .ok (.getfield 15, 3) := by decide +kernel
theorem dX4_offer_114 : decode (mc mX4_offer) 114 = .ok (.iload_n 1, 1) := by decide +kernel
theorem dX4_offer_115 : decode (mc mX4_offer) 115 = .ok (.iload 7, 2) := by decide +kernel
theorem dX4_offer_117 : decode (mc mX4_offer) 117 = .ok (.iastore, 1) := by decide +kernel
theorem dX4_offer_118 : decode (mc mX4_offer) 118 = .ok (.aload_n 0, 1) := by decide +kernel
theorem dX4_offer_119 : decode (mc mX4_offer) 119 = .ok (.getfield 18, 3) := by decide +kernel
theorem dX4_offer_122 : decode (mc mX4_offer) 122 = .ok (.iload_n 1, 1) := by decide +kernel
theorem dX4_offer_123 : decode (mc mX4_offer) 123 = .ok (.iload_n 2, 1) := by decide +kernel
theorem dX4_offer_124 : decode (mc mX4_offer) 124 = .ok (.iastore, 1) := by decide +kernel
theorem dX4_offer_125 : decode (mc mX4_offer) 125 = .ok (.aload_n 0, 1) := by decide +kernel
theorem dX4_offer_126 : decode (mc mX4_offer) 126 = .ok (.getfield 21, 3) := by decide +kernel
theorem dX4_offer_129 : decode (mc mX4_offer) 129 = .ok (.iload_n 1, 1) := by decide +kernel
theorem dX4_offer_130 : decode (mc mX4_offer) 130 = .ok (.iload 5, 2) := by decide +kernel
theorem dX4_offer_132 : decode (mc mX4_offer) 132 = .ok (.iastore, 1) := by decide +kernel
theorem dX4_offer_133 : decode (mc mX4_offer) 133 = .ok (.return_, 1) := by decide +kernel
theorem dX4_bestCost_0 : decode (mc mX4_bestCost) 0 = .ok (.aload_n 0, 1) := by decide +kernel
theorem dX4_bestCost_1 : decode (mc mX4_bestCost) 1 = .ok (.getfield 9, 3) := by decide +kernel
theorem dX4_bestCost_4 : decode (mc mX4_bestCost) 4 = .ok (.iconst 0, 1) := by decide +kernel
theorem dX4_bestCost_5 : decode (mc mX4_bestCost) 5 = .ok (.iaload, 1) := by decide +kernel
theorem dX4_bestCost_6 : decode (mc mX4_bestCost) 6 = .ok (.ireturn, 1) := by decide +kernel
theorem dX4_pieceAt_0 : decode (mc mX4_pieceAt) 0 = .ok (.iload_n 1, 1) := by decide +kernel
theorem dX4_pieceAt_1 : decode (mc mX4_pieceAt) 1 = .ok (.ifCond .lt 13, 3) := by decide +kernel
theorem dX4_pieceAt_4 : decode (mc mX4_pieceAt) 4 = .ok (.iload_n 1, 1) := by decide +kernel
theorem dX4_pieceAt_5 : decode (mc mX4_pieceAt) 5 = .ok (.aload_n 0, 1) := by decide +kernel
theorem dX4_pieceAt_6 : decode (mc mX4_pieceAt) 6 = .ok (.getfield 15, 3) := by decide +kernel
theorem dX4_pieceAt_9 : decode (mc mX4_pieceAt) 9 = .ok (.iconst 0, 1) := by decide +kernel
theorem dX4_pieceAt_10 : decode (mc mX4_pieceAt) 10 = .ok (.iaload, 1) := by decide +kernel
theorem dX4_pieceAt_11 : decode (mc mX4_pieceAt) 11 = .ok (.if_icmp .lt 6, 3) := by decide +kernel
theorem dX4_pieceAt_14 : decode (mc mX4_pieceAt) 14 = .ok (.ldc 45, 2) := by decide +kernel
theorem dX4_pieceAt_16 : decode (mc mX4_pieceAt) 16 = .ok (.ireturn, 1) := by decide +kernel
theorem dX4_pieceAt_17 : decode (mc mX4_pieceAt) 17 = .ok (.iconst 0, 1) := by decide +kernel
theorem dX4_pieceAt_18 : decode (mc mX4_pieceAt) 18 = .ok (.istore_n 2, 1) := by decide +kernel
theorem dX4_pieceAt_19 : decode (mc mX4_pieceAt) 19 = .ok (.iconst 0, 1) := by decide +kernel
theorem dX4_pieceAt_20 : decode (mc mX4_pieceAt) 20 = .ok (.istore_n 3, 1) := by decide +kernel
theorem dX4_pieceAt_21 : decode (mc mX4_pieceAt) 21 = .ok (.iload_n 3, 1) := by decide +kernel
theorem dX4_pieceAt_22 : decode (mc mX4_pieceAt) 22 = .ok (.iload_n 1, 1) := by decide +kernel
theorem dX4_pieceAt_23 : decode (mc mX4_pieceAt) 23 = .ok (.if_icmp .ge 16, 3) := by decide +kernel
theorem dX4_pieceAt_26 : decode (mc mX4_pieceAt) 26 = .ok (.aload_n 0, 1) := by decide +kernel
theorem dX4_pieceAt_27 : decode (mc mX4_pieceAt) 27 = .ok (.getfield 21, 3) := by decide +kernel
theorem dX4_pieceAt_30 : decode (mc mX4_pieceAt) 30 = .ok (.iload_n 2, 1) := by decide +kernel
theorem dX4_pieceAt_31 : decode (mc mX4_pieceAt) 31 = .ok (.iaload, 1) := by decide +kernel
theorem dX4_pieceAt_32 : decode (mc mX4_pieceAt) 32 = .ok (.istore_n 2, 1) := by decide +kernel
theorem dX4_pieceAt_33 : decode (mc mX4_pieceAt) 33 = .ok (.iinc 3 1, 3) := by decide +kernel
theorem dX4_pieceAt_36 : decode (mc mX4_pieceAt) 36 = .ok (.goto (-15), 3) := by decide +kernel
theorem dX4_pieceAt_39 : decode (mc mX4_pieceAt) 39 = .ok (.aload_n 0, 1) := by decide +kernel
theorem dX4_pieceAt_40 : decode (mc mX4_pieceAt) 40 = .ok (.getfield 18, 3) := by decide +kernel
theorem dX4_pieceAt_43 : decode (mc mX4_pieceAt) 43 = .ok (.iload_n 2, 1) := by decide +kernel
theorem dX4_pieceAt_44 : decode (mc mX4_pieceAt) 44 = .ok (.iaload, 1) := by decide +kernel
theorem dX4_pieceAt_45 : decode (mc mX4_pieceAt) 45 = .ok (.ireturn, 1) := by decide +kernel
theorem dX5_init_0 : decode (mc mX5_init) 0 = .ok (.aload_n 0, 1) := by decide +kernel
theorem dX5_init_1 : decode (mc mX5_init) 1 = .ok (.invokespecial 3, 3) := by decide +kernel
theorem dX5_init_4 : decode (mc mX5_init) 4 = .ok (.aload_n 0, 1) := by decide +kernel
theorem dX5_init_5 : decode (mc mX5_init) 5 = .ok (.bipush 11, 2) := by decide +kernel
theorem dX5_init_7 : decode (mc mX5_init) 7 = .ok (.bipush 11, 2) := by decide +kernel
theorem dX5_init_9 : decode (mc mX5_init) 9 = .ok (.multianewarray 9 2, 4) := by decide +kernel
theorem dX5_init_13 : decode (mc mX5_init) 13 = .ok (.putfield 11, 3) := by decide +kernel
theorem dX5_init_16 : decode (mc mX5_init) 16 = .ok (.return_, 1) := by decide +kernel
theorem dX5_measure_0 : decode (mc mX5_measure) 0 = .ok (.aload_n 1, 1) := by decide +kernel
theorem dX5_measure_1 : decode (mc mX5_measure) 1 = .ok (.getfield 16, 3) := by decide +kernel
theorem dX5_measure_4 : decode (mc mX5_measure) 4 = .ok (.aload_n 2, 1) := by decide +kernel
theorem dX5_measure_5 : decode (mc mX5_measure) 5 = .ok (.getfield 16, 3) := by decide +kernel
theorem dX5_measure_8 : decode (mc mX5_measure) 8 = .ok (.invokestatic 22, 3) := by decide +kernel
theorem dX5_measure_11 : decode (mc mX5_measure) 11 = .ok (.istore_n 3, 1) := by decide +kernel
theorem dX5_measure_12 : decode (mc mX5_measure) 12 = .ok (.iload_n 3, 1) := by decide +kernel
theorem dX5_measure_13 : decode (mc mX5_measure) 13 = .ok (.iconst 1, 1) := by decide +kernel
theorem dX5_measure_14 : decode (mc mX5_measure) 14 = .ok (.if_icmp .lt 9, 3) := by decide +kernel
theorem dX5_measure_17 : decode (mc mX5_measure) 17 = .ok (.iload_n 3, 1) := by decide +kernel
theorem dX5_measure_18 : decode (mc mX5_measure) 18 = .ok (.bipush 10, 2) := by decide +kernel
theorem dX5_measure_20 : decode (mc mX5_measure) 20 = .ok (.if_icmp .le 7, 3) := by decide +kernel
theorem dX5_measure_23 : decode (mc mX5_measure) 23 = .ok (.iconst 0, 1) := by decide +kernel
theorem dX5_measure_24 : decode (mc mX5_measure) 24 = .ok (.goto 16, 3) := by decide +kernel
theorem dX5_measure_27 : decode (mc mX5_measure) 27 = .ok (.bipush 100, 2) := by decide +kernel
theorem dX5_measure_29 : decode (mc mX5_measure) 29 = .ok (.iload_n 3, 1) := by decide +kernel
theorem dX5_measure_30 : decode (mc mX5_measure) 30 = .ok (.aload_n 0, 1) := by decide +kernel
theorem dX5_measure_31 : decode (mc mX5_measure) 31 = .ok (.aload_n 1, 1) := by decide +kernel
theorem dX5_measure_32 : decode (mc mX5_measure) 32 = .ok (.aload_n 2, 1) := by decide +kernel
theorem dX5_measure_33 : decode (mc mX5_measure) 33 = .ok (.invokevirtual 28, 3) := by decide +kernel
theorem dX5_measure_36 : decode (mc mX5_measure) 36 = .ok (.isub, 1) := by decide +kernel
theorem dX5_measure_37 : decode (mc mX5_measure) 37 = .ok (.imul, 1) := by decide +kernel
theorem dX5_measure_38 : decode (mc mX5_measure) 38 = .ok (.iload_n 3, 1) := by decide +kernel
theorem dX5_measure_39 : decode (mc mX5_measure) 39 = .ok (.idiv, 1) := by decide +kernel
theorem dX5_measure_40 : decode (mc mX5_measure) 40 = .ok (.ireturn, 1) := by decide +kernel
theorem dX5_distance_0 : decode (mc mX5_distance) 0 = .ok (.iconst 0, 1) := by decide +kernel
theorem dX5_distance_1 : decode (mc mX5_distance) 1 = .ok (.istore_n 3, 1) := by decide +kernel
theorem dX5_distance_2 : decode (mc mX5_distance) 2 = .ok (.iload_n 3, 1) := by decide +kernel
theorem dX5_distance_3 : decode (mc mX5_distance) 3 = .ok (.aload_n 1, 1) := by decide +kernel
theorem dX5_distance_4 : decode (mc mX5_distance) 4 = .ok (.getfield 16, 3) := by decide +kernel
theorem dX5_distance_7 : decode (mc mX5_distance) 7 = .ok (.if_icmp .gt 136, 3) := by decide +kernel
theorem dX5_distance_10 : decode (mc mX5_distance) 10 = .ok (.iconst 0, 1) := by decide +kernel
theorem dX5_distance_11 : decode (mc mX5_distance) 11 = .ok (.istore 4, 2) := by decide +kernel
theorem dX5_distance_13 : decode (mc mX5_distance) 13 = .ok (.iload 4, 2) := by decide +kernel
theorem dX5_distance_15 : decode (mc mX5_distance) 15 = .ok (.aload_n 2, 1) := by decide +kernel
theorem dX5_distance_16 : decode (mc mX5_distance) 16 = .ok (.getfield 16, 3) := by decide +kernel
theorem dX5_distance_19 : decode (mc mX5_distance) 19 = .ok (.if_icmp .gt 118, 3) := by decide +kernel
theorem dX5_distance_22 : decode (mc mX5_distance) 22 = .ok (.iload_n 3, 1) := by decide +kernel
theorem dX5_distance_23 : decode (mc mX5_distance) 23 = .ok (.ifCond .eq 8, 3) := by decide +kernel
theorem dX5_distance_26 : decode (mc mX5_distance) 26 = .ok (.iload 4, 2) := by decide +kernel
theorem dX5_distance_28 : decode (mc mX5_distance) 28 = .ok (.ifCond .ne 19, 3) := by decide +kernel
theorem dX5_distance_31 : decode (mc mX5_distance) 31 = .ok (.aload_n 0, 1) := by decide +kernel
theorem dX5_distance_32 : decode (mc mX5_distance) 32 = .ok (.getfield 11, 3) := by decide +kernel
theorem dX5_distance_35 : decode (mc mX5_distance) 35 = .ok (.iload_n 3, 1) := by decide +kernel
theorem dX5_distance_36 : decode (mc mX5_distance) 36 = .ok (.aaload, 1) := by decide +kernel
theorem dX5_distance_37 : decode (mc mX5_distance) 37 = .ok (.iload 4, 2) := by decide +kernel
theorem dX5_distance_39 : decode (mc mX5_distance) 39 = .ok (.iload_n 3, 1) := by decide +kernel
theorem dX5_distance_40 : decode (mc mX5_distance) 40 = .ok (.iload 4, 2) := by decide +kernel
theorem dX5_distance_42 : decode (mc mX5_distance) 42 = .ok (.iadd, 1) := by decide +kernel
theorem dX5_distance_43 : decode (mc mX5_distance) 43 = .ok (.iastore, 1) := by decide +kernel
theorem dX5_distance_44 : decode (mc mX5_distance) 44 = .ok (.goto 87, 3) := by decide +kernel
theorem dX5_distance_47 : decode (mc mX5_distance) 47 = .ok (.aload_n 1, 1) := by decide +kernel
theorem dX5_distance_48 : decode (mc mX5_distance) 48 = .ok (.iload_n 3, 1) := by decide +kernel
theorem dX5_distance_49 : decode (mc mX5_distance) 49 = .ok (.iconst 1, 1) := by decide +kernel
theorem dX5_distance_50 : decode (mc mX5_distance) 50 = .ok (.isub, 1) := by decide +kernel
theorem dX5_distance_51 : decode (mc mX5_distance) 51 = .ok (.invokevirtual 32, 3) := by decide +kernel
theorem dX5_distance_54 : decode (mc mX5_distance) 54 = .ok (.aload_n 2, 1) := by decide +kernel
theorem dX5_distance_55 : decode (mc mX5_distance) 55 = .ok (.iload 4, 2) := by decide +kernel
theorem dX5_distance_57 : decode (mc mX5_distance) 57 = .ok (.iconst 1, 1) := by decide +kernel
theorem dX5_distance_58 : decode (mc mX5_distance) 58 = .ok (.isub, 1) := by decide +kernel
theorem dX5_distance_59 : decode (mc mX5_distance) 59 = .ok (.invokevirtual 32, 3) := by decide +kernel
theorem dX5_distance_62 : decode (mc mX5_distance) 62 = .ok (.if_icmp .ne 7, 3) := by decide +kernel
theorem dX5_distance_65 : decode (mc mX5_distance) 65 = .ok (.iconst 0, 1) := by decide +kernel
theorem dX5_distance_66 : decode (mc mX5_distance) 66 = .ok (.goto 4, 3) := by decide +kernel
theorem dX5_distance_69 : decode (mc mX5_distance) 69 = .ok (.iconst 1, 1) := by decide +kernel
theorem dX5_distance_70 : decode (mc mX5_distance) 70 = .ok (.istore 5, 2) := by decide +kernel
theorem dX5_distance_72 : decode (mc mX5_distance) 72 = .ok (.iconst 1, 1) := by decide +kernel
theorem dX5_distance_73 : decode (mc mX5_distance) 73 = .ok (.aload_n 0, 1) := by decide +kernel
theorem dX5_distance_74 : decode (mc mX5_distance) 74 = .ok (.getfield 11, 3) := by decide +kernel
theorem dX5_distance_77 : decode (mc mX5_distance) 77 = .ok (.iload_n 3, 1) := by decide +kernel
theorem dX5_distance_78 : decode (mc mX5_distance) 78 = .ok (.iconst 1, 1) := by decide +kernel
theorem dX5_distance_79 : decode (mc mX5_distance) 79 = .ok (.isub, 1) := by decide +kernel
theorem dX5_distance_80 : decode (mc mX5_distance) 80 = .ok (.aaload, 1) := by decide +kernel
theorem dX5_distance_81 : decode (mc mX5_distance) 81 = .ok (.iload 4, 2) := by decide +kernel
theorem dX5_distance_83 : decode (mc mX5_distance) 83 = .ok (.iaload, 1) := by decide +kernel
theorem dX5_distance_84 : decode (mc mX5_distance) 84 = .ok (.aload_n 0, 1) := by decide +kernel
theorem dX5_distance_85 : decode (mc mX5_distance) 85 = .ok (.getfield 11, 3) := by decide +kernel
theorem dX5_distance_88 : decode (mc mX5_distance) 88 = .ok (.iload_n 3, 1) := by decide +kernel
theorem dX5_distance_89 : decode (mc mX5_distance) 89 = .ok (.aaload, 1) := by decide +kernel
theorem dX5_distance_90 : decode (mc mX5_distance) 90 = .ok (.iload 4, 2) := by decide +kernel
theorem dX5_distance_92 : decode (mc mX5_distance) 92 = .ok (.iconst 1, 1) := by decide +kernel
theorem dX5_distance_93 : decode (mc mX5_distance) 93 = .ok (.isub, 1) := by decide +kernel
theorem dX5_distance_94 : decode (mc mX5_distance) 94 = .ok (.iaload, 1) := by decide +kernel
theorem dX5_distance_95 : decode (mc mX5_distance) 95 = .ok (.invokestatic 36, 3) := by decide +kernel
theorem dX5_distance_98 : decode (mc mX5_distance) 98 = .ok (.iadd, 1) := by decide +kernel
theorem dX5_distance_99 : decode (mc mX5_distance) 99 = .ok (.istore 6, 2) := by decide +kernel
theorem dX5_distance_101 : decode (mc mX5_distance) 101 = .ok (.aload_n 0, 1) := by decide +kernel
theorem dX5_distance_102 : decode (mc mX5_distance) 102 = .ok (.getfield 11, 3) := by decide +kernel
theorem dX5_distance_105 : decode (mc mX5_distance) 105 = .ok (.iload_n 3, 1) := by decide +kernel
theorem dX5_distance_106 : decode (mc mX5_distance) 106 = .ok (.aaload, 1) := by decide +kernel
theorem dX5_distance_107 : decode (mc mX5_distance) 107 = .ok (.iload 4, 2) := by decide +kernel
theorem dX5_distance_109 : decode (mc mX5_distance) 109 = .ok (.iload 6, 2) := by decide +kernel
theorem dX5_distance_111 : decode (mc mX5_distance) 111 = .ok (.aload_n 0, 1) := by decide +kernel
theorem dX5_distance_112 : decode (mc mX5_distance) 112 = .ok (.getfield 11, 3) := by decide +kernel
theorem dX5_distance_115 : decode (mc mX5_distance) 115 = .ok (.iload_n 3, 1) := by decide +kernel
theorem dX5_distance_116 : decode (mc mX5_distance) 116 = .ok (.iconst 1, 1) := by decide +kernel
theorem dX5_distance_117 : decode (mc mX5_distance) 117 = .ok (.isub, 1) := by decide +kernel
theorem dX5_distance_118 : decode (mc mX5_distance) 118 = .ok (.aaload, 1) := by decide +kernel
theorem dX5_distance_119 : decode (mc mX5_distance) 119 = .ok (.iload 4, 2) := by decide +kernel
theorem dX5_distance_121 : decode (mc mX5_distance) 121 = .ok (.iconst 1, 1) := by decide +kernel
theorem dX5_distance_122 : decode (mc mX5_distance) 122 = .ok (.isub, 1) := by decide +kernel
theorem dX5_distance_123 : decode (mc mX5_distance) 123 = .ok (.iaload, 1) := by decide +kernel
theorem dX5_distance_124 : decode (mc mX5_distance) 124 = .ok (.iload 5, 2) := by decide +kernel
theorem dX5_distance_126 : decode (mc mX5_distance) 126 = .ok (.iadd, 1) := by decide +kernel
theorem dX5_distance_127 : decode (mc mX5_distance) 127 = .ok (.invokestatic 36, 3) := by decide +kernel
theorem dX5_distance_130 : decode (mc mX5_distance) 130 = .ok (.iastore, 1) := by decide +kernel
theorem dX5_distance_131 : decode (mc mX5_distance) 131 = .ok (.iinc 4 1, 3) := by decide +kernel
theorem dX5_distance_134 : decode (mc mX5_distance) 134 = .ok (.goto (-121), 3) := by decide +kernel
theorem dX5_distance_137 : decode (mc mX5_distance) 137 = .ok (.iinc 3 1, 3) := by decide +kernel
theorem dX5_distance_140 : decode (mc mX5_distance) 140 = .ok (.goto (-138), 3) := by decide +kernel
theorem dX5_distance_143 : decode (mc mX5_distance) 143 = .ok (.aload_n 0, 1) := by decide +kernel
theorem dX5_distance_144 : decode (mc mX5_distance) 144 = .ok (.getfield 11, 3) := by decide +kernel
theorem dX5_distance_147 : decode (mc mX5_distance) 147 = .ok (.aload_n 1, 1) := by decide +kernel
theorem dX5_distance_148 : decode (mc mX5_distance) 148 = .ok (.getfield 16, 3) := by decide +kernel
theorem dX5_distance_151 : decode (mc mX5_distance) 151 = .ok (.aaload, 1) := by decide +kernel
theorem dX5_distance_152 : decode (mc mX5_distance) 152 = .ok (.aload_n 2, 1) := by decide +kernel
theorem dX5_distance_153 : decode (mc mX5_distance) 153 = .ok (.getfield 16, 3) := by decide +kernel
theorem dX5_distance_156 : decode (mc mX5_distance) 156 = .ok (.iaload, 1) := by decide +kernel
theorem dX5_distance_157 : decode (mc mX5_distance) 157 = .ok (.ireturn, 1) := by decide +kernel
theorem dX6_init_0 : decode (mc mX6_init) 0 = .ok (.aload_n 0, 1) := by decide +kernel
theorem dX6_init_1 : decode (mc mX6_init) 1 = .ok (.invokespecial 1, 3) := by decide +kernel
theorem dX6_init_4 : decode (mc mX6_init) 4 = .ok (.aload_n 0, 1) := by decide +kernel
theorem dX6_init_5 : decode (mc mX6_init) 5 = .ok (.new 7, 3) := by decide +kernel
theorem dX6_init_8 : decode (mc mX6_init) 8 = .ok (.dup, 1) := by decide +kernel
theorem dX6_init_9 : decode (mc mX6_init) 9 = .ok (.invokespecial 9, 3) := by decide +kernel
theorem dX6_init_12 : decode (mc mX6_init) 12 = .ok (.putfield 10, 3) := by decide +kernel
theorem dX6_init_15 : decode (mc mX6_init) 15 = .ok (.aload_n 0, 1) := by decide +kernel
theorem dX6_init_16 : decode (mc mX6_init) 16 = .ok (.new 16, 3) := by decide +kernel
theorem dX6_init_19 : decode (mc mX6_init) 19 = .ok (.dup, 1) := by decide +kernel
theorem dX6_init_20 : decode (mc mX6_init) 20 = .ok (.invokespecial 18, 3) := by decide +kernel
theorem dX6_init_23 : decode (mc mX6_init) 23 = .ok (.putfield 19, 3) := by decide +kernel
theorem dX6_init_26 : decode (mc mX6_init) 26 = .ok (.aload_n 0, 1) := by decide +kernel
theorem dX6_init_27 : decode (mc mX6_init) 27 = .ok (.new 23, 3) := by decide +kernel
theorem dX6_init_30 : decode (mc mX6_init) 30 = .ok (.dup, 1) := by decide +kernel
theorem dX6_init_31 : decode (mc mX6_init) 31 = .ok (.invokespecial 25, 3) := by decide +kernel
theorem dX6_init_34 : decode (mc mX6_init) 34 = .ok (.putfield 26, 3) := by decide +kernel
theorem dX6_init_37 : decode (mc mX6_init) 37 = .ok (.aload_n 0, 1) := by decide +kernel
theorem dX6_init_38 : decode (mc mX6_init) 38 = .ok (.new 30, 3) := by decide +kernel
theorem dX6_init_41 : decode (mc mX6_init) 41 = .ok (.dup, 1) := by decide +kernel
theorem dX6_init_42 : decode (mc mX6_init) 42 = .ok (.invokespecial 32, 3) := by decide +kernel
theorem dX6_init_45 : decode (mc mX6_init) 45 = .ok (.putfield 33, 3) := by decide +kernel
theorem dX6_init_48 : decode (mc mX6_init) 48 = .ok (.aload_n 0, 1) := by decide +kernel
theorem dX6_init_49 : decode (mc mX6_init) 49 = .ok (.new 37, 3) := by decide +kernel
theorem dX6_init_52 : decode (mc mX6_init) 52 = .ok (.dup, 1) := by decide +kernel
theorem dX6_init_53 : decode (mc mX6_init) 53 = .ok (.invokespecial 39, 3) := by decide +kernel
theorem dX6_init_56 : decode (mc mX6_init) 56 = .ok (.putfield 40, 3) := by decide +kernel
theorem dX6_init_59 : decode (mc mX6_init) 59 = .ok (.return_, 1) := by decide +kernel
theorem dX6_addMember_0 : decode (mc mX6_addMember) 0 = .ok (.aload_n 0, 1) := by decide +kernel
theorem dX6_addMember_1 : decode (mc mX6_addMember) 1 = .ok (.getfield 10, 3) := by decide +kernel
theorem dX6_addMember_4 : decode (mc mX6_addMember) 4 = .ok (.invokevirtual 44, 3) := by decide +kernel
theorem dX6_addMember_7 : decode (mc mX6_addMember) 7 = .ok (.bipush 6, 2) := by decide +kernel
theorem dX6_addMember_9 : decode (mc mX6_addMember) 9 = .ok (.if_icmp .lt 6, 3) := by decide +kernel
theorem dX6_addMember_12 : decode (mc mX6_addMember) 12 = .ok (.ldc 48, 2) := by decide +kernel
theorem dX6_addMember_14 : decode (mc mX6_addMember) 14 = .ok (.ireturn, 1) := by decide +kernel
theorem dX6_addMember_15 : decode (mc mX6_addMember) 15 = .ok (.aload_n 0, 1) := by decide +kernel
theorem dX6_addMember_16 : decode (mc mX6_addMember) 16 = .ok (.getfield 19, 3) := by decide +kernel
theorem dX6_addMember_19 : decode (mc mX6_addMember) 19 = .ok (.aload_n 0, 1) := by decide +kernel
theorem dX6_addMember_20 : decode (mc mX6_addMember) 20 = .ok (.getfield 10, 3) := by decide +kernel
theorem dX6_addMember_23 : decode (mc mX6_addMember) 23 = .ok (.invokevirtual 49, 3) := by decide +kernel
theorem dX6_addMember_26 : decode (mc mX6_addMember) 26 = .ok (.aload_n 0, 1) := by decide +kernel
theorem dX6_addMember_27 : decode (mc mX6_addMember) 27 = .ok (.getfield 10, 3) := by decide +kernel
theorem dX6_addMember_30 : decode (mc mX6_addMember) 30 = .ok (.invokevirtual 53, 3) := by decide +kernel
theorem dX6_addMember_33 : decode (mc mX6_addMember) 33 = .ok (.ireturn, 1) := by decide +kernel
theorem dX6_setPrice_0 : decode (mc mX6_setPrice) 0 = .ok (.aload_n 0, 1) := by decide +kernel
theorem dX6_setPrice_1 : decode (mc mX6_setPrice) 1 = .ok (.getfield 10, 3) := by decide +kernel
theorem dX6_setPrice_4 : decode (mc mX6_setPrice) 4 = .ok (.iload_n 1, 1) := by decide +kernel
theorem dX6_setPrice_5 : decode (mc mX6_setPrice) 5 = .ok (.invokevirtual 56, 3) := by decide +kernel
theorem dX6_setPrice_8 : decode (mc mX6_setPrice) 8 = .ok (.ifCond .ne 6, 3) := by decide +kernel
theorem dX6_setPrice_11 : decode (mc mX6_setPrice) 11 = .ok (.ldc 60, 2) := by decide +kernel
theorem dX6_setPrice_13 : decode (mc mX6_setPrice) 13 = .ok (.ireturn, 1) := by decide +kernel
theorem dX6_setPrice_14 : decode (mc mX6_setPrice) 14 = .ok (.iload_n 2, 1) := by decide +kernel
theorem dX6_setPrice_15 : decode (mc mX6_setPrice) 15 = .ok (.ifCond .lt 10, 3) := by decide +kernel
theorem dX6_setPrice_18 : decode (mc mX6_setPrice) 18 = .ok (.iload_n 2, 1) := by decide +kernel
theorem dX6_setPrice_19 : decode (mc mX6_setPrice) 19 = .ok (.sipush 200, 3) := by decide +kernel
theorem dX6_setPrice_22 : decode (mc mX6_setPrice) 22 = .ok (.if_icmp .le 6, 3) := by decide +kernel
theorem dX6_setPrice_25 : decode (mc mX6_setPrice) 25 = .ok (.ldc 61, 2) := by decide +kernel
theorem dX6_setPrice_27 : decode (mc mX6_setPrice) 27 = .ok (.ireturn, 1) := by decide +kernel
theorem dX6_setPrice_28 : decode (mc mX6_setPrice) 28 = .ok (.aload_n 0, 1) := by decide +kernel
theorem dX6_setPrice_29 : decode (mc mX6_setPrice) 29 = .ok (.getfield 19, 3) := by decide +kernel
theorem dX6_setPrice_32 : decode (mc mX6_setPrice) 32 = .ok (.aload_n 0, 1) := by decide +kernel
theorem dX6_setPrice_33 : decode (mc mX6_setPrice) 33 = .ok (.getfield 10, 3) := by decide +kernel
theorem dX6_setPrice_36 : decode (mc mX6_setPrice) 36 = .ok (.invokevirtual 49, 3) := by decide +kernel
theorem dX6_setPrice_39 : decode (mc mX6_setPrice) 39 = .ok (.aload_n 0, 1) := by decide +kernel
theorem dX6_setPrice_40 : decode (mc mX6_setPrice) 40 = .ok (.getfield 10, 3) := by decide +kernel
theorem dX6_setPrice_43 : decode (mc mX6_setPrice) 43 = .ok (.iload_n 1, 1) := by decide +kernel
theorem dX6_setPrice_44 : decode (mc mX6_setPrice) 44 = .ok (.invokevirtual 62, 3) := by decide +kernel
theorem dX6_setPrice_47 : decode (mc mX6_setPrice) 47 = .ok (.istore_n 3, 1) := by decide +kernel
theorem dX6_setPrice_48 : decode (mc mX6_setPrice) 48 = .ok (.aload_n 0, 1) := by decide +kernel
theorem dX6_setPrice_49 : decode (mc mX6_setPrice) 49 = .ok (.getfield 10, 3) := by decide +kernel
theorem dX6_setPrice_52 : decode (mc mX6_setPrice) 52 = .ok (.iload_n 1, 1) := by decide +kernel
theorem dX6_setPrice_53 : decode (mc mX6_setPrice) 53 = .ok (.iload_n 2, 1) := by decide +kernel
theorem dX6_setPrice_54 : decode (mc mX6_setPrice) 54 = .ok (.invokevirtual 66, 3) := by decide +kernel
theorem dX6_setPrice_57 : decode (mc mX6_setPrice) 57 = .ok (.iload_n 3, 1) := by decide +kernel
theorem dX6_setPrice_58 : decode (mc mX6_setPrice) 58 = .ok (.ireturn, 1) := by decide +kernel
theorem dX6_set_0 : decode (mc mX6_set) 0 = .ok (.iload_n 1, 1) := by decide +kernel
theorem dX6_set_1 : decode (mc mX6_set) 1 = .ok (.ifCond .lt 8, 3) := by decide +kernel
theorem dX6_set_4 : decode (mc mX6_set) 4 = .ok (.iload_n 1, 1) := by decide +kernel
theorem dX6_set_5 : decode (mc mX6_set) 5 = .ok (.iconst 5, 1) := by decide +kernel
theorem dX6_set_6 : decode (mc mX6_set) 6 = .ok (.if_icmp .lt 6, 3) := by decide +kernel
theorem dX6_set_9 : decode (mc mX6_set) 9 = .ok (.ldc 60, 2) := by decide +kernel
theorem dX6_set_11 : decode (mc mX6_set) 11 = .ok (.ireturn, 1) := by decide +kernel
theorem dX6_set_12 : decode (mc mX6_set) 12 = .ok (.iload_n 2, 1) := by decide +kernel
theorem dX6_set_13 : decode (mc mX6_set) 13 = .ok (.getstatic 70, 3) := by decide +kernel
theorem dX6_set_16 : decode (mc mX6_set) 16 = .ok (.iload_n 1, 1) := by decide +kernel
theorem dX6_set_17 : decode (mc mX6_set) 17 = .ok (.iaload, 1) := by decide +kernel
theorem dX6_set_18 : decode (mc mX6_set) 18 = .ok (.if_icmp .lt 12, 3) := by decide +kernel
theorem dX6_set_21 : decode (mc mX6_set) 21 = .ok (.iload_n 2, 1) := by decide +kernel
theorem dX6_set_22 : decode (mc mX6_set) 22 = .ok (.getstatic 74, 3) := by decide +kernel
theorem dX6_set_25 : decode (mc mX6_set) 25 = .ok (.iload_n 1, 1) := by decide +kernel
theorem dX6_set_26 : decode (mc mX6_set) 26 = .ok (.iaload, 1) := by decide +kernel
theorem dX6_set_27 : decode (mc mX6_set) 27 = .ok (.if_icmp .le 6, 3) := by decide +kernel
theorem dX6_set_30 : decode (mc mX6_set) 30 = .ok (.ldc 61, 2) := by decide +kernel
theorem dX6_set_32 : decode (mc mX6_set) 32 = .ok (.ireturn, 1) := by decide +kernel
theorem dX6_set_33 : decode (mc mX6_set) 33 = .ok (.aload_n 0, 1) := by decide +kernel
theorem dX6_set_34 : decode (mc mX6_set) 34 = .ok (.getfield 19, 3) := by decide +kernel
theorem dX6_set_37 : decode (mc mX6_set) 37 = .ok (.aload_n 0, 1) := by decide +kernel
theorem dX6_set_38 : decode (mc mX6_set) 38 = .ok (.getfield 10, 3) := by decide +kernel
theorem dX6_set_41 : decode (mc mX6_set) 41 = .ok (.invokevirtual 49, 3) := by decide +kernel
theorem dX6_set_44 : decode (mc mX6_set) 44 = .ok (.aload_n 0, 1) := by decide +kernel
theorem dX6_set_45 : decode (mc mX6_set) 45 = .ok (.getfield 10, 3) := by decide +kernel
theorem dX6_set_48 : decode (mc mX6_set) 48 = .ok (.iload_n 1, 1) := by decide +kernel
theorem dX6_set_49 : decode (mc mX6_set) 49 = .ok (.invokevirtual 77, 3) := by decide +kernel
theorem dX6_set_52 : decode (mc mX6_set) 52 = .ok (.istore_n 3, 1) := by decide +kernel
theorem dX6_set_53 : decode (mc mX6_set) 53 = .ok (.aload_n 0, 1) := by decide +kernel
theorem dX6_set_54 : decode (mc mX6_set) 54 = .ok (.getfield 10, 3) := by decide +kernel
theorem dX6_set_57 : decode (mc mX6_set) 57 = .ok (.iload_n 1, 1) := by decide +kernel
theorem dX6_set_58 : decode (mc mX6_set) 58 = .ok (.iload_n 2, 1) := by decide +kernel
theorem dX6_set_59 : decode (mc mX6_set) 59 = .ok (.invokevirtual 80, 3) := by decide +kernel
theorem dX6_set_62 : decode (mc mX6_set) 62 = .ok (.iload_n 3, 1) := by decide +kernel
theorem dX6_set_63 : decode (mc mX6_set) 63 = .ok (.ireturn, 1) := by decide +kernel
theorem dX6_count_0 : decode (mc mX6_count) 0 = .ok (.iload_n 1, 1) := by decide +kernel
theorem dX6_count_1 : decode (mc mX6_count) 1 = .ok (.ifCond .lt 9, 3) := by decide +kernel
theorem dX6_count_4 : decode (mc mX6_count) 4 = .ok (.iload_n 1, 1) := by decide +kernel
theorem dX6_count_5 : decode (mc mX6_count) 5 = .ok (.bipush 14, 2) := by decide +kernel
theorem dX6_count_7 : decode (mc mX6_count) 7 = .ok (.if_icmp .lt 6, 3) := by decide +kernel
theorem dX6_count_10 : decode (mc mX6_count) 10 = .ok (.ldc 61, 2) := by decide +kernel
theorem dX6_count_12 : decode (mc mX6_count) 12 = .ok (.ireturn, 1) := by decide +kernel
theorem dX6_count_13 : decode (mc mX6_count) 13 = .ok (.iload_n 1, 1) := by decide +kernel
theorem dX6_count_14 : decode (mc mX6_count) 14 = .ok (.bipush 13, 2) := by decide +kernel
theorem dX6_count_16 : decode (mc mX6_count) 16 = .ok (.if_icmp .ne 13, 3) := by decide +kernel
theorem dX6_count_19 : decode (mc mX6_count) 19 = .ok (.aload_n 0, 1) := by decide +kernel
theorem dX6_count_20 : decode (mc mX6_count) 20 = .ok (.getfield 26, 3) := by decide +kernel
theorem dX6_count_23 : decode (mc mX6_count) 23 = .ok (.getfield 83, 3) := by decide +kernel
theorem dX6_count_26 : decode (mc mX6_count) 26 = .ok (.goto 11, 3) := by decide +kernel
theorem dX6_count_29 : decode (mc mX6_count) 29 = .ok (.aload_n 0, 1) := by decide +kernel
theorem dX6_count_30 : decode (mc mX6_count) 30 = .ok (.getfield 10, 3) := by decide +kernel
theorem dX6_count_33 : decode (mc mX6_count) 33 = .ok (.iload_n 1, 1) := by decide +kernel
theorem dX6_count_34 : decode (mc mX6_count) 34 = .ok (.invokevirtual 87, 3) := by decide +kernel
theorem dX6_count_37 : decode (mc mX6_count) 37 = .ok (.ireturn, 1) := by decide +kernel
theorem dX6_member_0 : decode (mc mX6_member) 0 = .ok (.aload_n 0, 1) := by decide +kernel
theorem dX6_member_1 : decode (mc mX6_member) 1 = .ok (.getfield 10, 3) := by decide +kernel
theorem dX6_member_4 : decode (mc mX6_member) 4 = .ok (.iload_n 1, 1) := by decide +kernel
theorem dX6_member_5 : decode (mc mX6_member) 5 = .ok (.invokevirtual 56, 3) := by decide +kernel
theorem dX6_member_8 : decode (mc mX6_member) 8 = .ok (.ifCond .ne 6, 3) := by decide +kernel
theorem dX6_member_11 : decode (mc mX6_member) 11 = .ok (.ldc 60, 2) := by decide +kernel
theorem dX6_member_13 : decode (mc mX6_member) 13 = .ok (.ireturn, 1) := by decide +kernel
theorem dX6_member_14 : decode (mc mX6_member) 14 = .ok (.iload_n 2, 1) := by decide +kernel
theorem dX6_member_15 : decode (mc mX6_member) 15 = .ok (.ifCond .lt 8, 3) := by decide +kernel
theorem dX6_member_18 : decode (mc mX6_member) 18 = .ok (.iload_n 2, 1) := by decide +kernel
theorem dX6_member_19 : decode (mc mX6_member) 19 = .ok (.iconst 5, 1) := by decide +kernel
theorem dX6_member_20 : decode (mc mX6_member) 20 = .ok (.if_icmp .lt 6, 3) := by decide +kernel
theorem dX6_member_23 : decode (mc mX6_member) 23 = .ok (.ldc 61, 2) := by decide +kernel
theorem dX6_member_25 : decode (mc mX6_member) 25 = .ok (.ireturn, 1) := by decide +kernel
theorem dX6_member_26 : decode (mc mX6_member) 26 = .ok (.aload_n 0, 1) := by decide +kernel
theorem dX6_member_27 : decode (mc mX6_member) 27 = .ok (.getfield 10, 3) := by decide +kernel
theorem dX6_member_30 : decode (mc mX6_member) 30 = .ok (.iload_n 1, 1) := by decide +kernel
theorem dX6_member_31 : decode (mc mX6_member) 31 = .ok (.iload_n 2, 1) := by decide +kernel
theorem dX6_member_32 : decode (mc mX6_member) 32 = .ok (.invokevirtual 90, 3) := by decide +kernel
theorem dX6_member_35 : decode (mc mX6_member) 35 = .ok (.ireturn, 1) := by decide +kernel
theorem dX6_addPhrase_0 : decode (mc mX6_addPhrase) 0 = .ok (.aload_n 0, 1) := by decide +kernel
theorem dX6_addPhrase_1 : decode (mc mX6_addPhrase) 1 = .ok (.getfield 10, 3) := by decide +kernel
theorem dX6_addPhrase_4 : decode (mc mX6_addPhrase) 4 = .ok (.iload_n 1, 1) := by decide +kernel
theorem dX6_addPhrase_5 : decode (mc mX6_addPhrase) 5 = .ok (.invokevirtual 56, 3) := by decide +kernel
theorem dX6_addPhrase_8 : decode (mc mX6_addPhrase) 8 = .ok (.ifCond .eq 20, 3) := by decide +kernel
theorem dX6_addPhrase_11 : decode (mc mX6_addPhrase) 11 = .ok (.iload_n 3, 1) := by decide +kernel
theorem dX6_addPhrase_12 : decode (mc mX6_addPhrase) 12 = .ok (.ldc 94, 2) := by decide +kernel
theorem dX6_addPhrase_14 : decode (mc mX6_addPhrase) 14 = .ok (.if_icmp .eq 17, 3) := by decide +kernel
theorem dX6_addPhrase_17 : decode (mc mX6_addPhrase) 17 = .ok (.aload_n 0, 1) := by decide +kernel
theorem dX6_addPhrase_18 : decode (mc mX6_addPhrase) 18 = .ok (.getfield 10, 3) := by decide +kernel
theorem dX6_addPhrase_21 : decode (mc mX6_addPhrase) 21 = .ok (.iload_n 3, 1) := by decide +kernel
theorem dX6_addPhrase_22 : decode (mc mX6_addPhrase) 22 = .ok (.invokevirtual 95, 3) := by decide +kernel
theorem dX6_addPhrase_25 : decode (mc mX6_addPhrase) 25 = .ok (.ifCond .ne 6, 3) := by decide +kernel
theorem dX6_addPhrase_28 : decode (mc mX6_addPhrase) 28 = .ok (.ldc 60, 2) := by decide +kernel
theorem dX6_addPhrase_30 : decode (mc mX6_addPhrase) 30 = .ok (.ireturn, 1) := by decide +kernel
theorem dX6_addPhrase_31 : decode (mc mX6_addPhrase) 31 = .ok (.iload_n 2, 1) := by decide +kernel
theorem dX6_addPhrase_32 : decode (mc mX6_addPhrase) 32 = .ok (.ifCond .lt 10, 3) := by decide +kernel
theorem dX6_addPhrase_35 : decode (mc mX6_addPhrase) 35 = .ok (.iload_n 2, 1) := by decide +kernel
theorem dX6_addPhrase_36 : decode (mc mX6_addPhrase) 36 = .ok (.sipush 999, 3) := by decide +kernel
theorem dX6_addPhrase_39 : decode (mc mX6_addPhrase) 39 = .ok (.if_icmp .le 6, 3) := by decide +kernel
theorem dX6_addPhrase_42 : decode (mc mX6_addPhrase) 42 = .ok (.ldc 61, 2) := by decide +kernel
theorem dX6_addPhrase_44 : decode (mc mX6_addPhrase) 44 = .ok (.ireturn, 1) := by decide +kernel
theorem dX6_addPhrase_45 : decode (mc mX6_addPhrase) 45 = .ok (.aload_n 0, 1) := by decide +kernel
theorem dX6_addPhrase_46 : decode (mc mX6_addPhrase) 46 = .ok (.getfield 26, 3) := by decide +kernel
theorem dX6_addPhrase_49 : decode (mc mX6_addPhrase) 49 = .ok (.invokevirtual 98, 3) := by decide +kernel
theorem dX6_addPhrase_52 : decode (mc mX6_addPhrase) 52 = .ok (.ifCond .ne 20, 3) := by decide +kernel
theorem dX6_addPhrase_55 : decode (mc mX6_addPhrase) 55 = .ok (.iload_n 3, 1) := by decide +kernel
theorem dX6_addPhrase_56 : decode (mc mX6_addPhrase) 56 = .ok (.ldc 94, 2) := by decide +kernel
theorem dX6_addPhrase_58 : decode (mc mX6_addPhrase) 58 = .ok (.if_icmp .eq 17, 3) := by decide +kernel
theorem dX6_addPhrase_61 : decode (mc mX6_addPhrase) 61 = .ok (.aload_n 0, 1) := by decide +kernel
theorem dX6_addPhrase_62 : decode (mc mX6_addPhrase) 62 = .ok (.getfield 10, 3) := by decide +kernel
theorem dX6_addPhrase_65 : decode (mc mX6_addPhrase) 65 = .ok (.iload_n 3, 1) := by decide +kernel
theorem dX6_addPhrase_66 : decode (mc mX6_addPhrase) 66 = .ok (.invokevirtual 102, 3) := by decide +kernel
theorem dX6_addPhrase_69 : decode (mc mX6_addPhrase) 69 = .ok (.ifCond .ne 6, 3) := by decide +kernel
theorem dX6_addPhrase_72 : decode (mc mX6_addPhrase) 72 = .ok (.ldc 105, 2) := by decide +kernel
theorem dX6_addPhrase_74 : decode (mc mX6_addPhrase) 74 = .ok (.ireturn, 1) := by decide +kernel
theorem dX6_addPhrase_75 : decode (mc mX6_addPhrase) 75 = .ok (.aload_n 0, 1) := by decide +kernel
theorem dX6_addPhrase_76 : decode (mc mX6_addPhrase) 76 = .ok (.getfield 10, 3) := by decide +kernel
theorem dX6_addPhrase_79 : decode (mc mX6_addPhrase) 79 = .ok (.invokevirtual 106, 3) := by decide +kernel
theorem dX6_addPhrase_82 : decode (mc mX6_addPhrase) 82 = .ok (.bipush 20, 2) := by decide +kernel
theorem dX6_addPhrase_84 : decode (mc mX6_addPhrase) 84 = .ok (.if_icmp .lt 6, 3) := by decide +kernel
theorem dX6_addPhrase_87 : decode (mc mX6_addPhrase) 87 = .ok (.ldc 48, 2) := by decide +kernel
theorem dX6_addPhrase_89 : decode (mc mX6_addPhrase) 89 = .ok (.ireturn, 1) := by decide +kernel
theorem dX6_addPhrase_90 : decode (mc mX6_addPhrase) 90 = .ok (.aload_n 0, 1) := by decide +kernel
theorem dX6_addPhrase_91 : decode (mc mX6_addPhrase) 91 = .ok (.getfield 19, 3) := by decide +kernel
theorem dX6_addPhrase_94 : decode (mc mX6_addPhrase) 94 = .ok (.aload_n 0, 1) := by decide +kernel
theorem dX6_addPhrase_95 : decode (mc mX6_addPhrase) 95 = .ok (.getfield 10, 3) := by decide +kernel
theorem dX6_addPhrase_98 : decode (mc mX6_addPhrase) 98 = .ok (.invokevirtual 49, 3) := by decide +kernel
theorem dX6_addPhrase_101 : decode (mc mX6_addPhrase) 101 = .ok (.aload_n 0, 1) := by decide +kernel
theorem dX6_addPhrase_102 : decode (mc mX6_addPhrase) 102 = .ok (.getfield 26, 3) := by decide +kernel
theorem dX6_addPhrase_105 : decode (mc mX6_addPhrase) 105 = .ok (.aload_n 0, 1) := by decide +kernel
theorem dX6_addPhrase_106 : decode (mc mX6_addPhrase) 106 = .ok (.getfield 33, 3) := by decide +kernel
theorem dX6_addPhrase_109 : decode (mc mX6_addPhrase) 109 = .ok (.invokevirtual 109, 3) := by decide +kernel
theorem dX6_addPhrase_112 : decode (mc mX6_addPhrase) 112 = .ok (.aload_n 0, 1) := by decide +kernel
theorem dX6_addPhrase_113 : decode (mc mX6_addPhrase) 113 = .ok (.getfield 10, 3) := by decide +kernel
theorem dX6_addPhrase_116 : decode (mc mX6_addPhrase) 116 = .ok (.iload_n 1, 1) := by decide +kernel
theorem dX6_addPhrase_117 : decode (mc mX6_addPhrase) 117 = .ok (.iload_n 2, 1) := by decide +kernel
theorem dX6_addPhrase_118 : decode (mc mX6_addPhrase) 118 = .ok (.iload_n 3, 1) := by decide +kernel
theorem dX6_addPhrase_119 : decode (mc mX6_addPhrase) 119 = .ok (.aload_n 0, 1) := by decide +kernel
theorem dX6_addPhrase_120 : decode (mc mX6_addPhrase) 120 = .ok (.getfield 33, 3) := by decide +kernel
theorem dX6_addPhrase_123 : decode (mc mX6_addPhrase) 123 = .ok (.invokevirtual 113, 3) := by decide +kernel
theorem dX6_addPhrase_126 : decode (mc mX6_addPhrase) 126 = .ok (.ireturn, 1) := by decide +kernel
theorem dX6_phrase_0 : decode (mc mX6_phrase) 0 = .ok (.aload_n 0, 1) := by decide +kernel
theorem dX6_phrase_1 : decode (mc mX6_phrase) 1 = .ok (.getfield 10, 3) := by decide +kernel
theorem dX6_phrase_4 : decode (mc mX6_phrase) 4 = .ok (.iload_n 1, 1) := by decide +kernel
theorem dX6_phrase_5 : decode (mc mX6_phrase) 5 = .ok (.invokevirtual 95, 3) := by decide +kernel
theorem dX6_phrase_8 : decode (mc mX6_phrase) 8 = .ok (.ifCond .ne 6, 3) := by decide +kernel
theorem dX6_phrase_11 : decode (mc mX6_phrase) 11 = .ok (.ldc 60, 2) := by decide +kernel
theorem dX6_phrase_13 : decode (mc mX6_phrase) 13 = .ok (.ireturn, 1) := by decide +kernel
theorem dX6_phrase_14 : decode (mc mX6_phrase) 14 = .ok (.iload_n 2, 1) := by decide +kernel
theorem dX6_phrase_15 : decode (mc mX6_phrase) 15 = .ok (.ifCond .lt 9, 3) := by decide +kernel
theorem dX6_phrase_18 : decode (mc mX6_phrase) 18 = .ok (.iload_n 2, 1) := by decide +kernel
theorem dX6_phrase_19 : decode (mc mX6_phrase) 19 = .ok (.bipush 7, 2) := by decide +kernel
theorem dX6_phrase_21 : decode (mc mX6_phrase) 21 = .ok (.if_icmp .lt 6, 3) := by decide +kernel
theorem dX6_phrase_24 : decode (mc mX6_phrase) 24 = .ok (.ldc 61, 2) := by decide +kernel
theorem dX6_phrase_26 : decode (mc mX6_phrase) 26 = .ok (.ireturn, 1) := by decide +kernel
theorem dX6_phrase_27 : decode (mc mX6_phrase) 27 = .ok (.aload_n 0, 1) := by decide +kernel
theorem dX6_phrase_28 : decode (mc mX6_phrase) 28 = .ok (.getfield 10, 3) := by decide +kernel
theorem dX6_phrase_31 : decode (mc mX6_phrase) 31 = .ok (.iload_n 1, 1) := by decide +kernel
theorem dX6_phrase_32 : decode (mc mX6_phrase) 32 = .ok (.iload_n 2, 1) := by decide +kernel
theorem dX6_phrase_33 : decode (mc mX6_phrase) 33 = .ok (.invokevirtual 117, 3) := by decide +kernel
theorem dX6_phrase_36 : decode (mc mX6_phrase) 36 = .ok (.ireturn, 1) := by decide +kernel
theorem dX6_word_0 : decode (mc mX6_word) 0 = .ok (.aload_n 0, 1) := by decide +kernel
theorem dX6_word_1 : decode (mc mX6_word) 1 = .ok (.getfield 10, 3) := by decide +kernel
theorem dX6_word_4 : decode (mc mX6_word) 4 = .ok (.iload_n 1, 1) := by decide +kernel
theorem dX6_word_5 : decode (mc mX6_word) 5 = .ok (.invokevirtual 95, 3) := by decide +kernel
theorem dX6_word_8 : decode (mc mX6_word) 8 = .ok (.ifCond .ne 6, 3) := by decide +kernel
theorem dX6_word_11 : decode (mc mX6_word) 11 = .ok (.ldc 60, 2) := by decide +kernel
theorem dX6_word_13 : decode (mc mX6_word) 13 = .ok (.ireturn, 1) := by decide +kernel
theorem dX6_word_14 : decode (mc mX6_word) 14 = .ok (.iload_n 2, 1) := by decide +kernel
theorem dX6_word_15 : decode (mc mX6_word) 15 = .ok (.ifCond .ge 6, 3) := by decide +kernel
theorem dX6_word_18 : decode (mc mX6_word) 18 = .ok (.ldc 61, 2) := by decide +kernel
theorem dX6_word_20 : decode (mc mX6_word) 20 = .ok (.ireturn, 1) := by decide +kernel
theorem dX6_word_21 : decode (mc mX6_word) 21 = .ok (.iload_n 2, 1) := by decide +kernel
theorem dX6_word_22 : decode (mc mX6_word) 22 = .ok (.aload_n 0, 1) := by decide +kernel
theorem dX6_word_23 : decode (mc mX6_word) 23 = .ok (.getfield 10, 3) := by decide +kernel
theorem dX6_word_26 : decode (mc mX6_word) 26 = .ok (.iload_n 1, 1) := by decide +kernel
theorem dX6_word_27 : decode (mc mX6_word) 27 = .ok (.invokevirtual 120, 3) := by decide +kernel
theorem dX6_word_30 : decode (mc mX6_word) 30 = .ok (.if_icmp .ge 15, 3) := by decide +kernel
theorem dX6_word_33 : decode (mc mX6_word) 33 = .ok (.aload_n 0, 1) := by decide +kernel
theorem dX6_word_34 : decode (mc mX6_word) 34 = .ok (.getfield 10, 3) := by decide +kernel
theorem dX6_word_37 : decode (mc mX6_word) 37 = .ok (.iload_n 1, 1) := by decide +kernel
theorem dX6_word_38 : decode (mc mX6_word) 38 = .ok (.iload_n 2, 1) := by decide +kernel
theorem dX6_word_39 : decode (mc mX6_word) 39 = .ok (.invokevirtual 123, 3) := by decide +kernel
theorem dX6_word_42 : decode (mc mX6_word) 42 = .ok (.goto 5, 3) := by decide +kernel
theorem dX6_word_45 : decode (mc mX6_word) 45 = .ok (.ldc 94, 2) := by decide +kernel
theorem dX6_word_47 : decode (mc mX6_word) 47 = .ok (.ireturn, 1) := by decide +kernel
theorem dX6_score_0 : decode (mc mX6_score) 0 = .ok (.aload_n 0, 1) := by decide +kernel
theorem dX6_score_1 : decode (mc mX6_score) 1 = .ok (.getfield 10, 3) := by decide +kernel
theorem dX6_score_4 : decode (mc mX6_score) 4 = .ok (.iload_n 1, 1) := by decide +kernel
theorem dX6_score_5 : decode (mc mX6_score) 5 = .ok (.invokevirtual 95, 3) := by decide +kernel
theorem dX6_score_8 : decode (mc mX6_score) 8 = .ok (.ifCond .eq 14, 3) := by decide +kernel
theorem dX6_score_11 : decode (mc mX6_score) 11 = .ok (.aload_n 0, 1) := by decide +kernel
theorem dX6_score_12 : decode (mc mX6_score) 12 = .ok (.getfield 10, 3) := by decide +kernel
theorem dX6_score_15 : decode (mc mX6_score) 15 = .ok (.iload_n 2, 1) := by decide +kernel
theorem dX6_score_16 : decode (mc mX6_score) 16 = .ok (.invokevirtual 95, 3) := by decide +kernel
theorem dX6_score_19 : decode (mc mX6_score) 19 = .ok (.ifCond .ne 6, 3) := by decide +kernel
theorem dX6_score_22 : decode (mc mX6_score) 22 = .ok (.ldc 60, 2) := by decide +kernel
theorem dX6_score_24 : decode (mc mX6_score) 24 = .ok (.ireturn, 1) := by decide +kernel
theorem dX6_score_25 : decode (mc mX6_score) 25 = .ok (.aload_n 0, 1) := by decide +kernel
theorem dX6_score_26 : decode (mc mX6_score) 26 = .ok (.getfield 10, 3) := by decide +kernel
theorem dX6_score_29 : decode (mc mX6_score) 29 = .ok (.iload_n 1, 1) := by decide +kernel
theorem dX6_score_30 : decode (mc mX6_score) 30 = .ok (.iload_n 2, 1) := by decide +kernel
theorem dX6_score_31 : decode (mc mX6_score) 31 = .ok (.invokevirtual 126, 3) := by decide +kernel
theorem dX6_score_34 : decode (mc mX6_score) 34 = .ok (.ireturn, 1) := by decide +kernel
theorem dX6_match_0 : decode (mc mX6_match) 0 = .ok (.aload_n 0, 1) := by decide +kernel
theorem dX6_match_1 : decode (mc mX6_match) 1 = .ok (.getfield 26, 3) := by decide +kernel
theorem dX6_match_4 : decode (mc mX6_match) 4 = .ok (.invokevirtual 98, 3) := by decide +kernel
theorem dX6_match_7 : decode (mc mX6_match) 7 = .ok (.ifCond .eq 8, 3) := by decide +kernel
theorem dX6_match_10 : decode (mc mX6_match) 10 = .ok (.ldc 105, 2) := by decide +kernel
theorem dX6_match_12 : decode (mc mX6_match) 12 = .ok (.goto 7, 3) := by decide +kernel
theorem dX6_match_15 : decode (mc mX6_match) 15 = .ok (.aload_n 0, 1) := by decide +kernel
theorem dX6_match_16 : decode (mc mX6_match) 16 = .ok (.invokevirtual 140, 3) := by decide +kernel
theorem dX6_match_19 : decode (mc mX6_match) 19 = .ok (.ireturn, 1) := by decide +kernel
theorem dX6_alike_0 : decode (mc mX6_alike) 0 = .ok (.aload_n 0, 1) := by decide +kernel
theorem dX6_alike_1 : decode (mc mX6_alike) 1 = .ok (.getfield 10, 3) := by decide +kernel
theorem dX6_alike_4 : decode (mc mX6_alike) 4 = .ok (.iload_n 1, 1) := by decide +kernel
theorem dX6_alike_5 : decode (mc mX6_alike) 5 = .ok (.invokevirtual 95, 3) := by decide +kernel
theorem dX6_alike_8 : decode (mc mX6_alike) 8 = .ok (.ifCond .ne 6, 3) := by decide +kernel
theorem dX6_alike_11 : decode (mc mX6_alike) 11 = .ok (.ldc 60, 2) := by decide +kernel
theorem dX6_alike_13 : decode (mc mX6_alike) 13 = .ok (.ireturn, 1) := by decide +kernel
theorem dX6_alike_14 : decode (mc mX6_alike) 14 = .ok (.aload_n 0, 1) := by decide +kernel
theorem dX6_alike_15 : decode (mc mX6_alike) 15 = .ok (.getfield 26, 3) := by decide +kernel
theorem dX6_alike_18 : decode (mc mX6_alike) 18 = .ok (.invokevirtual 98, 3) := by decide +kernel
theorem dX6_alike_21 : decode (mc mX6_alike) 21 = .ok (.ifCond .eq 6, 3) := by decide +kernel
theorem dX6_alike_24 : decode (mc mX6_alike) 24 = .ok (.ldc 105, 2) := by decide +kernel
theorem dX6_alike_26 : decode (mc mX6_alike) 26 = .ok (.ireturn, 1) := by decide +kernel
theorem dX6_alike_27 : decode (mc mX6_alike) 27 = .ok (.aload_n 0, 1) := by decide +kernel
theorem dX6_alike_28 : decode (mc mX6_alike) 28 = .ok (.getfield 26, 3) := by decide +kernel
theorem dX6_alike_31 : decode (mc mX6_alike) 31 = .ok (.aload_n 0, 1) := by decide +kernel
theorem dX6_alike_32 : decode (mc mX6_alike) 32 = .ok (.getfield 33, 3) := by decide +kernel
theorem dX6_alike_35 : decode (mc mX6_alike) 35 = .ok (.invokevirtual 109, 3) := by decide +kernel
theorem dX6_alike_38 : decode (mc mX6_alike) 38 = .ok (.aload_n 0, 1) := by decide +kernel
theorem dX6_alike_39 : decode (mc mX6_alike) 39 = .ok (.getfield 10, 3) := by decide +kernel
theorem dX6_alike_42 : decode (mc mX6_alike) 42 = .ok (.aload_n 0, 1) := by decide +kernel
theorem dX6_alike_43 : decode (mc mX6_alike) 43 = .ok (.getfield 33, 3) := by decide +kernel
theorem dX6_alike_46 : decode (mc mX6_alike) 46 = .ok (.iload_n 1, 1) := by decide +kernel
theorem dX6_alike_47 : decode (mc mX6_alike) 47 = .ok (.invokevirtual 143, 3) := by decide +kernel
theorem dX6_alike_50 : decode (mc mX6_alike) 50 = .ok (.ireturn, 1) := by decide +kernel
theorem dX6_fee_0 : decode (mc mX6_fee) 0 = .ok (.aload_n 0, 1) := by decide +kernel
theorem dX6_fee_1 : decode (mc mX6_fee) 1 = .ok (.getfield 10, 3) := by decide +kernel
theorem dX6_fee_4 : decode (mc mX6_fee) 4 = .ok (.iload_n 1, 1) := by decide +kernel
theorem dX6_fee_5 : decode (mc mX6_fee) 5 = .ok (.invokevirtual 56, 3) := by decide +kernel
theorem dX6_fee_8 : decode (mc mX6_fee) 8 = .ok (.ifCond .ne 6, 3) := by decide +kernel
theorem dX6_fee_11 : decode (mc mX6_fee) 11 = .ok (.ldc 60, 2) := by decide +kernel
theorem dX6_fee_13 : decode (mc mX6_fee) 13 = .ok (.ireturn, 1) := by decide +kernel
theorem dX6_fee_14 : decode (mc mX6_fee) 14 = .ok (.aload_n 0, 1) := by decide +kernel
theorem dX6_fee_15 : decode (mc mX6_fee) 15 = .ok (.getfield 26, 3) := by decide +kernel
theorem dX6_fee_18 : decode (mc mX6_fee) 18 = .ok (.invokevirtual 98, 3) := by decide +kernel
theorem dX6_fee_21 : decode (mc mX6_fee) 21 = .ok (.ifCond .eq 6, 3) := by decide +kernel
theorem dX6_fee_24 : decode (mc mX6_fee) 24 = .ok (.ldc 105, 2) := by decide +kernel
theorem dX6_fee_26 : decode (mc mX6_fee) 26 = .ok (.ireturn, 1) := by decide +kernel
theorem dX6_fee_27 : decode (mc mX6_fee) 27 = .ok (.aload_n 0, 1) := by decide +kernel
theorem dX6_fee_28 : decode (mc mX6_fee) 28 = .ok (.invokevirtual 140, 3) := by decide +kernel
theorem dX6_fee_31 : decode (mc mX6_fee) 31 = .ok (.istore_n 2, 1) := by decide +kernel
theorem dX6_fee_32 : decode (mc mX6_fee) 32 = .ok (.iload_n 2, 1) := by decide +kernel
theorem dX6_fee_33 : decode (mc mX6_fee) 33 = .ok (.ldc 94, 2) := by decide +kernel
theorem dX6_fee_35 : decode (mc mX6_fee) 35 = .ok (.if_icmp .ne 8, 3) := by decide +kernel
theorem dX6_fee_38 : decode (mc mX6_fee) 38 = .ok (.ldc 94, 2) := by decide +kernel
theorem dX6_fee_40 : decode (mc mX6_fee) 40 = .ok (.goto 24, 3) := by decide +kernel
theorem dX6_fee_43 : decode (mc mX6_fee) 43 = .ok (.aload_n 0, 1) := by decide +kernel
theorem dX6_fee_44 : decode (mc mX6_fee) 44 = .ok (.getfield 10, 3) := by decide +kernel
theorem dX6_fee_47 : decode (mc mX6_fee) 47 = .ok (.iload_n 1, 1) := by decide +kernel
theorem dX6_fee_48 : decode (mc mX6_fee) 48 = .ok (.iload_n 2, 1) := by decide +kernel
theorem dX6_fee_49 : decode (mc mX6_fee) 49 = .ok (.aload_n 0, 1) := by decide +kernel
theorem dX6_fee_50 : decode (mc mX6_fee) 50 = .ok (.getfield 10, 3) := by decide +kernel
theorem dX6_fee_53 : decode (mc mX6_fee) 53 = .ok (.aload_n 0, 1) := by decide +kernel
theorem dX6_fee_54 : decode (mc mX6_fee) 54 = .ok (.getfield 33, 3) := by decide +kernel
theorem dX6_fee_57 : decode (mc mX6_fee) 57 = .ok (.iload_n 2, 1) := by decide +kernel
theorem dX6_fee_58 : decode (mc mX6_fee) 58 = .ok (.invokevirtual 143, 3) := by decide +kernel
theorem dX6_fee_61 : decode (mc mX6_fee) 61 = .ok (.invokevirtual 147, 3) := by decide +kernel
theorem dX6_fee_64 : decode (mc mX6_fee) 64 = .ok (.ireturn, 1) := by decide +kernel
theorem dX6_use_0 : decode (mc mX6_use) 0 = .ok (.aload_n 0, 1) := by decide +kernel
theorem dX6_use_1 : decode (mc mX6_use) 1 = .ok (.getfield 10, 3) := by decide +kernel
theorem dX6_use_4 : decode (mc mX6_use) 4 = .ok (.iload_n 1, 1) := by decide +kernel
theorem dX6_use_5 : decode (mc mX6_use) 5 = .ok (.invokevirtual 56, 3) := by decide +kernel
theorem dX6_use_8 : decode (mc mX6_use) 8 = .ok (.ifCond .ne 6, 3) := by decide +kernel
theorem dX6_use_11 : decode (mc mX6_use) 11 = .ok (.ldc 60, 2) := by decide +kernel
theorem dX6_use_13 : decode (mc mX6_use) 13 = .ok (.ireturn, 1) := by decide +kernel
theorem dX6_use_14 : decode (mc mX6_use) 14 = .ok (.aload_n 0, 1) := by decide +kernel
theorem dX6_use_15 : decode (mc mX6_use) 15 = .ok (.getfield 26, 3) := by decide +kernel
theorem dX6_use_18 : decode (mc mX6_use) 18 = .ok (.invokevirtual 98, 3) := by decide +kernel
theorem dX6_use_21 : decode (mc mX6_use) 21 = .ok (.ifCond .eq 6, 3) := by decide +kernel
theorem dX6_use_24 : decode (mc mX6_use) 24 = .ok (.ldc 105, 2) := by decide +kernel
theorem dX6_use_26 : decode (mc mX6_use) 26 = .ok (.ireturn, 1) := by decide +kernel
theorem dX6_use_27 : decode (mc mX6_use) 27 = .ok (.aload_n 0, 1) := by decide +kernel
theorem dX6_use_28 : decode (mc mX6_use) 28 = .ok (.getfield 10, 3) := by decide +kernel
theorem dX6_use_31 : decode (mc mX6_use) 31 = .ok (.invokevirtual 151, 3) := by decide +kernel
theorem dX6_use_34 : decode (mc mX6_use) 34 = .ok (.bipush 24, 2) := by decide +kernel
theorem dX6_use_36 : decode (mc mX6_use) 36 = .ok (.if_icmp .lt 6, 3) := by decide +kernel
theorem dX6_use_39 : decode (mc mX6_use) 39 = .ok (.ldc 48, 2) := by decide +kernel
theorem dX6_use_41 : decode (mc mX6_use) 41 = .ok (.ireturn, 1) := by decide +kernel
theorem dX6_use_42 : decode (mc mX6_use) 42 = .ok (.aload_n 0, 1) := by decide +kernel
theorem dX6_use_43 : decode (mc mX6_use) 43 = .ok (.getfield 19, 3) := by decide +kernel
theorem dX6_use_46 : decode (mc mX6_use) 46 = .ok (.aload_n 0, 1) := by decide +kernel
theorem dX6_use_47 : decode (mc mX6_use) 47 = .ok (.getfield 10, 3) := by decide +kernel
theorem dX6_use_50 : decode (mc mX6_use) 50 = .ok (.invokevirtual 49, 3) := by decide +kernel
theorem dX6_use_53 : decode (mc mX6_use) 53 = .ok (.aload_n 0, 1) := by decide +kernel
theorem dX6_use_54 : decode (mc mX6_use) 54 = .ok (.invokevirtual 140, 3) := by decide +kernel
theorem dX6_use_57 : decode (mc mX6_use) 57 = .ok (.istore_n 2, 1) := by decide +kernel
theorem dX6_use_58 : decode (mc mX6_use) 58 = .ok (.iload_n 2, 1) := by decide +kernel
theorem dX6_use_59 : decode (mc mX6_use) 59 = .ok (.ldc 94, 2) := by decide +kernel
theorem dX6_use_61 : decode (mc mX6_use) 61 = .ok (.if_icmp .ne 8, 3) := by decide +kernel
theorem dX6_use_64 : decode (mc mX6_use) 64 = .ok (.ldc 94, 2) := by decide +kernel
theorem dX6_use_66 : decode (mc mX6_use) 66 = .ok (.goto 24, 3) := by decide +kernel
theorem dX6_use_69 : decode (mc mX6_use) 69 = .ok (.aload_n 0, 1) := by decide +kernel
theorem dX6_use_70 : decode (mc mX6_use) 70 = .ok (.getfield 10, 3) := by decide +kernel
theorem dX6_use_73 : decode (mc mX6_use) 73 = .ok (.iload_n 1, 1) := by decide +kernel
theorem dX6_use_74 : decode (mc mX6_use) 74 = .ok (.iload_n 2, 1) := by decide +kernel
theorem dX6_use_75 : decode (mc mX6_use) 75 = .ok (.aload_n 0, 1) := by decide +kernel
theorem dX6_use_76 : decode (mc mX6_use) 76 = .ok (.getfield 10, 3) := by decide +kernel
theorem dX6_use_79 : decode (mc mX6_use) 79 = .ok (.aload_n 0, 1) := by decide +kernel
theorem dX6_use_80 : decode (mc mX6_use) 80 = .ok (.getfield 33, 3) := by decide +kernel
theorem dX6_use_83 : decode (mc mX6_use) 83 = .ok (.iload_n 2, 1) := by decide +kernel
theorem dX6_use_84 : decode (mc mX6_use) 84 = .ok (.invokevirtual 143, 3) := by decide +kernel
theorem dX6_use_87 : decode (mc mX6_use) 87 = .ok (.invokevirtual 154, 3) := by decide +kernel
theorem dX6_use_90 : decode (mc mX6_use) 90 = .ok (.ireturn, 1) := by decide +kernel
theorem dX6_note_0 : decode (mc mX6_note) 0 = .ok (.aload_n 0, 1) := by decide +kernel
theorem dX6_note_1 : decode (mc mX6_note) 1 = .ok (.getfield 10, 3) := by decide +kernel
theorem dX6_note_4 : decode (mc mX6_note) 4 = .ok (.iload_n 1, 1) := by decide +kernel
theorem dX6_note_5 : decode (mc mX6_note) 5 = .ok (.invokevirtual 157, 3) := by decide +kernel
theorem dX6_note_8 : decode (mc mX6_note) 8 = .ok (.ifCond .ne 6, 3) := by decide +kernel
theorem dX6_note_11 : decode (mc mX6_note) 11 = .ok (.ldc 60, 2) := by decide +kernel
theorem dX6_note_13 : decode (mc mX6_note) 13 = .ok (.ireturn, 1) := by decide +kernel
theorem dX6_note_14 : decode (mc mX6_note) 14 = .ok (.iload_n 2, 1) := by decide +kernel
theorem dX6_note_15 : decode (mc mX6_note) 15 = .ok (.ifCond .lt 9, 3) := by decide +kernel
theorem dX6_note_18 : decode (mc mX6_note) 18 = .ok (.iload_n 2, 1) := by decide +kernel
theorem dX6_note_19 : decode (mc mX6_note) 19 = .ok (.bipush 13, 2) := by decide +kernel
theorem dX6_note_21 : decode (mc mX6_note) 21 = .ok (.if_icmp .lt 6, 3) := by decide +kernel
theorem dX6_note_24 : decode (mc mX6_note) 24 = .ok (.ldc 61, 2) := by decide +kernel
theorem dX6_note_26 : decode (mc mX6_note) 26 = .ok (.ireturn, 1) := by decide +kernel
theorem dX6_note_27 : decode (mc mX6_note) 27 = .ok (.aload_n 0, 1) := by decide +kernel
theorem dX6_note_28 : decode (mc mX6_note) 28 = .ok (.getfield 10, 3) := by decide +kernel
theorem dX6_note_31 : decode (mc mX6_note) 31 = .ok (.iload_n 1, 1) := by decide +kernel
theorem dX6_note_32 : decode (mc mX6_note) 32 = .ok (.iload_n 2, 1) := by decide +kernel
theorem dX6_note_33 : decode (mc mX6_note) 33 = .ok (.invokevirtual 160, 3) := by decide +kernel
theorem dX6_note_36 : decode (mc mX6_note) 36 = .ok (.ireturn, 1) := by decide +kernel
theorem dX6_retract_0 : decode (mc mX6_retract) 0 = .ok (.aload_n 0, 1) := by decide +kernel
theorem dX6_retract_1 : decode (mc mX6_retract) 1 = .ok (.getfield 10, 3) := by decide +kernel
theorem dX6_retract_4 : decode (mc mX6_retract) 4 = .ok (.iload_n 1, 1) := by decide +kernel
theorem dX6_retract_5 : decode (mc mX6_retract) 5 = .ok (.invokevirtual 95, 3) := by decide +kernel
theorem dX6_retract_8 : decode (mc mX6_retract) 8 = .ok (.ifCond .ne 6, 3) := by decide +kernel
theorem dX6_retract_11 : decode (mc mX6_retract) 11 = .ok (.ldc 60, 2) := by decide +kernel
theorem dX6_retract_13 : decode (mc mX6_retract) 13 = .ok (.ireturn, 1) := by decide +kernel
theorem dX6_retract_14 : decode (mc mX6_retract) 14 = .ok (.aload_n 0, 1) := by decide +kernel
theorem dX6_retract_15 : decode (mc mX6_retract) 15 = .ok (.getfield 10, 3) := by decide +kernel
theorem dX6_retract_18 : decode (mc mX6_retract) 18 = .ok (.iload_n 1, 1) := by decide +kernel
theorem dX6_retract_19 : decode (mc mX6_retract) 19 = .ok (.invokevirtual 102, 3) := by decide +kernel
theorem dX6_retract_22 : decode (mc mX6_retract) 22 = .ok (.ifCond .ne 6, 3) := by decide +kernel
theorem dX6_retract_25 : decode (mc mX6_retract) 25 = .ok (.ldc 105, 2) := by decide +kernel
theorem dX6_retract_27 : decode (mc mX6_retract) 27 = .ok (.ireturn, 1) := by decide +kernel
theorem dX6_retract_28 : decode (mc mX6_retract) 28 = .ok (.aload_n 0, 1) := by decide +kernel
theorem dX6_retract_29 : decode (mc mX6_retract) 29 = .ok (.getfield 19, 3) := by decide +kernel
theorem dX6_retract_32 : decode (mc mX6_retract) 32 = .ok (.aload_n 0, 1) := by decide +kernel
theorem dX6_retract_33 : decode (mc mX6_retract) 33 = .ok (.getfield 10, 3) := by decide +kernel
theorem dX6_retract_36 : decode (mc mX6_retract) 36 = .ok (.invokevirtual 49, 3) := by decide +kernel
theorem dX6_retract_39 : decode (mc mX6_retract) 39 = .ok (.aload_n 0, 1) := by decide +kernel
theorem dX6_retract_40 : decode (mc mX6_retract) 40 = .ok (.getfield 10, 3) := by decide +kernel
theorem dX6_retract_43 : decode (mc mX6_retract) 43 = .ok (.iload_n 1, 1) := by decide +kernel
theorem dX6_retract_44 : decode (mc mX6_retract) 44 = .ok (.invokevirtual 163, 3) := by decide +kernel
theorem dX6_retract_47 : decode (mc mX6_retract) 47 = .ok (.aload_n 0, 1) := by decide +kernel
theorem dX6_retract_48 : decode (mc mX6_retract) 48 = .ok (.getfield 10, 3) := by decide +kernel
theorem dX6_retract_51 : decode (mc mX6_retract) 51 = .ok (.invokevirtual 167, 3) := by decide +kernel
theorem dX6_retract_54 : decode (mc mX6_retract) 54 = .ok (.aload_n 0, 1) := by decide +kernel
theorem dX6_retract_55 : decode (mc mX6_retract) 55 = .ok (.getfield 10, 3) := by decide +kernel
theorem dX6_retract_58 : decode (mc mX6_retract) 58 = .ok (.invokevirtual 170, 3) := by decide +kernel
theorem dX6_retract_61 : decode (mc mX6_retract) 61 = .ok (.ireturn, 1) := by decide +kernel
theorem dX6_wouldPayBack_0 : decode (mc mX6_wouldPayBack) 0 = .ok (.aload_n 0, 1) := by decide +kernel
theorem dX6_wouldPayBack_1 : decode (mc mX6_wouldPayBack) 1 = .ok (.getfield 10, 3) := by decide +kernel
theorem dX6_wouldPayBack_4 : decode (mc mX6_wouldPayBack) 4 = .ok (.iload_n 1, 1) := by decide +kernel
theorem dX6_wouldPayBack_5 : decode (mc mX6_wouldPayBack) 5 = .ok (.invokevirtual 95, 3) := by decide +kernel
theorem dX6_wouldPayBack_8 : decode (mc mX6_wouldPayBack) 8 = .ok (.ifCond .ne 6, 3) := by decide +kernel
theorem dX6_wouldPayBack_11 : decode (mc mX6_wouldPayBack) 11 = .ok (.ldc 60, 2) := by decide +kernel
theorem dX6_wouldPayBack_13 : decode (mc mX6_wouldPayBack) 13 = .ok (.ireturn, 1) := by decide +kernel
theorem dX6_wouldPayBack_14 : decode (mc mX6_wouldPayBack) 14 = .ok (.aload_n 0, 1) := by decide +kernel
theorem dX6_wouldPayBack_15 : decode (mc mX6_wouldPayBack) 15 = .ok (.getfield 10, 3) := by decide +kernel
theorem dX6_wouldPayBack_18 : decode (mc mX6_wouldPayBack) 18 = .ok (.iload_n 1, 1) := by decide +kernel
theorem dX6_wouldPayBack_19 : decode (mc mX6_wouldPayBack) 19 = .ok (.invokevirtual 102, 3) := by decide +kernel
theorem dX6_wouldPayBack_22 : decode (mc mX6_wouldPayBack) 22 = .ok (.ifCond .ne 6, 3) := by decide +kernel
theorem dX6_wouldPayBack_25 : decode (mc mX6_wouldPayBack) 25 = .ok (.ldc 105, 2) := by decide +kernel
theorem dX6_wouldPayBack_27 : decode (mc mX6_wouldPayBack) 27 = .ok (.ireturn, 1) := by decide +kernel
theorem dX6_wouldPayBack_28 : decode (mc mX6_wouldPayBack) 28 = .ok (.aload_n 0, 1) := by decide +kernel
theorem dX6_wouldPayBack_29 : decode (mc mX6_wouldPayBack) 29 = .ok (.getfield 10, 3) := by decide +kernel
theorem dX6_wouldPayBack_32 : decode (mc mX6_wouldPayBack) 32 = .ok (.iload_n 1, 1) := by decide +kernel
theorem dX6_wouldPayBack_33 : decode (mc mX6_wouldPayBack) 33 = .ok (.invokevirtual 163, 3) := by decide +kernel
theorem dX6_wouldPayBack_36 : decode (mc mX6_wouldPayBack) 36 = .ok (.aload_n 0, 1) := by decide +kernel
theorem dX6_wouldPayBack_37 : decode (mc mX6_wouldPayBack) 37 = .ok (.getfield 10, 3) := by decide +kernel
theorem dX6_wouldPayBack_40 : decode (mc mX6_wouldPayBack) 40 = .ok (.invokevirtual 173, 3) := by decide +kernel
theorem dX6_wouldPayBack_43 : decode (mc mX6_wouldPayBack) 43 = .ok (.ireturn, 1) := by decide +kernel
theorem dX6_pass_0 : decode (mc mX6_pass) 0 = .ok (.iload_n 1, 1) := by decide +kernel
theorem dX6_pass_1 : decode (mc mX6_pass) 1 = .ok (.iconst 1, 1) := by decide +kernel
theorem dX6_pass_2 : decode (mc mX6_pass) 2 = .ok (.if_icmp .lt 9, 3) := by decide +kernel
theorem dX6_pass_5 : decode (mc mX6_pass) 5 = .ok (.iload_n 1, 1) := by decide +kernel
theorem dX6_pass_6 : decode (mc mX6_pass) 6 = .ok (.bipush 100, 2) := by decide +kernel
theorem dX6_pass_8 : decode (mc mX6_pass) 8 = .ok (.if_icmp .le 6, 3) := by decide +kernel
theorem dX6_pass_11 : decode (mc mX6_pass) 11 = .ok (.ldc 61, 2) := by decide +kernel
theorem dX6_pass_13 : decode (mc mX6_pass) 13 = .ok (.ireturn, 1) := by decide +kernel
theorem dX6_pass_14 : decode (mc mX6_pass) 14 = .ok (.aload_n 0, 1) := by decide +kernel
theorem dX6_pass_15 : decode (mc mX6_pass) 15 = .ok (.getfield 10, 3) := by decide +kernel
theorem dX6_pass_18 : decode (mc mX6_pass) 18 = .ok (.invokevirtual 176, 3) := by decide +kernel
theorem dX6_pass_21 : decode (mc mX6_pass) 21 = .ok (.iload_n 1, 1) := by decide +kernel
theorem dX6_pass_22 : decode (mc mX6_pass) 22 = .ok (.iadd, 1) := by decide +kernel
theorem dX6_pass_23 : decode (mc mX6_pass) 23 = .ok (.sipush 10000, 3) := by decide +kernel
theorem dX6_pass_26 : decode (mc mX6_pass) 26 = .ok (.if_icmp .le 6, 3) := by decide +kernel
theorem dX6_pass_29 : decode (mc mX6_pass) 29 = .ok (.ldc 48, 2) := by decide +kernel
theorem dX6_pass_31 : decode (mc mX6_pass) 31 = .ok (.ireturn, 1) := by decide +kernel
theorem dX6_pass_32 : decode (mc mX6_pass) 32 = .ok (.aload_n 0, 1) := by decide +kernel
theorem dX6_pass_33 : decode (mc mX6_pass) 33 = .ok (.getfield 19, 3) := by decide +kernel
theorem dX6_pass_36 : decode (mc mX6_pass) 36 = .ok (.aload_n 0, 1) := by decide +kernel
theorem dX6_pass_37 : decode (mc mX6_pass) 37 = .ok (.getfield 10, 3) := by decide +kernel
theorem dX6_pass_40 : decode (mc mX6_pass) 40 = .ok (.invokevirtual 49, 3) := by decide +kernel
theorem dX6_pass_43 : decode (mc mX6_pass) 43 = .ok (.aload_n 0, 1) := by decide +kernel
theorem dX6_pass_44 : decode (mc mX6_pass) 44 = .ok (.getfield 10, 3) := by decide +kernel
theorem dX6_pass_47 : decode (mc mX6_pass) 47 = .ok (.iload_n 1, 1) := by decide +kernel
theorem dX6_pass_48 : decode (mc mX6_pass) 48 = .ok (.invokevirtual 179, 3) := by decide +kernel
theorem dX6_pass_51 : decode (mc mX6_pass) 51 = .ok (.ireturn, 1) := by decide +kernel
theorem dX6_cheapest_0 : decode (mc mX6_cheapest) 0 = .ok (.aload_n 0, 1) := by decide +kernel
theorem dX6_cheapest_1 : decode (mc mX6_cheapest) 1 = .ok (.getfield 10, 3) := by decide +kernel
theorem dX6_cheapest_4 : decode (mc mX6_cheapest) 4 = .ok (.iload_n 1, 1) := by decide +kernel
theorem dX6_cheapest_5 : decode (mc mX6_cheapest) 5 = .ok (.invokevirtual 56, 3) := by decide +kernel
theorem dX6_cheapest_8 : decode (mc mX6_cheapest) 8 = .ok (.ifCond .ne 6, 3) := by decide +kernel
theorem dX6_cheapest_11 : decode (mc mX6_cheapest) 11 = .ok (.ldc 60, 2) := by decide +kernel
theorem dX6_cheapest_13 : decode (mc mX6_cheapest) 13 = .ok (.ireturn, 1) := by decide +kernel
theorem dX6_cheapest_14 : decode (mc mX6_cheapest) 14 = .ok (.aload_n 0, 1) := by decide +kernel
theorem dX6_cheapest_15 : decode (mc mX6_cheapest) 15 = .ok (.getfield 26, 3) := by decide +kernel
theorem dX6_cheapest_18 : decode (mc mX6_cheapest) 18 = .ok (.invokevirtual 98, 3) := by decide +kernel
theorem dX6_cheapest_21 : decode (mc mX6_cheapest) 21 = .ok (.ifCond .eq 6, 3) := by decide +kernel
theorem dX6_cheapest_24 : decode (mc mX6_cheapest) 24 = .ok (.ldc 105, 2) := by decide +kernel
theorem dX6_cheapest_26 : decode (mc mX6_cheapest) 26 = .ok (.ireturn, 1) := by decide +kernel
theorem dX6_cheapest_27 : decode (mc mX6_cheapest) 27 = .ok (.aload_n 0, 1) := by decide +kernel
theorem dX6_cheapest_28 : decode (mc mX6_cheapest) 28 = .ok (.iload_n 1, 1) := by decide +kernel
theorem dX6_cheapest_29 : decode (mc mX6_cheapest) 29 = .ok (.invokevirtual 182, 3) := by decide +kernel
theorem dX6_cheapest_32 : decode (mc mX6_cheapest) 32 = .ok (.aload_n 0, 1) := by decide +kernel
theorem dX6_cheapest_33 : decode (mc mX6_cheapest) 33 = .ok (.getfield 40, 3) := by decide +kernel
theorem dX6_cheapest_36 : decode (mc mX6_cheapest) 36 = .ok (.invokevirtual 185, 3) := by decide +kernel
theorem dX6_cheapest_39 : decode (mc mX6_cheapest) 39 = .ok (.ireturn, 1) := by decide +kernel
theorem dX6_piece_0 : decode (mc mX6_piece) 0 = .ok (.aload_n 0, 1) := by decide +kernel
theorem dX6_piece_1 : decode (mc mX6_piece) 1 = .ok (.getfield 10, 3) := by decide +kernel
theorem dX6_piece_4 : decode (mc mX6_piece) 4 = .ok (.iload_n 1, 1) := by decide +kernel
theorem dX6_piece_5 : decode (mc mX6_piece) 5 = .ok (.invokevirtual 56, 3) := by decide +kernel
theorem dX6_piece_8 : decode (mc mX6_piece) 8 = .ok (.ifCond .ne 6, 3) := by decide +kernel
theorem dX6_piece_11 : decode (mc mX6_piece) 11 = .ok (.ldc 60, 2) := by decide +kernel
theorem dX6_piece_13 : decode (mc mX6_piece) 13 = .ok (.ireturn, 1) := by decide +kernel
theorem dX6_piece_14 : decode (mc mX6_piece) 14 = .ok (.iload_n 2, 1) := by decide +kernel
theorem dX6_piece_15 : decode (mc mX6_piece) 15 = .ok (.ifCond .ge 6, 3) := by decide +kernel
theorem dX6_piece_18 : decode (mc mX6_piece) 18 = .ok (.ldc 61, 2) := by decide +kernel
theorem dX6_piece_20 : decode (mc mX6_piece) 20 = .ok (.ireturn, 1) := by decide +kernel
theorem dX6_piece_21 : decode (mc mX6_piece) 21 = .ok (.aload_n 0, 1) := by decide +kernel
theorem dX6_piece_22 : decode (mc mX6_piece) 22 = .ok (.getfield 26, 3) := by decide +kernel
theorem dX6_piece_25 : decode (mc mX6_piece) 25 = .ok (.invokevirtual 98, 3) := by decide +kernel
theorem dX6_piece_28 : decode (mc mX6_piece) 28 = .ok (.ifCond .eq 6, 3) := by decide +kernel
theorem dX6_piece_31 : decode (mc mX6_piece) 31 = .ok (.ldc 105, 2) := by decide +kernel
theorem dX6_piece_33 : decode (mc mX6_piece) 33 = .ok (.ireturn, 1) := by decide +kernel
theorem dX6_piece_34 : decode (mc mX6_piece) 34 = .ok (.aload_n 0, 1) := by decide +kernel
theorem dX6_piece_35 : decode (mc mX6_piece) 35 = .ok (.iload_n 1, 1) := by decide +kernel
theorem dX6_piece_36 : decode (mc mX6_piece) 36 = .ok (.invokevirtual 182, 3) := by decide +kernel
theorem dX6_piece_39 : decode (mc mX6_piece) 39 = .ok (.aload_n 0, 1) := by decide +kernel
theorem dX6_piece_40 : decode (mc mX6_piece) 40 = .ok (.getfield 40, 3) := by decide +kernel
theorem dX6_piece_43 : decode (mc mX6_piece) 43 = .ok (.iload_n 2, 1) := by decide +kernel
theorem dX6_piece_44 : decode (mc mX6_piece) 44 = .ok (.invokevirtual 188, 3) := by decide +kernel
theorem dX6_piece_47 : decode (mc mX6_piece) 47 = .ok (.ireturn, 1) := by decide +kernel
theorem dX6_type_0 : decode (mc mX6_type) 0 = .ok (.iload_n 1, 1) := by decide +kernel
theorem dX6_type_1 : decode (mc mX6_type) 1 = .ok (.ifCond .lt 10, 3) := by decide +kernel
theorem dX6_type_4 : decode (mc mX6_type) 4 = .ok (.iload_n 1, 1) := by decide +kernel
theorem dX6_type_5 : decode (mc mX6_type) 5 = .ok (.sipush 255, 3) := by decide +kernel
theorem dX6_type_8 : decode (mc mX6_type) 8 = .ok (.if_icmp .le 6, 3) := by decide +kernel
theorem dX6_type_11 : decode (mc mX6_type) 11 = .ok (.ldc 61, 2) := by decide +kernel
theorem dX6_type_13 : decode (mc mX6_type) 13 = .ok (.ireturn, 1) := by decide +kernel
theorem dX6_type_14 : decode (mc mX6_type) 14 = .ok (.aload_n 0, 1) := by decide +kernel
theorem dX6_type_15 : decode (mc mX6_type) 15 = .ok (.getfield 26, 3) := by decide +kernel
theorem dX6_type_18 : decode (mc mX6_type) 18 = .ok (.getfield 83, 3) := by decide +kernel
theorem dX6_type_21 : decode (mc mX6_type) 21 = .ok (.bipush 40, 2) := by decide +kernel
theorem dX6_type_23 : decode (mc mX6_type) 23 = .ok (.if_icmp .lt 6, 3) := by decide +kernel
theorem dX6_type_26 : decode (mc mX6_type) 26 = .ok (.ldc 48, 2) := by decide +kernel
theorem dX6_type_28 : decode (mc mX6_type) 28 = .ok (.ireturn, 1) := by decide +kernel
theorem dX6_type_29 : decode (mc mX6_type) 29 = .ok (.aload_n 0, 1) := by decide +kernel
theorem dX6_type_30 : decode (mc mX6_type) 30 = .ok (.getfield 26, 3) := by decide +kernel
theorem dX6_type_33 : decode (mc mX6_type) 33 = .ok (.iload_n 1, 1) := by decide +kernel
theorem dX6_type_34 : decode (mc mX6_type) 34 = .ok (.invokevirtual 191, 3) := by decide +kernel
theorem dX6_type_37 : decode (mc mX6_type) 37 = .ok (.ireturn, 1) := by decide +kernel
theorem dX6_clearText_0 : decode (mc mX6_clearText) 0 = .ok (.aload_n 0, 1) := by decide +kernel
theorem dX6_clearText_1 : decode (mc mX6_clearText) 1 = .ok (.getfield 26, 3) := by decide +kernel
theorem dX6_clearText_4 : decode (mc mX6_clearText) 4 = .ok (.invokevirtual 194, 3) := by decide +kernel
theorem dX6_clearText_7 : decode (mc mX6_clearText) 7 = .ok (.ireturn, 1) := by decide +kernel
theorem dX6_textFault_0 : decode (mc mX6_textFault) 0 = .ok (.aload_n 0, 1) := by decide +kernel
theorem dX6_textFault_1 : decode (mc mX6_textFault) 1 = .ok (.getfield 26, 3) := by decide +kernel
theorem dX6_textFault_4 : decode (mc mX6_textFault) 4 = .ok (.invokevirtual 197, 3) := by decide +kernel
theorem dX6_textFault_7 : decode (mc mX6_textFault) 7 = .ok (.ireturn, 1) := by decide +kernel
theorem dX6_undo_0 : decode (mc mX6_undo) 0 = .ok (.aload_n 0, 1) := by decide +kernel
theorem dX6_undo_1 : decode (mc mX6_undo) 1 = .ok (.getfield 19, 3) := by decide +kernel
theorem dX6_undo_4 : decode (mc mX6_undo) 4 = .ok (.getfield 200, 3) := by decide +kernel
theorem dX6_undo_7 : decode (mc mX6_undo) 7 = .ok (.ifCond .ne 6, 3) := by decide +kernel
theorem dX6_undo_10 : decode (mc mX6_undo) 10 = .ok (.ldc 105, 2) := by decide +kernel
theorem dX6_undo_12 : decode (mc mX6_undo) 12 = .ok (.ireturn, 1) := by decide +kernel
theorem dX6_undo_13 : decode (mc mX6_undo) 13 = .ok (.aload_n 0, 1) := by decide +kernel
theorem dX6_undo_14 : decode (mc mX6_undo) 14 = .ok (.getfield 19, 3) := by decide +kernel
theorem dX6_undo_17 : decode (mc mX6_undo) 17 = .ok (.aload_n 0, 1) := by decide +kernel
theorem dX6_undo_18 : decode (mc mX6_undo) 18 = .ok (.getfield 10, 3) := by decide +kernel
theorem dX6_undo_21 : decode (mc mX6_undo) 21 = .ok (.invokevirtual 203, 3) := by decide +kernel
theorem dX6_undo_24 : decode (mc mX6_undo) 24 = .ok (.ireturn, 1) := by decide +kernel
theorem dX6_digest_0 : decode (mc mX6_digest) 0 = .ok (.ldc2_w 207, 3) := by decide +kernel
theorem dX6_digest_3 : decode (mc mX6_digest) 3 = .ok (.lstore_n 1, 1) := by decide +kernel
theorem dX6_digest_4 : decode (mc mX6_digest) 4 = .ok (.iconst 0, 1) := by decide +kernel
theorem dX6_digest_5 : decode (mc mX6_digest) 5 = .ok (.istore_n 3, 1) := by decide +kernel
theorem dX6_digest_6 : decode (mc mX6_digest) 6 = .ok (.iload_n 3, 1) := by decide +kernel
theorem dX6_digest_7 : decode (mc mX6_digest) 7 = .ok (.bipush 13, 2) := by decide +kernel
theorem dX6_digest_9 : decode (mc mX6_digest) 9 = .ok (.if_icmp .ge 25, 3) := by decide +kernel
theorem dX6_digest_12 : decode (mc mX6_digest) 12 = .ok (.ldc2_w 209, 3) := by decide +kernel
theorem dX6_digest_15 : decode (mc mX6_digest) 15 = .ok (.lload_n 1, 1) := by decide +kernel
theorem dX6_digest_16 : decode (mc mX6_digest) 16 = .ok (.lmul, 1) := by decide +kernel
theorem dX6_digest_17 : decode (mc mX6_digest) 17 = .ok (.aload_n 0, 1) := by decide +kernel
theorem dX6_digest_18 : decode (mc mX6_digest) 18 = .ok (.getfield 10, 3) := by decide +kernel
theorem dX6_digest_21 : decode (mc mX6_digest) 21 = .ok (.iload_n 3, 1) := by decide +kernel
theorem dX6_digest_22 : decode (mc mX6_digest) 22 = .ok (.invokevirtual 87, 3) := by decide +kernel
theorem dX6_digest_25 : decode (mc mX6_digest) 25 = .ok (.i2l, 1) := by decide +kernel
theorem dX6_digest_26 : decode (mc mX6_digest) 26 = .ok (.ladd, 1) := by decide +kernel
theorem dX6_digest_27 : decode (mc mX6_digest) 27 = .ok (.lstore_n 1, 1) := by decide +kernel
theorem dX6_digest_28 : decode (mc mX6_digest) 28 = .ok (.iinc 3 1, 3) := by decide +kernel
theorem dX6_digest_31 : decode (mc mX6_digest) 31 = .ok (.goto (-25), 3) := by decide +kernel
theorem dX6_digest_34 : decode (mc mX6_digest) 34 = .ok (.iconst 0, 1) := by decide +kernel
theorem dX6_digest_35 : decode (mc mX6_digest) 35 = .ok (.istore_n 3, 1) := by decide +kernel
theorem dX6_digest_36 : decode (mc mX6_digest) 36 = .ok (.iload_n 3, 1) := by decide +kernel
theorem dX6_digest_37 : decode (mc mX6_digest) 37 = .ok (.aload_n 0, 1) := by decide +kernel
theorem dX6_digest_38 : decode (mc mX6_digest) 38 = .ok (.getfield 10, 3) := by decide +kernel
theorem dX6_digest_41 : decode (mc mX6_digest) 41 = .ok (.invokevirtual 44, 3) := by decide +kernel
theorem dX6_digest_44 : decode (mc mX6_digest) 44 = .ok (.if_icmp .ge 42, 3) := by decide +kernel
theorem dX6_digest_47 : decode (mc mX6_digest) 47 = .ok (.iconst 0, 1) := by decide +kernel
theorem dX6_digest_48 : decode (mc mX6_digest) 48 = .ok (.istore 4, 2) := by decide +kernel
theorem dX6_digest_50 : decode (mc mX6_digest) 50 = .ok (.iload 4, 2) := by decide +kernel
theorem dX6_digest_52 : decode (mc mX6_digest) 52 = .ok (.iconst 5, 1) := by decide +kernel
theorem dX6_digest_53 : decode (mc mX6_digest) 53 = .ok (.if_icmp .ge 27, 3) := by decide +kernel
theorem dX6_digest_56 : decode (mc mX6_digest) 56 = .ok (.ldc2_w 209, 3) := by decide +kernel
theorem dX6_digest_59 : decode (mc mX6_digest) 59 = .ok (.lload_n 1, 1) := by decide +kernel
theorem dX6_digest_60 : decode (mc mX6_digest) 60 = .ok (.lmul, 1) := by decide +kernel
theorem dX6_digest_61 : decode (mc mX6_digest) 61 = .ok (.aload_n 0, 1) := by decide +kernel
theorem dX6_digest_62 : decode (mc mX6_digest) 62 = .ok (.getfield 10, 3) := by decide +kernel
theorem dX6_digest_65 : decode (mc mX6_digest) 65 = .ok (.iload_n 3, 1) := by decide +kernel
theorem dX6_digest_66 : decode (mc mX6_digest) 66 = .ok (.iload 4, 2) := by decide +kernel
theorem dX6_digest_68 : decode (mc mX6_digest) 68 = .ok (.invokevirtual 90, 3) := by decide +kernel
theorem dX6_digest_71 : decode (mc mX6_digest) 71 = .ok (.i2l, 1) := by decide +kernel
theorem dX6_digest_72 : decode (mc mX6_digest) 72 = .ok (.ladd, 1) := by decide +kernel
theorem dX6_digest_73 : decode (mc mX6_digest) 73 = .ok (.lstore_n 1, 1) := by decide +kernel
theorem dX6_digest_74 : decode (mc mX6_digest) 74 = .ok (.iinc 4 1, 3) := by decide +kernel
theorem dX6_digest_77 : decode (mc mX6_digest) 77 = .ok (.goto (-27), 3) := by decide +kernel
theorem dX6_digest_80 : decode (mc mX6_digest) 80 = .ok (.iinc 3 1, 3) := by decide +kernel
theorem dX6_digest_83 : decode (mc mX6_digest) 83 = .ok (.goto (-47), 3) := by decide +kernel
theorem dX6_digest_86 : decode (mc mX6_digest) 86 = .ok (.iconst 0, 1) := by decide +kernel
theorem dX6_digest_87 : decode (mc mX6_digest) 87 = .ok (.istore_n 3, 1) := by decide +kernel
theorem dX6_digest_88 : decode (mc mX6_digest) 88 = .ok (.iload_n 3, 1) := by decide +kernel
theorem dX6_digest_89 : decode (mc mX6_digest) 89 = .ok (.aload_n 0, 1) := by decide +kernel
theorem dX6_digest_90 : decode (mc mX6_digest) 90 = .ok (.getfield 10, 3) := by decide +kernel
theorem dX6_digest_93 : decode (mc mX6_digest) 93 = .ok (.invokevirtual 106, 3) := by decide +kernel
theorem dX6_digest_96 : decode (mc mX6_digest) 96 = .ok (.if_icmp .ge 16, 3) := by decide +kernel
theorem dX6_digest_99 : decode (mc mX6_digest) 99 = .ok (.aload_n 0, 1) := by decide +kernel
theorem dX6_digest_100 : decode (mc mX6_digest) 100 = .ok (.lload_n 1, 1) := by decide +kernel
theorem dX6_digest_101 : decode (mc mX6_digest) 101 = .ok (.iload_n 3, 1) := by decide +kernel
theorem dX6_digest_102 : decode (mc mX6_digest) 102 = .ok (.invokevirtual 211, 3) := by decide +kernel
theorem dX6_digest_105 : decode (mc mX6_digest) 105 = .ok (.lstore_n 1, 1) := by decide +kernel
theorem dX6_digest_106 : decode (mc mX6_digest) 106 = .ok (.iinc 3 1, 3) := by decide +kernel
theorem dX6_digest_109 : decode (mc mX6_digest) 109 = .ok (.goto (-21), 3) := by decide +kernel
theorem dX6_digest_112 : decode (mc mX6_digest) 112 = .ok (.iconst 0, 1) := by decide +kernel
theorem dX6_digest_113 : decode (mc mX6_digest) 113 = .ok (.istore_n 3, 1) := by decide +kernel
theorem dX6_digest_114 : decode (mc mX6_digest) 114 = .ok (.iload_n 3, 1) := by decide +kernel
theorem dX6_digest_115 : decode (mc mX6_digest) 115 = .ok (.aload_n 0, 1) := by decide +kernel
theorem dX6_digest_116 : decode (mc mX6_digest) 116 = .ok (.getfield 10, 3) := by decide +kernel
theorem dX6_digest_119 : decode (mc mX6_digest) 119 = .ok (.invokevirtual 151, 3) := by decide +kernel
theorem dX6_digest_122 : decode (mc mX6_digest) 122 = .ok (.if_icmp .ge 43, 3) := by decide +kernel
theorem dX6_digest_125 : decode (mc mX6_digest) 125 = .ok (.iconst 0, 1) := by decide +kernel
theorem dX6_digest_126 : decode (mc mX6_digest) 126 = .ok (.istore 4, 2) := by decide +kernel
theorem dX6_digest_128 : decode (mc mX6_digest) 128 = .ok (.iload 4, 2) := by decide +kernel
theorem dX6_digest_130 : decode (mc mX6_digest) 130 = .ok (.bipush 13, 2) := by decide +kernel
theorem dX6_digest_132 : decode (mc mX6_digest) 132 = .ok (.if_icmp .ge 27, 3) := by decide +kernel
theorem dX6_digest_135 : decode (mc mX6_digest) 135 = .ok (.ldc2_w 209, 3) := by decide +kernel
theorem dX6_digest_138 : decode (mc mX6_digest) 138 = .ok (.lload_n 1, 1) := by decide +kernel
theorem dX6_digest_139 : decode (mc mX6_digest) 139 = .ok (.lmul, 1) := by decide +kernel
theorem dX6_digest_140 : decode (mc mX6_digest) 140 = .ok (.aload_n 0, 1) := by decide +kernel
theorem dX6_digest_141 : decode (mc mX6_digest) 141 = .ok (.getfield 10, 3) := by decide +kernel
theorem dX6_digest_144 : decode (mc mX6_digest) 144 = .ok (.iload_n 3, 1) := by decide +kernel
theorem dX6_digest_145 : decode (mc mX6_digest) 145 = .ok (.iload 4, 2) := by decide +kernel
theorem dX6_digest_147 : decode (mc mX6_digest) 147 = .ok (.invokevirtual 160, 3) := by decide +kernel
theorem dX6_digest_150 : decode (mc mX6_digest) 150 = .ok (.i2l, 1) := by decide +kernel
theorem dX6_digest_151 : decode (mc mX6_digest) 151 = .ok (.ladd, 1) := by decide +kernel
theorem dX6_digest_152 : decode (mc mX6_digest) 152 = .ok (.lstore_n 1, 1) := by decide +kernel
theorem dX6_digest_153 : decode (mc mX6_digest) 153 = .ok (.iinc 4 1, 3) := by decide +kernel
theorem dX6_digest_156 : decode (mc mX6_digest) 156 = .ok (.goto (-28), 3) := by decide +kernel
theorem dX6_digest_159 : decode (mc mX6_digest) 159 = .ok (.iinc 3 1, 3) := by decide +kernel
theorem dX6_digest_162 : decode (mc mX6_digest) 162 = .ok (.goto (-48), 3) := by decide +kernel
theorem dX6_digest_165 : decode (mc mX6_digest) 165 = .ok (.lload_n 1, 1) := by decide +kernel
theorem dX6_digest_166 : decode (mc mX6_digest) 166 = .ok (.lreturn, 1) := by decide +kernel
theorem dX6_hashPhrase_0 : decode (mc mX6_hashPhrase) 0 = .ok (.lload_n 1, 1) := by decide +kernel
theorem dX6_hashPhrase_1 : decode (mc mX6_hashPhrase) 1 = .ok (.lstore 4, 2) := by decide +kernel
theorem dX6_hashPhrase_3 : decode (mc mX6_hashPhrase) 3 = .ok (.iconst 0, 1) := by decide +kernel
theorem dX6_hashPhrase_4 : decode (mc mX6_hashPhrase) 4 = .ok (.istore 6, 2) := by decide +kernel
theorem dX6_hashPhrase_6 : decode (mc mX6_hashPhrase) 6 = .ok (.iload 6, 2) := by decide +kernel
theorem dX6_hashPhrase_8 : decode (mc mX6_hashPhrase) 8 = .ok (.bipush 7, 2) := by decide +kernel
theorem dX6_hashPhrase_10 : decode (mc mX6_hashPhrase) 10 = .ok (.if_icmp .ge 29, 3) := by decide +kernel
theorem dX6_hashPhrase_13 : decode (mc mX6_hashPhrase) 13 = .ok (.ldc2_w 209, 3) := by decide +kernel
theorem dX6_hashPhrase_16 : decode (mc mX6_hashPhrase) 16 = .ok (.lload 4, 2) := by decide +kernel
theorem dX6_hashPhrase_18 : decode (mc mX6_hashPhrase) 18 = .ok (.lmul, 1) := by decide +kernel
theorem dX6_hashPhrase_19 : decode (mc mX6_hashPhrase) 19 = .ok (.aload_n 0, 1) := by decide +kernel
theorem dX6_hashPhrase_20 : decode (mc mX6_hashPhrase) 20 = .ok (.getfield 10, 3) := by decide +kernel
theorem dX6_hashPhrase_23 : decode (mc mX6_hashPhrase) 23 = .ok (.iload_n 3, 1) := by decide +kernel
theorem dX6_hashPhrase_24 : decode (mc mX6_hashPhrase) 24 = .ok (.iload 6, 2) := by decide +kernel
theorem dX6_hashPhrase_26 : decode (mc mX6_hashPhrase) 26 = .ok (.invokevirtual 117, 3) := by decide +kernel
theorem dX6_hashPhrase_29 : decode (mc mX6_hashPhrase) 29 = .ok (.i2l, 1) := by decide +kernel
theorem dX6_hashPhrase_30 : decode (mc mX6_hashPhrase) 30 = .ok (.ladd, 1) := by decide +kernel
theorem dX6_hashPhrase_31 : decode (mc mX6_hashPhrase) 31 = .ok (.lstore 4, 2) := by decide +kernel
theorem dX6_hashPhrase_33 : decode (mc mX6_hashPhrase) 33 = .ok (.iinc 6 1, 3) := by decide +kernel
theorem dX6_hashPhrase_36 : decode (mc mX6_hashPhrase) 36 = .ok (.goto (-30), 3) := by decide +kernel
theorem dX6_hashPhrase_39 : decode (mc mX6_hashPhrase) 39 = .ok (.iconst 0, 1) := by decide +kernel
theorem dX6_hashPhrase_40 : decode (mc mX6_hashPhrase) 40 = .ok (.istore 6, 2) := by decide +kernel
theorem dX6_hashPhrase_42 : decode (mc mX6_hashPhrase) 42 = .ok (.iload 6, 2) := by decide +kernel
theorem dX6_hashPhrase_44 : decode (mc mX6_hashPhrase) 44 = .ok (.aload_n 0, 1) := by decide +kernel
theorem dX6_hashPhrase_45 : decode (mc mX6_hashPhrase) 45 = .ok (.getfield 10, 3) := by decide +kernel
theorem dX6_hashPhrase_48 : decode (mc mX6_hashPhrase) 48 = .ok (.iload_n 3, 1) := by decide +kernel
theorem dX6_hashPhrase_49 : decode (mc mX6_hashPhrase) 49 = .ok (.invokevirtual 120, 3) := by decide +kernel
theorem dX6_hashPhrase_52 : decode (mc mX6_hashPhrase) 52 = .ok (.if_icmp .ge 29, 3) := by decide +kernel
theorem dX6_hashPhrase_55 : decode (mc mX6_hashPhrase) 55 = .ok (.ldc2_w 209, 3) := by decide +kernel
theorem dX6_hashPhrase_58 : decode (mc mX6_hashPhrase) 58 = .ok (.lload 4, 2) := by decide +kernel
theorem dX6_hashPhrase_60 : decode (mc mX6_hashPhrase) 60 = .ok (.lmul, 1) := by decide +kernel
theorem dX6_hashPhrase_61 : decode (mc mX6_hashPhrase) 61 = .ok (.aload_n 0, 1) := by decide +kernel
theorem dX6_hashPhrase_62 : decode (mc mX6_hashPhrase) 62 = .ok (.getfield 10, 3) := by decide +kernel
theorem dX6_hashPhrase_65 : decode (mc mX6_hashPhrase) 65 = .ok (.iload_n 3, 1) := by decide +kernel
theorem dX6_hashPhrase_66 : decode (mc mX6_hashPhrase) 66 = .ok (.iload 6, 2) := by decide +kernel
theorem dX6_hashPhrase_68 : decode (mc mX6_hashPhrase) 68 = .ok (.invokevirtual 123, 3) := by decide +kernel
theorem dX6_hashPhrase_71 : decode (mc mX6_hashPhrase) 71 = .ok (.i2l, 1) := by decide +kernel
theorem dX6_hashPhrase_72 : decode (mc mX6_hashPhrase) 72 = .ok (.ladd, 1) := by decide +kernel
theorem dX6_hashPhrase_73 : decode (mc mX6_hashPhrase) 73 = .ok (.lstore 4, 2) := by decide +kernel
theorem dX6_hashPhrase_75 : decode (mc mX6_hashPhrase) 75 = .ok (.iinc 6 1, 3) := by decide +kernel
theorem dX6_hashPhrase_78 : decode (mc mX6_hashPhrase) 78 = .ok (.goto (-36), 3) := by decide +kernel
theorem dX6_hashPhrase_81 : decode (mc mX6_hashPhrase) 81 = .ok (.lload 4, 2) := by decide +kernel
theorem dX6_hashPhrase_83 : decode (mc mX6_hashPhrase) 83 = .ok (.lreturn, 1) := by decide +kernel
theorem dX6_findMatch_0 : decode (mc mX6_findMatch) 0 = .ok (.aload_n 0, 1) := by decide +kernel
theorem dX6_findMatch_1 : decode (mc mX6_findMatch) 1 = .ok (.getfield 26, 3) := by decide +kernel
theorem dX6_findMatch_4 : decode (mc mX6_findMatch) 4 = .ok (.aload_n 0, 1) := by decide +kernel
theorem dX6_findMatch_5 : decode (mc mX6_findMatch) 5 = .ok (.getfield 33, 3) := by decide +kernel
theorem dX6_findMatch_8 : decode (mc mX6_findMatch) 8 = .ok (.invokevirtual 109, 3) := by decide +kernel
theorem dX6_findMatch_11 : decode (mc mX6_findMatch) 11 = .ok (.ldc 94, 2) := by decide +kernel
theorem dX6_findMatch_13 : decode (mc mX6_findMatch) 13 = .ok (.istore_n 1, 1) := by decide +kernel
theorem dX6_findMatch_14 : decode (mc mX6_findMatch) 14 = .ok (.aload_n 0, 1) := by decide +kernel
theorem dX6_findMatch_15 : decode (mc mX6_findMatch) 15 = .ok (.getfield 10, 3) := by decide +kernel
theorem dX6_findMatch_18 : decode (mc mX6_findMatch) 18 = .ok (.iconst 0, 1) := by decide +kernel
theorem dX6_findMatch_19 : decode (mc mX6_findMatch) 19 = .ok (.invokevirtual 77, 3) := by decide +kernel
theorem dX6_findMatch_22 : decode (mc mX6_findMatch) 22 = .ok (.istore_n 2, 1) := by decide +kernel
theorem dX6_findMatch_23 : decode (mc mX6_findMatch) 23 = .ok (.iconst 0, 1) := by decide +kernel
theorem dX6_findMatch_24 : decode (mc mX6_findMatch) 24 = .ok (.istore_n 3, 1) := by decide +kernel
theorem dX6_findMatch_25 : decode (mc mX6_findMatch) 25 = .ok (.iload_n 3, 1) := by decide +kernel
theorem dX6_findMatch_26 : decode (mc mX6_findMatch) 26 = .ok (.aload_n 0, 1) := by decide +kernel
theorem dX6_findMatch_27 : decode (mc mX6_findMatch) 27 = .ok (.getfield 10, 3) := by decide +kernel
theorem dX6_findMatch_30 : decode (mc mX6_findMatch) 30 = .ok (.invokevirtual 106, 3) := by decide +kernel
theorem dX6_findMatch_33 : decode (mc mX6_findMatch) 33 = .ok (.if_icmp .ge 76, 3) := by decide +kernel
theorem dX6_findMatch_36 : decode (mc mX6_findMatch) 36 = .ok (.aload_n 0, 1) := by decide +kernel
theorem dX6_findMatch_37 : decode (mc mX6_findMatch) 37 = .ok (.getfield 10, 3) := by decide +kernel
theorem dX6_findMatch_40 : decode (mc mX6_findMatch) 40 = .ok (.iload_n 3, 1) := by decide +kernel
theorem dX6_findMatch_41 : decode (mc mX6_findMatch) 41 = .ok (.invokevirtual 102, 3) := by decide +kernel
theorem dX6_findMatch_44 : decode (mc mX6_findMatch) 44 = .ok (.ifCond .eq 59, 3) := by decide +kernel
theorem dX6_findMatch_47 : decode (mc mX6_findMatch) 47 = .ok (.aload_n 0, 1) := by decide +kernel
theorem dX6_findMatch_48 : decode (mc mX6_findMatch) 48 = .ok (.getfield 10, 3) := by decide +kernel
theorem dX6_findMatch_51 : decode (mc mX6_findMatch) 51 = .ok (.aload_n 0, 1) := by decide +kernel
theorem dX6_findMatch_52 : decode (mc mX6_findMatch) 52 = .ok (.getfield 33, 3) := by decide +kernel
theorem dX6_findMatch_55 : decode (mc mX6_findMatch) 55 = .ok (.iload_n 3, 1) := by decide +kernel
theorem dX6_findMatch_56 : decode (mc mX6_findMatch) 56 = .ok (.invokevirtual 143, 3) := by decide +kernel
theorem dX6_findMatch_59 : decode (mc mX6_findMatch) 59 = .ok (.istore 4, 2) := by decide +kernel
theorem dX6_findMatch_61 : decode (mc mX6_findMatch) 61 = .ok (.iload 4, 2) := by decide +kernel
theorem dX6_findMatch_63 : decode (mc mX6_findMatch) 63 = .ok (.iload_n 2, 1) := by decide +kernel
theorem dX6_findMatch_64 : decode (mc mX6_findMatch) 64 = .ok (.if_icmp .gt 34, 3) := by decide +kernel
theorem dX6_findMatch_67 : decode (mc mX6_findMatch) 67 = .ok (.iload 4, 2) := by decide +kernel
theorem dX6_findMatch_69 : decode (mc mX6_findMatch) 69 = .ok (.iload_n 2, 1) := by decide +kernel
theorem dX6_findMatch_70 : decode (mc mX6_findMatch) 70 = .ok (.if_icmp .ne 33, 3) := by decide +kernel
theorem dX6_findMatch_73 : decode (mc mX6_findMatch) 73 = .ok (.iload_n 1, 1) := by decide +kernel
theorem dX6_findMatch_74 : decode (mc mX6_findMatch) 74 = .ok (.ldc 94, 2) := by decide +kernel
theorem dX6_findMatch_76 : decode (mc mX6_findMatch) 76 = .ok (.if_icmp .eq 22, 3) := by decide +kernel
theorem dX6_findMatch_79 : decode (mc mX6_findMatch) 79 = .ok (.aload_n 0, 1) := by decide +kernel
theorem dX6_findMatch_80 : decode (mc mX6_findMatch) 80 = .ok (.getfield 10, 3) := by decide +kernel
theorem dX6_findMatch_83 : decode (mc mX6_findMatch) 83 = .ok (.iload_n 3, 1) := by decide +kernel
theorem dX6_findMatch_84 : decode (mc mX6_findMatch) 84 = .ok (.invokevirtual 215, 3) := by decide +kernel
theorem dX6_findMatch_87 : decode (mc mX6_findMatch) 87 = .ok (.aload_n 0, 1) := by decide +kernel
theorem dX6_findMatch_88 : decode (mc mX6_findMatch) 88 = .ok (.getfield 10, 3) := by decide +kernel
theorem dX6_findMatch_91 : decode (mc mX6_findMatch) 91 = .ok (.iload_n 1, 1) := by decide +kernel
theorem dX6_findMatch_92 : decode (mc mX6_findMatch) 92 = .ok (.invokevirtual 215, 3) := by decide +kernel
theorem dX6_findMatch_95 : decode (mc mX6_findMatch) 95 = .ok (.if_icmp .le 8, 3) := by decide +kernel
theorem dX6_findMatch_98 : decode (mc mX6_findMatch) 98 = .ok (.iload_n 3, 1) := by decide +kernel
theorem dX6_findMatch_99 : decode (mc mX6_findMatch) 99 = .ok (.istore_n 1, 1) := by decide +kernel
theorem dX6_findMatch_100 : decode (mc mX6_findMatch) 100 = .ok (.iload 4, 2) := by decide +kernel
theorem dX6_findMatch_102 : decode (mc mX6_findMatch) 102 = .ok (.istore_n 2, 1) := by decide +kernel
theorem dX6_findMatch_103 : decode (mc mX6_findMatch) 103 = .ok (.iinc 3 1, 3) := by decide +kernel
theorem dX6_findMatch_106 : decode (mc mX6_findMatch) 106 = .ok (.goto (-81), 3) := by decide +kernel
theorem dX6_findMatch_109 : decode (mc mX6_findMatch) 109 = .ok (.iload_n 1, 1) := by decide +kernel
theorem dX6_findMatch_110 : decode (mc mX6_findMatch) 110 = .ok (.ireturn, 1) := by decide +kernel
theorem dX6_findWays_0 : decode (mc mX6_findWays) 0 = .ok (.aload_n 0, 1) := by decide +kernel
theorem dX6_findWays_1 : decode (mc mX6_findWays) 1 = .ok (.getfield 26, 3) := by decide +kernel
theorem dX6_findWays_4 : decode (mc mX6_findWays) 4 = .ok (.aload_n 0, 1) := by decide +kernel
theorem dX6_findWays_5 : decode (mc mX6_findWays) 5 = .ok (.getfield 33, 3) := by decide +kernel
theorem dX6_findWays_8 : decode (mc mX6_findWays) 8 = .ok (.invokevirtual 109, 3) := by decide +kernel
theorem dX6_findWays_11 : decode (mc mX6_findWays) 11 = .ok (.aload_n 0, 1) := by decide +kernel
theorem dX6_findWays_12 : decode (mc mX6_findWays) 12 = .ok (.getfield 40, 3) := by decide +kernel
theorem dX6_findWays_15 : decode (mc mX6_findWays) 15 = .ok (.aload_n 0, 1) := by decide +kernel
theorem dX6_findWays_16 : decode (mc mX6_findWays) 16 = .ok (.getfield 33, 3) := by decide +kernel
theorem dX6_findWays_19 : decode (mc mX6_findWays) 19 = .ok (.getfield 218, 3) := by decide +kernel
theorem dX6_findWays_22 : decode (mc mX6_findWays) 22 = .ok (.invokevirtual 219, 3) := by decide +kernel
theorem dX6_findWays_25 : decode (mc mX6_findWays) 25 = .ok (.aload_n 0, 1) := by decide +kernel
theorem dX6_findWays_26 : decode (mc mX6_findWays) 26 = .ok (.getfield 33, 3) := by decide +kernel
theorem dX6_findWays_29 : decode (mc mX6_findWays) 29 = .ok (.getfield 218, 3) := by decide +kernel
theorem dX6_findWays_32 : decode (mc mX6_findWays) 32 = .ok (.iconst 1, 1) := by decide +kernel
theorem dX6_findWays_33 : decode (mc mX6_findWays) 33 = .ok (.isub, 1) := by decide +kernel
theorem dX6_findWays_34 : decode (mc mX6_findWays) 34 = .ok (.istore_n 2, 1) := by decide +kernel
theorem dX6_findWays_35 : decode (mc mX6_findWays) 35 = .ok (.iload_n 2, 1) := by decide +kernel
theorem dX6_findWays_36 : decode (mc mX6_findWays) 36 = .ok (.ifCond .lt 91, 3) := by decide +kernel
theorem dX6_findWays_39 : decode (mc mX6_findWays) 39 = .ok (.aload_n 0, 1) := by decide +kernel
theorem dX6_findWays_40 : decode (mc mX6_findWays) 40 = .ok (.getfield 40, 3) := by decide +kernel
theorem dX6_findWays_43 : decode (mc mX6_findWays) 43 = .ok (.iload_n 2, 1) := by decide +kernel
theorem dX6_findWays_44 : decode (mc mX6_findWays) 44 = .ok (.invokevirtual 222, 3) := by decide +kernel
theorem dX6_findWays_47 : decode (mc mX6_findWays) 47 = .ok (.iconst 0, 1) := by decide +kernel
theorem dX6_findWays_48 : decode (mc mX6_findWays) 48 = .ok (.istore_n 3, 1) := by decide +kernel
theorem dX6_findWays_49 : decode (mc mX6_findWays) 49 = .ok (.iload_n 3, 1) := by decide +kernel
theorem dX6_findWays_50 : decode (mc mX6_findWays) 50 = .ok (.aload_n 0, 1) := by decide +kernel
theorem dX6_findWays_51 : decode (mc mX6_findWays) 51 = .ok (.getfield 10, 3) := by decide +kernel
theorem dX6_findWays_54 : decode (mc mX6_findWays) 54 = .ok (.invokevirtual 106, 3) := by decide +kernel
theorem dX6_findWays_57 : decode (mc mX6_findWays) 57 = .ok (.if_icmp .ge 64, 3) := by decide +kernel
theorem dX6_findWays_60 : decode (mc mX6_findWays) 60 = .ok (.aload_n 0, 1) := by decide +kernel
theorem dX6_findWays_61 : decode (mc mX6_findWays) 61 = .ok (.getfield 10, 3) := by decide +kernel
theorem dX6_findWays_64 : decode (mc mX6_findWays) 64 = .ok (.iload_n 3, 1) := by decide +kernel
theorem dX6_findWays_65 : decode (mc mX6_findWays) 65 = .ok (.invokevirtual 102, 3) := by decide +kernel
theorem dX6_findWays_68 : decode (mc mX6_findWays) 68 = .ok (.ifCond .eq 47, 3) := by decide +kernel
theorem dX6_findWays_71 : decode (mc mX6_findWays) 71 = .ok (.aload_n 0, 1) := by decide +kernel
theorem dX6_findWays_72 : decode (mc mX6_findWays) 72 = .ok (.getfield 10, 3) := by decide +kernel
theorem dX6_findWays_75 : decode (mc mX6_findWays) 75 = .ok (.iload_n 3, 1) := by decide +kernel
theorem dX6_findWays_76 : decode (mc mX6_findWays) 76 = .ok (.aload_n 0, 1) := by decide +kernel
theorem dX6_findWays_77 : decode (mc mX6_findWays) 77 = .ok (.getfield 33, 3) := by decide +kernel
theorem dX6_findWays_80 : decode (mc mX6_findWays) 80 = .ok (.iload_n 2, 1) := by decide +kernel
theorem dX6_findWays_81 : decode (mc mX6_findWays) 81 = .ok (.invokevirtual 225, 3) := by decide +kernel
theorem dX6_findWays_84 : decode (mc mX6_findWays) 84 = .ok (.ifCond .eq 31, 3) := by decide +kernel
theorem dX6_findWays_87 : decode (mc mX6_findWays) 87 = .ok (.aload_n 0, 1) := by decide +kernel
theorem dX6_findWays_88 : decode (mc mX6_findWays) 88 = .ok (.getfield 40, 3) := by decide +kernel
theorem dX6_findWays_91 : decode (mc mX6_findWays) 91 = .ok (.iload_n 2, 1) := by decide +kernel
theorem dX6_findWays_92 : decode (mc mX6_findWays) 92 = .ok (.iload_n 3, 1) := by decide +kernel
theorem dX6_findWays_93 : decode (mc mX6_findWays) 93 = .ok (.aload_n 0, 1) := by decide +kernel
theorem dX6_findWays_94 : decode (mc mX6_findWays) 94 = .ok (.getfield 10, 3) := by decide +kernel
theorem dX6_findWays_97 : decode (mc mX6_findWays) 97 = .ok (.iload_n 3, 1) := by decide +kernel
theorem dX6_findWays_98 : decode (mc mX6_findWays) 98 = .ok (.invokevirtual 120, 3) := by decide +kernel
theorem dX6_findWays_101 : decode (mc mX6_findWays) 101 = .ok (.aload_n 0, 1) := by decide +kernel
theorem dX6_findWays_102 : decode (mc mX6_findWays) 102 = .ok (.getfield 10, 3) := by decide +kernel
theorem dX6_findWays_105 : decode (mc mX6_findWays) 105 = .ok (.iload_n 1, 1) := by decide +kernel
theorem dX6_findWays_106 : decode (mc mX6_findWays) 106 = .ok (.iload_n 3, 1) := by decide +kernel
theorem dX6_findWays_107 : decode (mc mX6_findWays) 107 = .ok (.bipush 100, 2) := by decide +kernel
theorem dX6_findWays_109 : decode (mc mX6_findWays) 109 = .ok (.invokevirtual 147, 3) := by decide +kernel
theorem dX6_findWays_112 : decode (mc mX6_findWays) 112 = .ok (.invokevirtual 229, 3) := by decide +kernel
theorem dX6_findWays_115 : decode (mc mX6_findWays) 115 = .ok (.iinc 3 1, 3) := by decide +kernel
theorem dX6_findWays_118 : decode (mc mX6_findWays) 118 = .ok (.goto (-69), 3) := by decide +kernel
theorem dX6_findWays_121 : decode (mc mX6_findWays) 121 = .ok (.iinc 2 (-1), 3) := by decide +kernel
theorem dX6_findWays_124 : decode (mc mX6_findWays) 124 = .ok (.goto (-89), 3) := by decide +kernel
theorem dX6_findWays_127 : decode (mc mX6_findWays) 127 = .ok (.return_, 1) := by decide +kernel
theorem dL_cell_0 : decode (mc mL_cell) 0 = .ok (.iload_n 1, 1) := by decide +kernel
theorem dL_cell_1 : decode (mc mL_cell) 1 = .ok (.aload_n 0, 1) := by decide +kernel
theorem dL_cell_2 : decode (mc mL_cell) 2 = .ok (.arraylength, 1) := by decide +kernel
theorem dL_cell_3 : decode (mc mL_cell) 3 = .ok (.if_icmp .ge 9, 3) := by decide +kernel
theorem dL_cell_6 : decode (mc mL_cell) 6 = .ok (.aload_n 0, 1) := by decide +kernel
theorem dL_cell_7 : decode (mc mL_cell) 7 = .ok (.iload_n 1, 1) := by decide +kernel
theorem dL_cell_8 : decode (mc mL_cell) 8 = .ok (.iaload, 1) := by decide +kernel
theorem dL_cell_9 : decode (mc mL_cell) 9 = .ok (.goto 15, 3) := by decide +kernel
theorem dL_cell_12 : decode (mc mL_cell) 12 = .ok (.sipush 7919, 3) := by decide +kernel
theorem dL_cell_15 : decode (mc mL_cell) 15 = .ok (.iload_n 1, 1) := by decide +kernel
theorem dL_cell_16 : decode (mc mL_cell) 16 = .ok (.iconst 3, 1) := by decide +kernel
theorem dL_cell_17 : decode (mc mL_cell) 17 = .ok (.iadd, 1) := by decide +kernel
theorem dL_cell_18 : decode (mc mL_cell) 18 = .ok (.imul, 1) := by decide +kernel
theorem dL_cell_19 : decode (mc mL_cell) 19 = .ok (.iload_n 1, 1) := by decide +kernel
theorem dL_cell_20 : decode (mc mL_cell) 20 = .ok (.bipush 11, 2) := by decide +kernel
theorem dL_cell_22 : decode (mc mL_cell) 22 = .ok (.iadd, 1) := by decide +kernel
theorem dL_cell_23 : decode (mc mL_cell) 23 = .ok (.imul, 1) := by decide +kernel
theorem dL_cell_24 : decode (mc mL_cell) 24 = .ok (.ireturn, 1) := by decide +kernel
theorem dL_low_0 : decode (mc mL_low) 0 = .ok (.iload_n 0, 1) := by decide +kernel
theorem dL_low_1 : decode (mc mL_low) 1 = .ok (.ldc 7, 2) := by decide +kernel
theorem dL_low_3 : decode (mc mL_low) 3 = .ok (.iand, 1) := by decide +kernel
theorem dL_low_4 : decode (mc mL_low) 4 = .ok (.iload_n 1, 1) := by decide +kernel
theorem dL_low_5 : decode (mc mL_low) 5 = .ok (.irem, 1) := by decide +kernel
theorem dL_low_6 : decode (mc mL_low) 6 = .ok (.ireturn, 1) := by decide +kernel
theorem dL_sentence_0 : decode (mc mL_sentence) 0 = .ok (.aload_n 0, 1) := by decide +kernel
theorem dL_sentence_1 : decode (mc mL_sentence) 1 = .ok (.invokevirtual 8, 3) := by decide +kernel
theorem dL_sentence_4 : decode (mc mL_sentence) 4 = .ok (.pop, 1) := by decide +kernel
theorem dL_sentence_5 : decode (mc mL_sentence) 5 = .ok (.iconst 0, 1) := by decide +kernel
theorem dL_sentence_6 : decode (mc mL_sentence) 6 = .ok (.istore_n 3, 1) := by decide +kernel
theorem dL_sentence_7 : decode (mc mL_sentence) 7 = .ok (.iload_n 3, 1) := by decide +kernel
theorem dL_sentence_8 : decode (mc mL_sentence) 8 = .ok (.iload_n 1, 1) := by decide +kernel
theorem dL_sentence_9 : decode (mc mL_sentence) 9 = .ok (.if_icmp .ge 26, 3) := by decide +kernel
theorem dL_sentence_12 : decode (mc mL_sentence) 12 = .ok (.aload_n 0, 1) := by decide +kernel
theorem dL_sentence_13 : decode (mc mL_sentence) 13 = .ok (.bipush 97, 2) := by decide +kernel
theorem dL_sentence_15 : decode (mc mL_sentence) 15 = .ok (.iload_n 2, 1) := by decide +kernel
theorem dL_sentence_16 : decode (mc mL_sentence) 16 = .ok (.iconst 2, 1) := by decide +kernel
theorem dL_sentence_17 : decode (mc mL_sentence) 17 = .ok (.iload_n 3, 1) := by decide +kernel
theorem dL_sentence_18 : decode (mc mL_sentence) 18 = .ok (.imul, 1) := by decide +kernel
theorem dL_sentence_19 : decode (mc mL_sentence) 19 = .ok (.ishr, 1) := by decide +kernel
theorem dL_sentence_20 : decode (mc mL_sentence) 20 = .ok (.iconst 3, 1) := by decide +kernel
theorem dL_sentence_21 : decode (mc mL_sentence) 21 = .ok (.invokestatic 14, 3) := by decide +kernel
theorem dL_sentence_24 : decode (mc mL_sentence) 24 = .ok (.iadd, 1) := by decide +kernel
theorem dL_sentence_25 : decode (mc mL_sentence) 25 = .ok (.invokevirtual 20, 3) := by decide +kernel
theorem dL_sentence_28 : decode (mc mL_sentence) 28 = .ok (.pop, 1) := by decide +kernel
theorem dL_sentence_29 : decode (mc mL_sentence) 29 = .ok (.iinc 3 1, 3) := by decide +kernel
theorem dL_sentence_32 : decode (mc mL_sentence) 32 = .ok (.goto (-25), 3) := by decide +kernel
theorem dL_sentence_35 : decode (mc mL_sentence) 35 = .ok (.iload_n 1, 1) := by decide +kernel
theorem dL_sentence_36 : decode (mc mL_sentence) 36 = .ok (.ireturn, 1) := by decide +kernel
theorem dL_fits_0 : decode (mc mL_fits) 0 = .ok (.aload_n 0, 1) := by decide +kernel
theorem dL_fits_1 : decode (mc mL_fits) 1 = .ok (.bipush 6, 2) := by decide +kernel
theorem dL_fits_3 : decode (mc mL_fits) 3 = .ok (.invokevirtual 24, 3) := by decide +kernel
theorem dL_fits_6 : decode (mc mL_fits) 6 = .ok (.istore_n 1, 1) := by decide +kernel
theorem dL_fits_7 : decode (mc mL_fits) 7 = .ok (.iconst 0, 1) := by decide +kernel
theorem dL_fits_8 : decode (mc mL_fits) 8 = .ok (.istore_n 2, 1) := by decide +kernel
theorem dL_fits_9 : decode (mc mL_fits) 9 = .ok (.iconst 0, 1) := by decide +kernel
theorem dL_fits_10 : decode (mc mL_fits) 10 = .ok (.istore_n 3, 1) := by decide +kernel
theorem dL_fits_11 : decode (mc mL_fits) 11 = .ok (.iconst 0, 1) := by decide +kernel
theorem dL_fits_12 : decode (mc mL_fits) 12 = .ok (.istore 4, 2) := by decide +kernel
theorem dL_fits_14 : decode (mc mL_fits) 14 = .ok (.iconst 0, 1) := by decide +kernel
theorem dL_fits_15 : decode (mc mL_fits) 15 = .ok (.istore 5, 2) := by decide +kernel
theorem dL_fits_17 : decode (mc mL_fits) 17 = .ok (.iconst 0, 1) := by decide +kernel
theorem dL_fits_18 : decode (mc mL_fits) 18 = .ok (.istore 6, 2) := by decide +kernel
theorem dL_fits_20 : decode (mc mL_fits) 20 = .ok (.iload 6, 2) := by decide +kernel
theorem dL_fits_22 : decode (mc mL_fits) 22 = .ok (.aload_n 0, 1) := by decide +kernel
theorem dL_fits_23 : decode (mc mL_fits) 23 = .ok (.iconst 0, 1) := by decide +kernel
theorem dL_fits_24 : decode (mc mL_fits) 24 = .ok (.invokevirtual 24, 3) := by decide +kernel
theorem dL_fits_27 : decode (mc mL_fits) 27 = .ok (.if_icmp .ge 29, 3) := by decide +kernel
theorem dL_fits_30 : decode (mc mL_fits) 30 = .ok (.iload_n 1, 1) := by decide +kernel
theorem dL_fits_31 : decode (mc mL_fits) 31 = .ok (.aload_n 0, 1) := by decide +kernel
theorem dL_fits_32 : decode (mc mL_fits) 32 = .ok (.iload 6, 2) := by decide +kernel
theorem dL_fits_34 : decode (mc mL_fits) 34 = .ok (.iconst 1, 1) := by decide +kernel
theorem dL_fits_35 : decode (mc mL_fits) 35 = .ok (.invokevirtual 27, 3) := by decide +kernel
theorem dL_fits_38 : decode (mc mL_fits) 38 = .ok (.iadd, 1) := by decide +kernel
theorem dL_fits_39 : decode (mc mL_fits) 39 = .ok (.istore_n 1, 1) := by decide +kernel
theorem dL_fits_40 : decode (mc mL_fits) 40 = .ok (.iload_n 3, 1) := by decide +kernel
theorem dL_fits_41 : decode (mc mL_fits) 41 = .ok (.aload_n 0, 1) := by decide +kernel
theorem dL_fits_42 : decode (mc mL_fits) 42 = .ok (.iload 6, 2) := by decide +kernel
theorem dL_fits_44 : decode (mc mL_fits) 44 = .ok (.iconst 2, 1) := by decide +kernel
theorem dL_fits_45 : decode (mc mL_fits) 45 = .ok (.invokevirtual 27, 3) := by decide +kernel
theorem dL_fits_48 : decode (mc mL_fits) 48 = .ok (.iadd, 1) := by decide +kernel
theorem dL_fits_49 : decode (mc mL_fits) 49 = .ok (.istore_n 3, 1) := by decide +kernel
theorem dL_fits_50 : decode (mc mL_fits) 50 = .ok (.iinc 6 1, 3) := by decide +kernel
theorem dL_fits_53 : decode (mc mL_fits) 53 = .ok (.goto (-33), 3) := by decide +kernel
theorem dL_fits_56 : decode (mc mL_fits) 56 = .ok (.iload_n 1, 1) := by decide +kernel
theorem dL_fits_57 : decode (mc mL_fits) 57 = .ok (.ifCond .eq 5, 3) := by decide +kernel
theorem dL_fits_60 : decode (mc mL_fits) 60 = .ok (.iconst 0, 1) := by decide +kernel
theorem dL_fits_61 : decode (mc mL_fits) 61 = .ok (.ireturn, 1) := by decide +kernel
theorem dL_fits_62 : decode (mc mL_fits) 62 = .ok (.iconst 0, 1) := by decide +kernel
theorem dL_fits_63 : decode (mc mL_fits) 63 = .ok (.istore 6, 2) := by decide +kernel
theorem dL_fits_65 : decode (mc mL_fits) 65 = .ok (.iload 6, 2) := by decide +kernel
theorem dL_fits_67 : decode (mc mL_fits) 67 = .ok (.aload_n 0, 1) := by decide +kernel
theorem dL_fits_68 : decode (mc mL_fits) 68 = .ok (.iconst 1, 1) := by decide +kernel
theorem dL_fits_69 : decode (mc mL_fits) 69 = .ok (.invokevirtual 24, 3) := by decide +kernel
theorem dL_fits_72 : decode (mc mL_fits) 72 = .ok (.if_icmp .ge 171, 3) := by decide +kernel
theorem dL_fits_75 : decode (mc mL_fits) 75 = .ok (.aload_n 0, 1) := by decide +kernel
theorem dL_fits_76 : decode (mc mL_fits) 76 = .ok (.iload 6, 2) := by decide +kernel
theorem dL_fits_78 : decode (mc mL_fits) 78 = .ok (.iconst 3, 1) := by decide +kernel
theorem dL_fits_79 : decode (mc mL_fits) 79 = .ok (.invokevirtual 30, 3) := by decide +kernel
theorem dL_fits_82 : decode (mc mL_fits) 82 = .ok (.istore 7, 2) := by decide +kernel
theorem dL_fits_84 : decode (mc mL_fits) 84 = .ok (.iload_n 2, 1) := by decide +kernel
theorem dL_fits_85 : decode (mc mL_fits) 85 = .ok (.aload_n 0, 1) := by decide +kernel
theorem dL_fits_86 : decode (mc mL_fits) 86 = .ok (.iload 6, 2) := by decide +kernel
theorem dL_fits_88 : decode (mc mL_fits) 88 = .ok (.iconst 4, 1) := by decide +kernel
theorem dL_fits_89 : decode (mc mL_fits) 89 = .ok (.invokevirtual 30, 3) := by decide +kernel
theorem dL_fits_92 : decode (mc mL_fits) 92 = .ok (.iadd, 1) := by decide +kernel
theorem dL_fits_93 : decode (mc mL_fits) 93 = .ok (.istore_n 2, 1) := by decide +kernel
theorem dL_fits_94 : decode (mc mL_fits) 94 = .ok (.iload 5, 2) := by decide +kernel
theorem dL_fits_96 : decode (mc mL_fits) 96 = .ok (.aload_n 0, 1) := by decide +kernel
theorem dL_fits_97 : decode (mc mL_fits) 97 = .ok (.iload 6, 2) := by decide +kernel
theorem dL_fits_99 : decode (mc mL_fits) 99 = .ok (.bipush 6, 2) := by decide +kernel
theorem dL_fits_101 : decode (mc mL_fits) 101 = .ok (.invokevirtual 30, 3) := by decide +kernel
theorem dL_fits_104 : decode (mc mL_fits) 104 = .ok (.iadd, 1) := by decide +kernel
theorem dL_fits_105 : decode (mc mL_fits) 105 = .ok (.istore 5, 2) := by decide +kernel
theorem dL_fits_107 : decode (mc mL_fits) 107 = .ok (.aload_n 0, 1) := by decide +kernel
theorem dL_fits_108 : decode (mc mL_fits) 108 = .ok (.iload 6, 2) := by decide +kernel
theorem dL_fits_110 : decode (mc mL_fits) 110 = .ok (.iload 6, 2) := by decide +kernel
theorem dL_fits_112 : decode (mc mL_fits) 112 = .ok (.invokevirtual 33, 3) := by decide +kernel
theorem dL_fits_115 : decode (mc mL_fits) 115 = .ok (.bipush 100, 2) := by decide +kernel
theorem dL_fits_117 : decode (mc mL_fits) 117 = .ok (.if_icmp .ne 57, 3) := by decide +kernel
theorem dL_fits_120 : decode (mc mL_fits) 120 = .ok (.aload_n 0, 1) := by decide +kernel
theorem dL_fits_121 : decode (mc mL_fits) 121 = .ok (.iload 6, 2) := by decide +kernel
theorem dL_fits_123 : decode (mc mL_fits) 123 = .ok (.iconst 4, 1) := by decide +kernel
theorem dL_fits_124 : decode (mc mL_fits) 124 = .ok (.invokevirtual 30, 3) := by decide +kernel
theorem dL_fits_127 : decode (mc mL_fits) 127 = .ok (.ifCond .ne 14, 3) := by decide +kernel
theorem dL_fits_130 : decode (mc mL_fits) 130 = .ok (.aload_n 0, 1) := by decide +kernel
theorem dL_fits_131 : decode (mc mL_fits) 131 = .ok (.iload 6, 2) := by decide +kernel
theorem dL_fits_133 : decode (mc mL_fits) 133 = .ok (.bipush 6, 2) := by decide +kernel
theorem dL_fits_135 : decode (mc mL_fits) 135 = .ok (.invokevirtual 30, 3) := by decide +kernel
theorem dL_fits_138 : decode (mc mL_fits) 138 = .ok (.ifCond .ne 36, 3) := by decide +kernel
theorem dL_fits_141 : decode (mc mL_fits) 141 = .ok (.iload 7, 2) := by decide +kernel
theorem dL_fits_143 : decode (mc mL_fits) 143 = .ok (.iload 6, 2) := by decide +kernel
theorem dL_fits_145 : decode (mc mL_fits) 145 = .ok (.if_icmp .ge 29, 3) := by decide +kernel
theorem dL_fits_148 : decode (mc mL_fits) 148 = .ok (.aload_n 0, 1) := by decide +kernel
theorem dL_fits_149 : decode (mc mL_fits) 149 = .ok (.iload 6, 2) := by decide +kernel
theorem dL_fits_151 : decode (mc mL_fits) 151 = .ok (.iconst 4, 1) := by decide +kernel
theorem dL_fits_152 : decode (mc mL_fits) 152 = .ok (.invokevirtual 30, 3) := by decide +kernel
theorem dL_fits_155 : decode (mc mL_fits) 155 = .ok (.iconst 1, 1) := by decide +kernel
theorem dL_fits_156 : decode (mc mL_fits) 156 = .ok (.if_icmp .ne 20, 3) := by decide +kernel
theorem dL_fits_159 : decode (mc mL_fits) 159 = .ok (.iload 7, 2) := by decide +kernel
theorem dL_fits_161 : decode (mc mL_fits) 161 = .ok (.ifCond .lt 15, 3) := by decide +kernel
theorem dL_fits_164 : decode (mc mL_fits) 164 = .ok (.aload_n 0, 1) := by decide +kernel
theorem dL_fits_165 : decode (mc mL_fits) 165 = .ok (.iload 7, 2) := by decide +kernel
theorem dL_fits_167 : decode (mc mL_fits) 167 = .ok (.iconst 4, 1) := by decide +kernel
theorem dL_fits_168 : decode (mc mL_fits) 168 = .ok (.invokevirtual 30, 3) := by decide +kernel
theorem dL_fits_171 : decode (mc mL_fits) 171 = .ok (.ifCond .ne 5, 3) := by decide +kernel
theorem dL_fits_174 : decode (mc mL_fits) 174 = .ok (.iconst 0, 1) := by decide +kernel
theorem dL_fits_175 : decode (mc mL_fits) 175 = .ok (.ireturn, 1) := by decide +kernel
theorem dL_fits_176 : decode (mc mL_fits) 176 = .ok (.iconst 0, 1) := by decide +kernel
theorem dL_fits_177 : decode (mc mL_fits) 177 = .ok (.istore 8, 2) := by decide +kernel
theorem dL_fits_179 : decode (mc mL_fits) 179 = .ok (.iload 8, 2) := by decide +kernel
theorem dL_fits_181 : decode (mc mL_fits) 181 = .ok (.iload 6, 2) := by decide +kernel
theorem dL_fits_183 : decode (mc mL_fits) 183 = .ok (.if_icmp .ge 54, 3) := by decide +kernel
theorem dL_fits_186 : decode (mc mL_fits) 186 = .ok (.aload_n 0, 1) := by decide +kernel
theorem dL_fits_187 : decode (mc mL_fits) 187 = .ok (.iload 6, 2) := by decide +kernel
theorem dL_fits_189 : decode (mc mL_fits) 189 = .ok (.iload 8, 2) := by decide +kernel
theorem dL_fits_191 : decode (mc mL_fits) 191 = .ok (.invokevirtual 33, 3) := by decide +kernel
theorem dL_fits_194 : decode (mc mL_fits) 194 = .ok (.aload_n 0, 1) := by decide +kernel
theorem dL_fits_195 : decode (mc mL_fits) 195 = .ok (.iload 8, 2) := by decide +kernel
theorem dL_fits_197 : decode (mc mL_fits) 197 = .ok (.iload 6, 2) := by decide +kernel
theorem dL_fits_199 : decode (mc mL_fits) 199 = .ok (.invokevirtual 33, 3) := by decide +kernel
theorem dL_fits_202 : decode (mc mL_fits) 202 = .ok (.if_icmp .ne 27, 3) := by decide +kernel
theorem dL_fits_205 : decode (mc mL_fits) 205 = .ok (.aload_n 0, 1) := by decide +kernel
theorem dL_fits_206 : decode (mc mL_fits) 206 = .ok (.iload 6, 2) := by decide +kernel
theorem dL_fits_208 : decode (mc mL_fits) 208 = .ok (.iload 8, 2) := by decide +kernel
theorem dL_fits_210 : decode (mc mL_fits) 210 = .ok (.invokevirtual 33, 3) := by decide +kernel
theorem dL_fits_213 : decode (mc mL_fits) 213 = .ok (.ifCond .lt 16, 3) := by decide +kernel
theorem dL_fits_216 : decode (mc mL_fits) 216 = .ok (.aload_n 0, 1) := by decide +kernel
theorem dL_fits_217 : decode (mc mL_fits) 217 = .ok (.iload 6, 2) := by decide +kernel
theorem dL_fits_219 : decode (mc mL_fits) 219 = .ok (.iload 8, 2) := by decide +kernel
theorem dL_fits_221 : decode (mc mL_fits) 221 = .ok (.invokevirtual 33, 3) := by decide +kernel
theorem dL_fits_224 : decode (mc mL_fits) 224 = .ok (.bipush 100, 2) := by decide +kernel
theorem dL_fits_226 : decode (mc mL_fits) 226 = .ok (.if_icmp .le 5, 3) := by decide +kernel
theorem dL_fits_229 : decode (mc mL_fits) 229 = .ok (.iconst 0, 1) := by decide +kernel
theorem dL_fits_230 : decode (mc mL_fits) 230 = .ok (.ireturn, 1) := by decide +kernel
theorem dL_fits_231 : decode (mc mL_fits) 231 = .ok (.iinc 8 1, 3) := by decide +kernel
theorem dL_fits_234 : decode (mc mL_fits) 234 = .ok (.goto (-55), 3) := by decide +kernel
theorem dL_fits_237 : decode (mc mL_fits) 237 = .ok (.iinc 6 1, 3) := by decide +kernel
theorem dL_fits_240 : decode (mc mL_fits) 240 = .ok (.goto (-175), 3) := by decide +kernel
theorem dL_fits_243 : decode (mc mL_fits) 243 = .ok (.iconst 0, 1) := by decide +kernel
theorem dL_fits_244 : decode (mc mL_fits) 244 = .ok (.istore 6, 2) := by decide +kernel
theorem dL_fits_246 : decode (mc mL_fits) 246 = .ok (.iload 6, 2) := by decide +kernel
theorem dL_fits_248 : decode (mc mL_fits) 248 = .ok (.aload_n 0, 1) := by decide +kernel
theorem dL_fits_249 : decode (mc mL_fits) 249 = .ok (.iconst 3, 1) := by decide +kernel
theorem dL_fits_250 : decode (mc mL_fits) 250 = .ok (.invokevirtual 24, 3) := by decide +kernel
theorem dL_fits_253 : decode (mc mL_fits) 253 = .ok (.if_icmp .ge 124, 3) := by decide +kernel
theorem dL_fits_256 : decode (mc mL_fits) 256 = .ok (.aload_n 0, 1) := by decide +kernel
theorem dL_fits_257 : decode (mc mL_fits) 257 = .ok (.iload 6, 2) := by decide +kernel
theorem dL_fits_259 : decode (mc mL_fits) 259 = .ok (.bipush 6, 2) := by decide +kernel
theorem dL_fits_261 : decode (mc mL_fits) 261 = .ok (.invokevirtual 36, 3) := by decide +kernel
theorem dL_fits_264 : decode (mc mL_fits) 264 = .ok (.istore 7, 2) := by decide +kernel
theorem dL_fits_266 : decode (mc mL_fits) 266 = .ok (.iconst 0, 1) := by decide +kernel
theorem dL_fits_267 : decode (mc mL_fits) 267 = .ok (.istore 8, 2) := by decide +kernel
theorem dL_fits_269 : decode (mc mL_fits) 269 = .ok (.iload 8, 2) := by decide +kernel
theorem dL_fits_271 : decode (mc mL_fits) 271 = .ok (.bipush 6, 2) := by decide +kernel
theorem dL_fits_273 : decode (mc mL_fits) 273 = .ok (.if_icmp .ge 41, 3) := by decide +kernel
theorem dL_fits_276 : decode (mc mL_fits) 276 = .ok (.iload 7, 2) := by decide +kernel
theorem dL_fits_278 : decode (mc mL_fits) 278 = .ok (.aload_n 0, 1) := by decide +kernel
theorem dL_fits_279 : decode (mc mL_fits) 279 = .ok (.iload 6, 2) := by decide +kernel
theorem dL_fits_281 : decode (mc mL_fits) 281 = .ok (.bipush 7, 2) := by decide +kernel
theorem dL_fits_283 : decode (mc mL_fits) 283 = .ok (.iload 8, 2) := by decide +kernel
theorem dL_fits_285 : decode (mc mL_fits) 285 = .ok (.iadd, 1) := by decide +kernel
theorem dL_fits_286 : decode (mc mL_fits) 286 = .ok (.invokevirtual 36, 3) := by decide +kernel
theorem dL_fits_289 : decode (mc mL_fits) 289 = .ok (.iadd, 1) := by decide +kernel
theorem dL_fits_290 : decode (mc mL_fits) 290 = .ok (.istore 7, 2) := by decide +kernel
theorem dL_fits_292 : decode (mc mL_fits) 292 = .ok (.aload_n 0, 1) := by decide +kernel
theorem dL_fits_293 : decode (mc mL_fits) 293 = .ok (.iload 6, 2) := by decide +kernel
theorem dL_fits_295 : decode (mc mL_fits) 295 = .ok (.bipush 7, 2) := by decide +kernel
theorem dL_fits_297 : decode (mc mL_fits) 297 = .ok (.iload 8, 2) := by decide +kernel
theorem dL_fits_299 : decode (mc mL_fits) 299 = .ok (.iadd, 1) := by decide +kernel
theorem dL_fits_300 : decode (mc mL_fits) 300 = .ok (.invokevirtual 36, 3) := by decide +kernel
theorem dL_fits_303 : decode (mc mL_fits) 303 = .ok (.ifCond .ge 5, 3) := by decide +kernel
theorem dL_fits_306 : decode (mc mL_fits) 306 = .ok (.iconst 0, 1) := by decide +kernel
theorem dL_fits_307 : decode (mc mL_fits) 307 = .ok (.ireturn, 1) := by decide +kernel
theorem dL_fits_308 : decode (mc mL_fits) 308 = .ok (.iinc 8 1, 3) := by decide +kernel
theorem dL_fits_311 : decode (mc mL_fits) 311 = .ok (.goto (-42), 3) := by decide +kernel
theorem dL_fits_314 : decode (mc mL_fits) 314 = .ok (.iload 4, 2) := by decide +kernel
theorem dL_fits_316 : decode (mc mL_fits) 316 = .ok (.aload_n 0, 1) := by decide +kernel
theorem dL_fits_317 : decode (mc mL_fits) 317 = .ok (.iload 6, 2) := by decide +kernel
theorem dL_fits_319 : decode (mc mL_fits) 319 = .ok (.iconst 5, 1) := by decide +kernel
theorem dL_fits_320 : decode (mc mL_fits) 320 = .ok (.invokevirtual 36, 3) := by decide +kernel
theorem dL_fits_323 : decode (mc mL_fits) 323 = .ok (.iadd, 1) := by decide +kernel
theorem dL_fits_324 : decode (mc mL_fits) 324 = .ok (.istore 4, 2) := by decide +kernel
theorem dL_fits_326 : decode (mc mL_fits) 326 = .ok (.iload 7, 2) := by decide +kernel
theorem dL_fits_328 : decode (mc mL_fits) 328 = .ok (.aload_n 0, 1) := by decide +kernel
theorem dL_fits_329 : decode (mc mL_fits) 329 = .ok (.iload 6, 2) := by decide +kernel
theorem dL_fits_331 : decode (mc mL_fits) 331 = .ok (.iconst 3, 1) := by decide +kernel
theorem dL_fits_332 : decode (mc mL_fits) 332 = .ok (.invokevirtual 36, 3) := by decide +kernel
theorem dL_fits_335 : decode (mc mL_fits) 335 = .ok (.if_icmp .ne 34, 3) := by decide +kernel
theorem dL_fits_338 : decode (mc mL_fits) 338 = .ok (.aload_n 0, 1) := by decide +kernel
theorem dL_fits_339 : decode (mc mL_fits) 339 = .ok (.iload 6, 2) := by decide +kernel
theorem dL_fits_341 : decode (mc mL_fits) 341 = .ok (.iconst 4, 1) := by decide +kernel
theorem dL_fits_342 : decode (mc mL_fits) 342 = .ok (.invokevirtual 36, 3) := by decide +kernel
theorem dL_fits_345 : decode (mc mL_fits) 345 = .ok (.aload_n 0, 1) := by decide +kernel
theorem dL_fits_346 : decode (mc mL_fits) 346 = .ok (.iconst 5, 1) := by decide +kernel
theorem dL_fits_347 : decode (mc mL_fits) 347 = .ok (.invokevirtual 24, 3) := by decide +kernel
theorem dL_fits_350 : decode (mc mL_fits) 350 = .ok (.if_icmp .gt 19, 3) := by decide +kernel
theorem dL_fits_353 : decode (mc mL_fits) 353 = .ok (.aload_n 0, 1) := by decide +kernel
theorem dL_fits_354 : decode (mc mL_fits) 354 = .ok (.aload_n 0, 1) := by decide +kernel
theorem dL_fits_355 : decode (mc mL_fits) 355 = .ok (.iload 6, 2) := by decide +kernel
theorem dL_fits_357 : decode (mc mL_fits) 357 = .ok (.iconst 1, 1) := by decide +kernel
theorem dL_fits_358 : decode (mc mL_fits) 358 = .ok (.invokevirtual 36, 3) := by decide +kernel
theorem dL_fits_361 : decode (mc mL_fits) 361 = .ok (.iconst 5, 1) := by decide +kernel
theorem dL_fits_362 : decode (mc mL_fits) 362 = .ok (.invokevirtual 30, 3) := by decide +kernel
theorem dL_fits_365 : decode (mc mL_fits) 365 = .ok (.iconst 1, 1) := by decide +kernel
theorem dL_fits_366 : decode (mc mL_fits) 366 = .ok (.if_icmp .ge 5, 3) := by decide +kernel
theorem dL_fits_369 : decode (mc mL_fits) 369 = .ok (.iconst 0, 1) := by decide +kernel
theorem dL_fits_370 : decode (mc mL_fits) 370 = .ok (.ireturn, 1) := by decide +kernel
theorem dL_fits_371 : decode (mc mL_fits) 371 = .ok (.iinc 6 1, 3) := by decide +kernel
theorem dL_fits_374 : decode (mc mL_fits) 374 = .ok (.goto (-128), 3) := by decide +kernel
theorem dL_fits_377 : decode (mc mL_fits) 377 = .ok (.iconst 0, 1) := by decide +kernel
theorem dL_fits_378 : decode (mc mL_fits) 378 = .ok (.istore 6, 2) := by decide +kernel
theorem dL_fits_380 : decode (mc mL_fits) 380 = .ok (.iconst 0, 1) := by decide +kernel
theorem dL_fits_381 : decode (mc mL_fits) 381 = .ok (.istore 7, 2) := by decide +kernel
theorem dL_fits_383 : decode (mc mL_fits) 383 = .ok (.iload 7, 2) := by decide +kernel
theorem dL_fits_385 : decode (mc mL_fits) 385 = .ok (.aload_n 0, 1) := by decide +kernel
theorem dL_fits_386 : decode (mc mL_fits) 386 = .ok (.iconst 1, 1) := by decide +kernel
theorem dL_fits_387 : decode (mc mL_fits) 387 = .ok (.invokevirtual 24, 3) := by decide +kernel
theorem dL_fits_390 : decode (mc mL_fits) 390 = .ok (.if_icmp .ge 21, 3) := by decide +kernel
theorem dL_fits_393 : decode (mc mL_fits) 393 = .ok (.iload 6, 2) := by decide +kernel
theorem dL_fits_395 : decode (mc mL_fits) 395 = .ok (.aload_n 0, 1) := by decide +kernel
theorem dL_fits_396 : decode (mc mL_fits) 396 = .ok (.iload 7, 2) := by decide +kernel
theorem dL_fits_398 : decode (mc mL_fits) 398 = .ok (.iconst 5, 1) := by decide +kernel
theorem dL_fits_399 : decode (mc mL_fits) 399 = .ok (.invokevirtual 30, 3) := by decide +kernel
theorem dL_fits_402 : decode (mc mL_fits) 402 = .ok (.iadd, 1) := by decide +kernel
theorem dL_fits_403 : decode (mc mL_fits) 403 = .ok (.istore 6, 2) := by decide +kernel
theorem dL_fits_405 : decode (mc mL_fits) 405 = .ok (.iinc 7 1, 3) := by decide +kernel
theorem dL_fits_408 : decode (mc mL_fits) 408 = .ok (.goto (-25), 3) := by decide +kernel
theorem dL_fits_411 : decode (mc mL_fits) 411 = .ok (.iload_n 2, 1) := by decide +kernel
theorem dL_fits_412 : decode (mc mL_fits) 412 = .ok (.aload_n 0, 1) := by decide +kernel
theorem dL_fits_413 : decode (mc mL_fits) 413 = .ok (.iconst 2, 1) := by decide +kernel
theorem dL_fits_414 : decode (mc mL_fits) 414 = .ok (.invokevirtual 24, 3) := by decide +kernel
theorem dL_fits_417 : decode (mc mL_fits) 417 = .ok (.if_icmp .ne 45, 3) := by decide +kernel
theorem dL_fits_420 : decode (mc mL_fits) 420 = .ok (.iload_n 3, 1) := by decide +kernel
theorem dL_fits_421 : decode (mc mL_fits) 421 = .ok (.iload_n 2, 1) := by decide +kernel
theorem dL_fits_422 : decode (mc mL_fits) 422 = .ok (.if_icmp .ne 40, 3) := by decide +kernel
theorem dL_fits_425 : decode (mc mL_fits) 425 = .ok (.iload 4, 2) := by decide +kernel
theorem dL_fits_427 : decode (mc mL_fits) 427 = .ok (.aload_n 0, 1) := by decide +kernel
theorem dL_fits_428 : decode (mc mL_fits) 428 = .ok (.iconst 4, 1) := by decide +kernel
theorem dL_fits_429 : decode (mc mL_fits) 429 = .ok (.invokevirtual 24, 3) := by decide +kernel
theorem dL_fits_432 : decode (mc mL_fits) 432 = .ok (.if_icmp .ne 30, 3) := by decide +kernel
theorem dL_fits_435 : decode (mc mL_fits) 435 = .ok (.iload 5, 2) := by decide +kernel
theorem dL_fits_437 : decode (mc mL_fits) 437 = .ok (.iconst 2, 1) := by decide +kernel
theorem dL_fits_438 : decode (mc mL_fits) 438 = .ok (.aload_n 0, 1) := by decide +kernel
theorem dL_fits_439 : decode (mc mL_fits) 439 = .ok (.bipush 7, 2) := by decide +kernel
theorem dL_fits_441 : decode (mc mL_fits) 441 = .ok (.invokevirtual 24, 3) := by decide +kernel
theorem dL_fits_444 : decode (mc mL_fits) 444 = .ok (.imul, 1) := by decide +kernel
theorem dL_fits_445 : decode (mc mL_fits) 445 = .ok (.if_icmp .ne 17, 3) := by decide +kernel
theorem dL_fits_448 : decode (mc mL_fits) 448 = .ok (.iload 6, 2) := by decide +kernel
theorem dL_fits_450 : decode (mc mL_fits) 450 = .ok (.aload_n 0, 1) := by decide +kernel
theorem dL_fits_451 : decode (mc mL_fits) 451 = .ok (.iconst 3, 1) := by decide +kernel
theorem dL_fits_452 : decode (mc mL_fits) 452 = .ok (.invokevirtual 24, 3) := by decide +kernel
theorem dL_fits_455 : decode (mc mL_fits) 455 = .ok (.if_icmp .ne 7, 3) := by decide +kernel
theorem dL_fits_458 : decode (mc mL_fits) 458 = .ok (.iconst 1, 1) := by decide +kernel
theorem dL_fits_459 : decode (mc mL_fits) 459 = .ok (.goto 4, 3) := by decide +kernel
theorem dL_fits_462 : decode (mc mL_fits) 462 = .ok (.iconst 0, 1) := by decide +kernel
theorem dL_fits_463 : decode (mc mL_fits) 463 = .ok (.ireturn, 1) := by decide +kernel
theorem dL_law_0 : decode (mc mL_law) 0 = .ok (.new 9, 3) := by decide +kernel
theorem dL_law_3 : decode (mc mL_law) 3 = .ok (.dup, 1) := by decide +kernel
theorem dL_law_4 : decode (mc mL_law) 4 = .ok (.invokespecial 39, 3) := by decide +kernel
theorem dL_law_7 : decode (mc mL_law) 7 = .ok (.astore_n 1, 1) := by decide +kernel
theorem dL_law_8 : decode (mc mL_law) 8 = .ok (.aload_n 1, 1) := by decide +kernel
theorem dL_law_9 : decode (mc mL_law) 9 = .ok (.invokestatic 40, 3) := by decide +kernel
theorem dL_law_12 : decode (mc mL_law) 12 = .ok (.ifCond .eq 48, 3) := by decide +kernel
theorem dL_law_15 : decode (mc mL_law) 15 = .ok (.aload_n 1, 1) := by decide +kernel
theorem dL_law_16 : decode (mc mL_law) 16 = .ok (.invokevirtual 44, 3) := by decide +kernel
theorem dL_law_19 : decode (mc mL_law) 19 = .ok (.ldc 47, 2) := by decide +kernel
theorem dL_law_21 : decode (mc mL_law) 21 = .ok (.if_icmp .ne 39, 3) := by decide +kernel
theorem dL_law_24 : decode (mc mL_law) 24 = .ok (.aload_n 1, 1) := by decide +kernel
theorem dL_law_25 : decode (mc mL_law) 25 = .ok (.iconst 0, 1) := by decide +kernel
theorem dL_law_26 : decode (mc mL_law) 26 = .ok (.invokevirtual 48, 3) := by decide +kernel
theorem dL_law_29 : decode (mc mL_law) 29 = .ok (.ldc 51, 2) := by decide +kernel
theorem dL_law_31 : decode (mc mL_law) 31 = .ok (.if_icmp .ne 29, 3) := by decide +kernel
theorem dL_law_34 : decode (mc mL_law) 34 = .ok (.aload_n 1, 1) := by decide +kernel
theorem dL_law_35 : decode (mc mL_law) 35 = .ok (.iconst 0, 1) := by decide +kernel
theorem dL_law_36 : decode (mc mL_law) 36 = .ok (.invokevirtual 52, 3) := by decide +kernel
theorem dL_law_39 : decode (mc mL_law) 39 = .ok (.ldc 51, 2) := by decide +kernel
theorem dL_law_41 : decode (mc mL_law) 41 = .ok (.if_icmp .ne 19, 3) := by decide +kernel
theorem dL_law_44 : decode (mc mL_law) 44 = .ok (.aload_n 1, 1) := by decide +kernel
theorem dL_law_45 : decode (mc mL_law) 45 = .ok (.invokevirtual 55, 3) := by decide +kernel
theorem dL_law_48 : decode (mc mL_law) 48 = .ok (.ifCond .ne 12, 3) := by decide +kernel
theorem dL_law_51 : decode (mc mL_law) 51 = .ok (.aload_n 1, 1) := by decide +kernel
theorem dL_law_52 : decode (mc mL_law) 52 = .ok (.invokevirtual 58, 3) := by decide +kernel
theorem dL_law_55 : decode (mc mL_law) 55 = .ok (.ldc 47, 2) := by decide +kernel
theorem dL_law_57 : decode (mc mL_law) 57 = .ok (.if_icmp .eq 5, 3) := by decide +kernel
theorem dL_law_60 : decode (mc mL_law) 60 = .ok (.iconst 0, 1) := by decide +kernel
theorem dL_law_61 : decode (mc mL_law) 61 = .ok (.ireturn, 1) := by decide +kernel
theorem dL_law_62 : decode (mc mL_law) 62 = .ok (.aload_n 0, 1) := by decide +kernel
theorem dL_law_63 : decode (mc mL_law) 63 = .ok (.iconst 0, 1) := by decide +kernel
theorem dL_law_64 : decode (mc mL_law) 64 = .ok (.invokestatic 61, 3) := by decide +kernel
theorem dL_law_67 : decode (mc mL_law) 67 = .ok (.istore_n 2, 1) := by decide +kernel
theorem dL_law_68 : decode (mc mL_law) 68 = .ok (.iconst 1, 1) := by decide +kernel
theorem dL_law_69 : decode (mc mL_law) 69 = .ok (.iload_n 2, 1) := by decide +kernel
theorem dL_law_70 : decode (mc mL_law) 70 = .ok (.bipush 6, 2) := by decide +kernel
theorem dL_law_72 : decode (mc mL_law) 72 = .ok (.invokestatic 14, 3) := by decide +kernel
theorem dL_law_75 : decode (mc mL_law) 75 = .ok (.iadd, 1) := by decide +kernel
theorem dL_law_76 : decode (mc mL_law) 76 = .ok (.istore_n 3, 1) := by decide +kernel
theorem dL_law_77 : decode (mc mL_law) 77 = .ok (.iconst 0, 1) := by decide +kernel
theorem dL_law_78 : decode (mc mL_law) 78 = .ok (.istore 4, 2) := by decide +kernel
theorem dL_law_80 : decode (mc mL_law) 80 = .ok (.iload 4, 2) := by decide +kernel
theorem dL_law_82 : decode (mc mL_law) 82 = .ok (.iload_n 3, 1) := by decide +kernel
theorem dL_law_83 : decode (mc mL_law) 83 = .ok (.if_icmp .ge 35, 3) := by decide +kernel
theorem dL_law_86 : decode (mc mL_law) 86 = .ok (.aload_n 1, 1) := by decide +kernel
theorem dL_law_87 : decode (mc mL_law) 87 = .ok (.invokevirtual 65, 3) := by decide +kernel
theorem dL_law_90 : decode (mc mL_law) 90 = .ok (.pop, 1) := by decide +kernel
theorem dL_law_91 : decode (mc mL_law) 91 = .ok (.aload_n 1, 1) := by decide +kernel
theorem dL_law_92 : decode (mc mL_law) 92 = .ok (.iload 4, 2) := by decide +kernel
theorem dL_law_94 : decode (mc mL_law) 94 = .ok (.iload_n 2, 1) := by decide +kernel
theorem dL_law_95 : decode (mc mL_law) 95 = .ok (.iconst 3, 1) := by decide +kernel
theorem dL_law_96 : decode (mc mL_law) 96 = .ok (.iconst 3, 1) := by decide +kernel
theorem dL_law_97 : decode (mc mL_law) 97 = .ok (.iload 4, 2) := by decide +kernel
theorem dL_law_99 : decode (mc mL_law) 99 = .ok (.imul, 1) := by decide +kernel
theorem dL_law_100 : decode (mc mL_law) 100 = .ok (.iadd, 1) := by decide +kernel
theorem dL_law_101 : decode (mc mL_law) 101 = .ok (.ishr, 1) := by decide +kernel
theorem dL_law_102 : decode (mc mL_law) 102 = .ok (.sipush 201, 3) := by decide +kernel
theorem dL_law_105 : decode (mc mL_law) 105 = .ok (.invokestatic 14, 3) := by decide +kernel
theorem dL_law_108 : decode (mc mL_law) 108 = .ok (.invokevirtual 68, 3) := by decide +kernel
theorem dL_law_111 : decode (mc mL_law) 111 = .ok (.pop, 1) := by decide +kernel
theorem dL_law_112 : decode (mc mL_law) 112 = .ok (.iinc 4 1, 3) := by decide +kernel
theorem dL_law_115 : decode (mc mL_law) 115 = .ok (.goto (-35), 3) := by decide +kernel
theorem dL_law_118 : decode (mc mL_law) 118 = .ok (.aload_n 1, 1) := by decide +kernel
theorem dL_law_119 : decode (mc mL_law) 119 = .ok (.iconst 0, 1) := by decide +kernel
theorem dL_law_120 : decode (mc mL_law) 120 = .ok (.iconst 1, 1) := by decide +kernel
theorem dL_law_121 : decode (mc mL_law) 121 = .ok (.iload_n 2, 1) := by decide +kernel
theorem dL_law_122 : decode (mc mL_law) 122 = .ok (.iconst 5, 1) := by decide +kernel
theorem dL_law_123 : decode (mc mL_law) 123 = .ok (.ishr, 1) := by decide +kernel
theorem dL_law_124 : decode (mc mL_law) 124 = .ok (.bipush 100, 2) := by decide +kernel
theorem dL_law_126 : decode (mc mL_law) 126 = .ok (.invokestatic 14, 3) := by decide +kernel
theorem dL_law_129 : decode (mc mL_law) 129 = .ok (.iadd, 1) := by decide +kernel
theorem dL_law_130 : decode (mc mL_law) 130 = .ok (.invokevirtual 71, 3) := by decide +kernel
theorem dL_law_133 : decode (mc mL_law) 133 = .ok (.pop, 1) := by decide +kernel
theorem dL_law_134 : decode (mc mL_law) 134 = .ok (.aload_n 1, 1) := by decide +kernel
theorem dL_law_135 : decode (mc mL_law) 135 = .ok (.iconst 1, 1) := by decide +kernel
theorem dL_law_136 : decode (mc mL_law) 136 = .ok (.iload_n 2, 1) := by decide +kernel
theorem dL_law_137 : decode (mc mL_law) 137 = .ok (.bipush 9, 2) := by decide +kernel
theorem dL_law_139 : decode (mc mL_law) 139 = .ok (.ishr, 1) := by decide +kernel
theorem dL_law_140 : decode (mc mL_law) 140 = .ok (.bipush 51, 2) := by decide +kernel
theorem dL_law_142 : decode (mc mL_law) 142 = .ok (.invokestatic 14, 3) := by decide +kernel
theorem dL_law_145 : decode (mc mL_law) 145 = .ok (.invokevirtual 71, 3) := by decide +kernel
theorem dL_law_148 : decode (mc mL_law) 148 = .ok (.pop, 1) := by decide +kernel
theorem dL_law_149 : decode (mc mL_law) 149 = .ok (.aload_n 1, 1) := by decide +kernel
theorem dL_law_150 : decode (mc mL_law) 150 = .ok (.iconst 2, 1) := by decide +kernel
theorem dL_law_151 : decode (mc mL_law) 151 = .ok (.iload_n 2, 1) := by decide +kernel
theorem dL_law_152 : decode (mc mL_law) 152 = .ok (.bipush 12, 2) := by decide +kernel
theorem dL_law_154 : decode (mc mL_law) 154 = .ok (.ishr, 1) := by decide +kernel
theorem dL_law_155 : decode (mc mL_law) 155 = .ok (.bipush 81, 2) := by decide +kernel
theorem dL_law_157 : decode (mc mL_law) 157 = .ok (.invokestatic 14, 3) := by decide +kernel
theorem dL_law_160 : decode (mc mL_law) 160 = .ok (.invokevirtual 71, 3) := by decide +kernel
theorem dL_law_163 : decode (mc mL_law) 163 = .ok (.pop, 1) := by decide +kernel
theorem dL_law_164 : decode (mc mL_law) 164 = .ok (.aload_n 1, 1) := by decide +kernel
theorem dL_law_165 : decode (mc mL_law) 165 = .ok (.iconst 3, 1) := by decide +kernel
theorem dL_law_166 : decode (mc mL_law) 166 = .ok (.iload_n 2, 1) := by decide +kernel
theorem dL_law_167 : decode (mc mL_law) 167 = .ok (.bipush 15, 2) := by decide +kernel
theorem dL_law_169 : decode (mc mL_law) 169 = .ok (.ishr, 1) := by decide +kernel
theorem dL_law_170 : decode (mc mL_law) 170 = .ok (.bipush 20, 2) := by decide +kernel
theorem dL_law_172 : decode (mc mL_law) 172 = .ok (.invokestatic 14, 3) := by decide +kernel
theorem dL_law_175 : decode (mc mL_law) 175 = .ok (.invokevirtual 71, 3) := by decide +kernel
theorem dL_law_178 : decode (mc mL_law) 178 = .ok (.pop, 1) := by decide +kernel
theorem dL_law_179 : decode (mc mL_law) 179 = .ok (.aload_n 1, 1) := by decide +kernel
theorem dL_law_180 : decode (mc mL_law) 180 = .ok (.iconst 4, 1) := by decide +kernel
theorem dL_law_181 : decode (mc mL_law) 181 = .ok (.iconst 1, 1) := by decide +kernel
theorem dL_law_182 : decode (mc mL_law) 182 = .ok (.iload_n 2, 1) := by decide +kernel
theorem dL_law_183 : decode (mc mL_law) 183 = .ok (.bipush 18, 2) := by decide +kernel
theorem dL_law_185 : decode (mc mL_law) 185 = .ok (.ishr, 1) := by decide +kernel
theorem dL_law_186 : decode (mc mL_law) 186 = .ok (.bipush 100, 2) := by decide +kernel
theorem dL_law_188 : decode (mc mL_law) 188 = .ok (.invokestatic 14, 3) := by decide +kernel
theorem dL_law_191 : decode (mc mL_law) 191 = .ok (.iadd, 1) := by decide +kernel
theorem dL_law_192 : decode (mc mL_law) 192 = .ok (.invokevirtual 71, 3) := by decide +kernel
theorem dL_law_195 : decode (mc mL_law) 195 = .ok (.pop, 1) := by decide +kernel
theorem dL_law_196 : decode (mc mL_law) 196 = .ok (.iconst 1, 1) := by decide +kernel
theorem dL_law_197 : decode (mc mL_law) 197 = .ok (.iload_n 2, 1) := by decide +kernel
theorem dL_law_198 : decode (mc mL_law) 198 = .ok (.bipush 21, 2) := by decide +kernel
theorem dL_law_200 : decode (mc mL_law) 200 = .ok (.ishr, 1) := by decide +kernel
theorem dL_law_201 : decode (mc mL_law) 201 = .ok (.bipush 12, 2) := by decide +kernel
theorem dL_law_203 : decode (mc mL_law) 203 = .ok (.invokestatic 14, 3) := by decide +kernel
theorem dL_law_206 : decode (mc mL_law) 206 = .ok (.iadd, 1) := by decide +kernel
theorem dL_law_207 : decode (mc mL_law) 207 = .ok (.istore 4, 2) := by decide +kernel
theorem dL_law_209 : decode (mc mL_law) 209 = .ok (.iconst 0, 1) := by decide +kernel
theorem dL_law_210 : decode (mc mL_law) 210 = .ok (.istore 5, 2) := by decide +kernel
theorem dL_law_212 : decode (mc mL_law) 212 = .ok (.iload 5, 2) := by decide +kernel
theorem dL_law_214 : decode (mc mL_law) 214 = .ok (.iload 4, 2) := by decide +kernel
theorem dL_law_216 : decode (mc mL_law) 216 = .ok (.if_icmp .ge 140, 3) := by decide +kernel
theorem dL_law_219 : decode (mc mL_law) 219 = .ok (.aload_n 0, 1) := by decide +kernel
theorem dL_law_220 : decode (mc mL_law) 220 = .ok (.iconst 1, 1) := by decide +kernel
theorem dL_law_221 : decode (mc mL_law) 221 = .ok (.iload 5, 2) := by decide +kernel
theorem dL_law_223 : decode (mc mL_law) 223 = .ok (.iadd, 1) := by decide +kernel
theorem dL_law_224 : decode (mc mL_law) 224 = .ok (.invokestatic 61, 3) := by decide +kernel
theorem dL_law_227 : decode (mc mL_law) 227 = .ok (.istore 6, 2) := by decide +kernel
theorem dL_law_229 : decode (mc mL_law) 229 = .ok (.aload_n 1, 1) := by decide +kernel
theorem dL_law_230 : decode (mc mL_law) 230 = .ok (.iconst 1, 1) := by decide +kernel
theorem dL_law_231 : decode (mc mL_law) 231 = .ok (.iload 6, 2) := by decide +kernel
theorem dL_law_233 : decode (mc mL_law) 233 = .ok (.bipush 6, 2) := by decide +kernel
theorem dL_law_235 : decode (mc mL_law) 235 = .ok (.invokestatic 14, 3) := by decide +kernel
theorem dL_law_238 : decode (mc mL_law) 238 = .ok (.iadd, 1) := by decide +kernel
theorem dL_law_239 : decode (mc mL_law) 239 = .ok (.aload_n 0, 1) := by decide +kernel
theorem dL_law_240 : decode (mc mL_law) 240 = .ok (.bipush 13, 2) := by decide +kernel
theorem dL_law_242 : decode (mc mL_law) 242 = .ok (.iload 5, 2) := by decide +kernel
theorem dL_law_244 : decode (mc mL_law) 244 = .ok (.iadd, 1) := by decide +kernel
theorem dL_law_245 : decode (mc mL_law) 245 = .ok (.invokestatic 61, 3) := by decide +kernel
theorem dL_law_248 : decode (mc mL_law) 248 = .ok (.invokestatic 74, 3) := by decide +kernel
theorem dL_law_251 : decode (mc mL_law) 251 = .ok (.istore 7, 2) := by decide +kernel
theorem dL_law_253 : decode (mc mL_law) 253 = .ok (.iload 5, 2) := by decide +kernel
theorem dL_law_255 : decode (mc mL_law) 255 = .ok (.ifCond .le 25, 3) := by decide +kernel
theorem dL_law_258 : decode (mc mL_law) 258 = .ok (.iload 6, 2) := by decide +kernel
theorem dL_law_260 : decode (mc mL_law) 260 = .ok (.iconst 5, 1) := by decide +kernel
theorem dL_law_261 : decode (mc mL_law) 261 = .ok (.ishr, 1) := by decide +kernel
theorem dL_law_262 : decode (mc mL_law) 262 = .ok (.iconst 3, 1) := by decide +kernel
theorem dL_law_263 : decode (mc mL_law) 263 = .ok (.iand, 1) := by decide +kernel
theorem dL_law_264 : decode (mc mL_law) 264 = .ok (.ifCond .le 16, 3) := by decide +kernel
theorem dL_law_267 : decode (mc mL_law) 267 = .ok (.iload 6, 2) := by decide +kernel
theorem dL_law_269 : decode (mc mL_law) 269 = .ok (.bipush 7, 2) := by decide +kernel
theorem dL_law_271 : decode (mc mL_law) 271 = .ok (.ishr, 1) := by decide +kernel
theorem dL_law_272 : decode (mc mL_law) 272 = .ok (.iload 5, 2) := by decide +kernel
theorem dL_law_274 : decode (mc mL_law) 274 = .ok (.invokestatic 14, 3) := by decide +kernel
theorem dL_law_277 : decode (mc mL_law) 277 = .ok (.goto 5, 3) := by decide +kernel
theorem dL_law_280 : decode (mc mL_law) 280 = .ok (.ldc 78, 2) := by decide +kernel
theorem dL_law_282 : decode (mc mL_law) 282 = .ok (.istore 8, 2) := by decide +kernel
theorem dL_law_284 : decode (mc mL_law) 284 = .ok (.aload_n 1, 1) := by decide +kernel
theorem dL_law_285 : decode (mc mL_law) 285 = .ok (.iload 6, 2) := by decide +kernel
theorem dL_law_287 : decode (mc mL_law) 287 = .ok (.bipush 11, 2) := by decide +kernel
theorem dL_law_289 : decode (mc mL_law) 289 = .ok (.ishr, 1) := by decide +kernel
theorem dL_law_290 : decode (mc mL_law) 290 = .ok (.iload_n 3, 1) := by decide +kernel
theorem dL_law_291 : decode (mc mL_law) 291 = .ok (.invokestatic 14, 3) := by decide +kernel
theorem dL_law_294 : decode (mc mL_law) 294 = .ok (.iload 6, 2) := by decide +kernel
theorem dL_law_296 : decode (mc mL_law) 296 = .ok (.bipush 14, 2) := by decide +kernel
theorem dL_law_298 : decode (mc mL_law) 298 = .ok (.ishr, 1) := by decide +kernel
theorem dL_law_299 : decode (mc mL_law) 299 = .ok (.iconst 3, 1) := by decide +kernel
theorem dL_law_300 : decode (mc mL_law) 300 = .ok (.invokestatic 14, 3) := by decide +kernel
theorem dL_law_303 : decode (mc mL_law) 303 = .ok (.iload 8, 2) := by decide +kernel
theorem dL_law_305 : decode (mc mL_law) 305 = .ok (.invokevirtual 79, 3) := by decide +kernel
theorem dL_law_308 : decode (mc mL_law) 308 = .ok (.iload 5, 2) := by decide +kernel
theorem dL_law_310 : decode (mc mL_law) 310 = .ok (.if_icmp .ne 38, 3) := by decide +kernel
theorem dL_law_313 : decode (mc mL_law) 313 = .ok (.aload_n 1, 1) := by decide +kernel
theorem dL_law_314 : decode (mc mL_law) 314 = .ok (.iload 5, 2) := by decide +kernel
theorem dL_law_316 : decode (mc mL_law) 316 = .ok (.iconst 1, 1) := by decide +kernel
theorem dL_law_317 : decode (mc mL_law) 317 = .ok (.invokevirtual 30, 3) := by decide +kernel
theorem dL_law_320 : decode (mc mL_law) 320 = .ok (.iload 7, 2) := by decide +kernel
theorem dL_law_322 : decode (mc mL_law) 322 = .ok (.if_icmp .ne 26, 3) := by decide +kernel
theorem dL_law_325 : decode (mc mL_law) 325 = .ok (.aload_n 1, 1) := by decide +kernel
theorem dL_law_326 : decode (mc mL_law) 326 = .ok (.iload 5, 2) := by decide +kernel
theorem dL_law_328 : decode (mc mL_law) 328 = .ok (.invokevirtual 83, 3) := by decide +kernel
theorem dL_law_331 : decode (mc mL_law) 331 = .ok (.bipush 100, 2) := by decide +kernel
theorem dL_law_333 : decode (mc mL_law) 333 = .ok (.if_icmp .ne 15, 3) := by decide +kernel
theorem dL_law_336 : decode (mc mL_law) 336 = .ok (.aload_n 1, 1) := by decide +kernel
theorem dL_law_337 : decode (mc mL_law) 337 = .ok (.iload 5, 2) := by decide +kernel
theorem dL_law_339 : decode (mc mL_law) 339 = .ok (.iconst 3, 1) := by decide +kernel
theorem dL_law_340 : decode (mc mL_law) 340 = .ok (.invokevirtual 30, 3) := by decide +kernel
theorem dL_law_343 : decode (mc mL_law) 343 = .ok (.iload 8, 2) := by decide +kernel
theorem dL_law_345 : decode (mc mL_law) 345 = .ok (.if_icmp .eq 5, 3) := by decide +kernel
theorem dL_law_348 : decode (mc mL_law) 348 = .ok (.iconst 0, 1) := by decide +kernel
theorem dL_law_349 : decode (mc mL_law) 349 = .ok (.ireturn, 1) := by decide +kernel
theorem dL_law_350 : decode (mc mL_law) 350 = .ok (.iinc 5 1, 3) := by decide +kernel
theorem dL_law_353 : decode (mc mL_law) 353 = .ok (.goto (-141), 3) := by decide +kernel
theorem dL_law_356 : decode (mc mL_law) 356 = .ok (.aload_n 1, 1) := by decide +kernel
theorem dL_law_357 : decode (mc mL_law) 357 = .ok (.invokestatic 40, 3) := by decide +kernel
theorem dL_law_360 : decode (mc mL_law) 360 = .ok (.ifCond .ne 5, 3) := by decide +kernel
theorem dL_law_363 : decode (mc mL_law) 363 = .ok (.iconst 0, 1) := by decide +kernel
theorem dL_law_364 : decode (mc mL_law) 364 = .ok (.ireturn, 1) := by decide +kernel
theorem dL_law_365 : decode (mc mL_law) 365 = .ok (.iconst 0, 1) := by decide +kernel
theorem dL_law_366 : decode (mc mL_law) 366 = .ok (.istore 5, 2) := by decide +kernel
theorem dL_law_368 : decode (mc mL_law) 368 = .ok (.iload 5, 2) := by decide +kernel
theorem dL_law_370 : decode (mc mL_law) 370 = .ok (.bipush 12, 2) := by decide +kernel
theorem dL_law_372 : decode (mc mL_law) 372 = .ok (.if_icmp .ge 553, 3) := by decide +kernel
theorem dL_law_375 : decode (mc mL_law) 375 = .ok (.aload_n 0, 1) := by decide +kernel
theorem dL_law_376 : decode (mc mL_law) 376 = .ok (.bipush 25, 2) := by decide +kernel
theorem dL_law_378 : decode (mc mL_law) 378 = .ok (.iload 5, 2) := by decide +kernel
theorem dL_law_380 : decode (mc mL_law) 380 = .ok (.iadd, 1) := by decide +kernel
theorem dL_law_381 : decode (mc mL_law) 381 = .ok (.invokestatic 61, 3) := by decide +kernel
theorem dL_law_384 : decode (mc mL_law) 384 = .ok (.istore 6, 2) := by decide +kernel
theorem dL_law_386 : decode (mc mL_law) 386 = .ok (.iload 6, 2) := by decide +kernel
theorem dL_law_388 : decode (mc mL_law) 388 = .ok (.iload_n 3, 1) := by decide +kernel
theorem dL_law_389 : decode (mc mL_law) 389 = .ok (.invokestatic 14, 3) := by decide +kernel
theorem dL_law_392 : decode (mc mL_law) 392 = .ok (.istore 7, 2) := by decide +kernel
theorem dL_law_394 : decode (mc mL_law) 394 = .ok (.aload_n 1, 1) := by decide +kernel
theorem dL_law_395 : decode (mc mL_law) 395 = .ok (.iconst 1, 1) := by decide +kernel
theorem dL_law_396 : decode (mc mL_law) 396 = .ok (.iload 6, 2) := by decide +kernel
theorem dL_law_398 : decode (mc mL_law) 398 = .ok (.iconst 3, 1) := by decide +kernel
theorem dL_law_399 : decode (mc mL_law) 399 = .ok (.ishr, 1) := by decide +kernel
theorem dL_law_400 : decode (mc mL_law) 400 = .ok (.bipush 6, 2) := by decide +kernel
theorem dL_law_402 : decode (mc mL_law) 402 = .ok (.invokestatic 14, 3) := by decide +kernel
theorem dL_law_405 : decode (mc mL_law) 405 = .ok (.iadd, 1) := by decide +kernel
theorem dL_law_406 : decode (mc mL_law) 406 = .ok (.iload 6, 2) := by decide +kernel
theorem dL_law_408 : decode (mc mL_law) 408 = .ok (.bipush 6, 2) := by decide +kernel
theorem dL_law_410 : decode (mc mL_law) 410 = .ok (.ishr, 1) := by decide +kernel
theorem dL_law_411 : decode (mc mL_law) 411 = .ok (.invokestatic 74, 3) := by decide +kernel
theorem dL_law_414 : decode (mc mL_law) 414 = .ok (.istore 8, 2) := by decide +kernel
theorem dL_law_416 : decode (mc mL_law) 416 = .ok (.aload_n 1, 1) := by decide +kernel
theorem dL_law_417 : decode (mc mL_law) 417 = .ok (.invokevirtual 44, 3) := by decide +kernel
theorem dL_law_420 : decode (mc mL_law) 420 = .ok (.istore 9, 2) := by decide +kernel
theorem dL_law_422 : decode (mc mL_law) 422 = .ok (.iconst 0, 1) := by decide +kernel
theorem dL_law_423 : decode (mc mL_law) 423 = .ok (.istore 10, 2) := by decide +kernel
theorem dL_law_425 : decode (mc mL_law) 425 = .ok (.iload 10, 2) := by decide +kernel
theorem dL_law_427 : decode (mc mL_law) 427 = .ok (.iload 4, 2) := by decide +kernel
theorem dL_law_429 : decode (mc mL_law) 429 = .ok (.if_icmp .ge 125, 3) := by decide +kernel
theorem dL_law_432 : decode (mc mL_law) 432 = .ok (.aload_n 1, 1) := by decide +kernel
theorem dL_law_433 : decode (mc mL_law) 433 = .ok (.iload 10, 2) := by decide +kernel
theorem dL_law_435 : decode (mc mL_law) 435 = .ok (.iconst 4, 1) := by decide +kernel
theorem dL_law_436 : decode (mc mL_law) 436 = .ok (.invokevirtual 30, 3) := by decide +kernel
theorem dL_law_439 : decode (mc mL_law) 439 = .ok (.iconst 1, 1) := by decide +kernel
theorem dL_law_440 : decode (mc mL_law) 440 = .ok (.if_icmp .ne 22, 3) := by decide +kernel
theorem dL_law_443 : decode (mc mL_law) 443 = .ok (.aload_n 1, 1) := by decide +kernel
theorem dL_law_444 : decode (mc mL_law) 444 = .ok (.iload 10, 2) := by decide +kernel
theorem dL_law_446 : decode (mc mL_law) 446 = .ok (.invokevirtual 83, 3) := by decide +kernel
theorem dL_law_449 : decode (mc mL_law) 449 = .ok (.aload_n 1, 1) := by decide +kernel
theorem dL_law_450 : decode (mc mL_law) 450 = .ok (.bipush 8, 2) := by decide +kernel
theorem dL_law_452 : decode (mc mL_law) 452 = .ok (.invokevirtual 24, 3) := by decide +kernel
theorem dL_law_455 : decode (mc mL_law) 455 = .ok (.if_icmp .lt 7, 3) := by decide +kernel
theorem dL_law_458 : decode (mc mL_law) 458 = .ok (.iconst 1, 1) := by decide +kernel
theorem dL_law_459 : decode (mc mL_law) 459 = .ok (.goto 4, 3) := by decide +kernel
theorem dL_law_462 : decode (mc mL_law) 462 = .ok (.iconst 0, 1) := by decide +kernel
theorem dL_law_463 : decode (mc mL_law) 463 = .ok (.istore 11, 2) := by decide +kernel
theorem dL_law_465 : decode (mc mL_law) 465 = .ok (.iload 11, 2) := by decide +kernel
theorem dL_law_467 : decode (mc mL_law) 467 = .ok (.ifCond .eq 81, 3) := by decide +kernel
theorem dL_law_470 : decode (mc mL_law) 470 = .ok (.iload 9, 2) := by decide +kernel
theorem dL_law_472 : decode (mc mL_law) 472 = .ok (.ifCond .lt 74, 3) := by decide +kernel
theorem dL_law_475 : decode (mc mL_law) 475 = .ok (.aload_n 1, 1) := by decide +kernel
theorem dL_law_476 : decode (mc mL_law) 476 = .ok (.iload 10, 2) := by decide +kernel
theorem dL_law_478 : decode (mc mL_law) 478 = .ok (.invokevirtual 83, 3) := by decide +kernel
theorem dL_law_481 : decode (mc mL_law) 481 = .ok (.aload_n 1, 1) := by decide +kernel
theorem dL_law_482 : decode (mc mL_law) 482 = .ok (.iload 9, 2) := by decide +kernel
theorem dL_law_484 : decode (mc mL_law) 484 = .ok (.invokevirtual 83, 3) := by decide +kernel
theorem dL_law_487 : decode (mc mL_law) 487 = .ok (.if_icmp .gt 59, 3) := by decide +kernel
theorem dL_law_490 : decode (mc mL_law) 490 = .ok (.aload_n 1, 1) := by decide +kernel
theorem dL_law_491 : decode (mc mL_law) 491 = .ok (.iload 10, 2) := by decide +kernel
theorem dL_law_493 : decode (mc mL_law) 493 = .ok (.invokevirtual 83, 3) := by decide +kernel
theorem dL_law_496 : decode (mc mL_law) 496 = .ok (.aload_n 1, 1) := by decide +kernel
theorem dL_law_497 : decode (mc mL_law) 497 = .ok (.iload 9, 2) := by decide +kernel
theorem dL_law_499 : decode (mc mL_law) 499 = .ok (.invokevirtual 83, 3) := by decide +kernel
theorem dL_law_502 : decode (mc mL_law) 502 = .ok (.if_icmp .ne 46, 3) := by decide +kernel
theorem dL_law_505 : decode (mc mL_law) 505 = .ok (.aload_n 1, 1) := by decide +kernel
theorem dL_law_506 : decode (mc mL_law) 506 = .ok (.iload 10, 2) := by decide +kernel
theorem dL_law_508 : decode (mc mL_law) 508 = .ok (.iconst 5, 1) := by decide +kernel
theorem dL_law_509 : decode (mc mL_law) 509 = .ok (.invokevirtual 30, 3) := by decide +kernel
theorem dL_law_512 : decode (mc mL_law) 512 = .ok (.aload_n 1, 1) := by decide +kernel
theorem dL_law_513 : decode (mc mL_law) 513 = .ok (.iload 9, 2) := by decide +kernel
theorem dL_law_515 : decode (mc mL_law) 515 = .ok (.iconst 5, 1) := by decide +kernel
theorem dL_law_516 : decode (mc mL_law) 516 = .ok (.invokevirtual 30, 3) := by decide +kernel
theorem dL_law_519 : decode (mc mL_law) 519 = .ok (.if_icmp .gt 27, 3) := by decide +kernel
theorem dL_law_522 : decode (mc mL_law) 522 = .ok (.aload_n 1, 1) := by decide +kernel
theorem dL_law_523 : decode (mc mL_law) 523 = .ok (.iload 10, 2) := by decide +kernel
theorem dL_law_525 : decode (mc mL_law) 525 = .ok (.iconst 5, 1) := by decide +kernel
theorem dL_law_526 : decode (mc mL_law) 526 = .ok (.invokevirtual 30, 3) := by decide +kernel
theorem dL_law_529 : decode (mc mL_law) 529 = .ok (.aload_n 1, 1) := by decide +kernel
theorem dL_law_530 : decode (mc mL_law) 530 = .ok (.iload 9, 2) := by decide +kernel
theorem dL_law_532 : decode (mc mL_law) 532 = .ok (.iconst 5, 1) := by decide +kernel
theorem dL_law_533 : decode (mc mL_law) 533 = .ok (.invokevirtual 30, 3) := by decide +kernel
theorem dL_law_536 : decode (mc mL_law) 536 = .ok (.if_icmp .ne 12, 3) := by decide +kernel
theorem dL_law_539 : decode (mc mL_law) 539 = .ok (.iload 10, 2) := by decide +kernel
theorem dL_law_541 : decode (mc mL_law) 541 = .ok (.iload 9, 2) := by decide +kernel
theorem dL_law_543 : decode (mc mL_law) 543 = .ok (.if_icmp .ge 5, 3) := by decide +kernel
theorem dL_law_546 : decode (mc mL_law) 546 = .ok (.iconst 0, 1) := by decide +kernel
theorem dL_law_547 : decode (mc mL_law) 547 = .ok (.ireturn, 1) := by decide +kernel
theorem dL_law_548 : decode (mc mL_law) 548 = .ok (.iinc 10 1, 3) := by decide +kernel
theorem dL_law_551 : decode (mc mL_law) 551 = .ok (.goto (-126), 3) := by decide +kernel
theorem dL_law_554 : decode (mc mL_law) 554 = .ok (.aload_n 1, 1) := by decide +kernel
theorem dL_law_555 : decode (mc mL_law) 555 = .ok (.iload 7, 2) := by decide +kernel
theorem dL_law_557 : decode (mc mL_law) 557 = .ok (.invokevirtual 48, 3) := by decide +kernel
theorem dL_law_560 : decode (mc mL_law) 560 = .ok (.istore 10, 2) := by decide +kernel
theorem dL_law_562 : decode (mc mL_law) 562 = .ok (.aload_n 1, 1) := by decide +kernel
theorem dL_law_563 : decode (mc mL_law) 563 = .ok (.iload 7, 2) := by decide +kernel
theorem dL_law_565 : decode (mc mL_law) 565 = .ok (.iconst 1, 1) := by decide +kernel
theorem dL_law_566 : decode (mc mL_law) 566 = .ok (.invokevirtual 27, 3) := by decide +kernel
theorem dL_law_569 : decode (mc mL_law) 569 = .ok (.istore 11, 2) := by decide +kernel
theorem dL_law_571 : decode (mc mL_law) 571 = .ok (.aload_n 1, 1) := by decide +kernel
theorem dL_law_572 : decode (mc mL_law) 572 = .ok (.invokevirtual 86, 3) := by decide +kernel
theorem dL_law_575 : decode (mc mL_law) 575 = .ok (.lstore 12, 2) := by decide +kernel
theorem dL_law_577 : decode (mc mL_law) 577 = .ok (.aload_n 1, 1) := by decide +kernel
theorem dL_law_578 : decode (mc mL_law) 578 = .ok (.iload 7, 2) := by decide +kernel
theorem dL_law_580 : decode (mc mL_law) 580 = .ok (.invokevirtual 52, 3) := by decide +kernel
theorem dL_law_583 : decode (mc mL_law) 583 = .ok (.istore 14, 2) := by decide +kernel
theorem dL_law_585 : decode (mc mL_law) 585 = .ok (.iload 9, 2) := by decide +kernel
theorem dL_law_587 : decode (mc mL_law) 587 = .ok (.ifCond .ge 37, 3) := by decide +kernel
theorem dL_law_590 : decode (mc mL_law) 590 = .ok (.iload 9, 2) := by decide +kernel
theorem dL_law_592 : decode (mc mL_law) 592 = .ok (.ldc 78, 2) := by decide +kernel
theorem dL_law_594 : decode (mc mL_law) 594 = .ok (.if_icmp .ne 131, 3) := by decide +kernel
theorem dL_law_597 : decode (mc mL_law) 597 = .ok (.iload 10, 2) := by decide +kernel
theorem dL_law_599 : decode (mc mL_law) 599 = .ok (.ldc 78, 2) := by decide +kernel
theorem dL_law_601 : decode (mc mL_law) 601 = .ok (.if_icmp .ne 124, 3) := by decide +kernel
theorem dL_law_604 : decode (mc mL_law) 604 = .ok (.iload 14, 2) := by decide +kernel
theorem dL_law_606 : decode (mc mL_law) 606 = .ok (.ldc 78, 2) := by decide +kernel
theorem dL_law_608 : decode (mc mL_law) 608 = .ok (.if_icmp .ne 117, 3) := by decide +kernel
theorem dL_law_611 : decode (mc mL_law) 611 = .ok (.aload_n 1, 1) := by decide +kernel
theorem dL_law_612 : decode (mc mL_law) 612 = .ok (.invokevirtual 86, 3) := by decide +kernel
theorem dL_law_615 : decode (mc mL_law) 615 = .ok (.lload 12, 2) := by decide +kernel
theorem dL_law_617 : decode (mc mL_law) 617 = .ok (.lcmp, 1) := by decide +kernel
theorem dL_law_618 : decode (mc mL_law) 618 = .ok (.ifCond .eq 109, 3) := by decide +kernel
theorem dL_law_621 : decode (mc mL_law) 621 = .ok (.goto 104, 3) := by decide +kernel
theorem dL_law_624 : decode (mc mL_law) 624 = .ok (.iload 14, 2) := by decide +kernel
theorem dL_law_626 : decode (mc mL_law) 626 = .ok (.aload_n 1, 1) := by decide +kernel
theorem dL_law_627 : decode (mc mL_law) 627 = .ok (.iconst 3, 1) := by decide +kernel
theorem dL_law_628 : decode (mc mL_law) 628 = .ok (.invokevirtual 24, 3) := by decide +kernel
theorem dL_law_631 : decode (mc mL_law) 631 = .ok (.iconst 1, 1) := by decide +kernel
theorem dL_law_632 : decode (mc mL_law) 632 = .ok (.isub, 1) := by decide +kernel
theorem dL_law_633 : decode (mc mL_law) 633 = .ok (.if_icmp .ne 92, 3) := by decide +kernel
theorem dL_law_636 : decode (mc mL_law) 636 = .ok (.aload_n 1, 1) := by decide +kernel
theorem dL_law_637 : decode (mc mL_law) 637 = .ok (.iload 14, 2) := by decide +kernel
theorem dL_law_639 : decode (mc mL_law) 639 = .ok (.iconst 0, 1) := by decide +kernel
theorem dL_law_640 : decode (mc mL_law) 640 = .ok (.invokevirtual 36, 3) := by decide +kernel
theorem dL_law_643 : decode (mc mL_law) 643 = .ok (.iload 7, 2) := by decide +kernel
theorem dL_law_645 : decode (mc mL_law) 645 = .ok (.if_icmp .ne 80, 3) := by decide +kernel
theorem dL_law_648 : decode (mc mL_law) 648 = .ok (.aload_n 1, 1) := by decide +kernel
theorem dL_law_649 : decode (mc mL_law) 649 = .ok (.iload 14, 2) := by decide +kernel
theorem dL_law_651 : decode (mc mL_law) 651 = .ok (.iconst 1, 1) := by decide +kernel
theorem dL_law_652 : decode (mc mL_law) 652 = .ok (.invokevirtual 36, 3) := by decide +kernel
theorem dL_law_655 : decode (mc mL_law) 655 = .ok (.iload 9, 2) := by decide +kernel
theorem dL_law_657 : decode (mc mL_law) 657 = .ok (.if_icmp .ne 68, 3) := by decide +kernel
theorem dL_law_660 : decode (mc mL_law) 660 = .ok (.aload_n 1, 1) := by decide +kernel
theorem dL_law_661 : decode (mc mL_law) 661 = .ok (.iload 14, 2) := by decide +kernel
theorem dL_law_663 : decode (mc mL_law) 663 = .ok (.iconst 2, 1) := by decide +kernel
theorem dL_law_664 : decode (mc mL_law) 664 = .ok (.invokevirtual 36, 3) := by decide +kernel
theorem dL_law_667 : decode (mc mL_law) 667 = .ok (.aload_n 1, 1) := by decide +kernel
theorem dL_law_668 : decode (mc mL_law) 668 = .ok (.iload 9, 2) := by decide +kernel
theorem dL_law_670 : decode (mc mL_law) 670 = .ok (.invokevirtual 83, 3) := by decide +kernel
theorem dL_law_673 : decode (mc mL_law) 673 = .ok (.if_icmp .ne 52, 3) := by decide +kernel
theorem dL_law_676 : decode (mc mL_law) 676 = .ok (.aload_n 1, 1) := by decide +kernel
theorem dL_law_677 : decode (mc mL_law) 677 = .ok (.iload 14, 2) := by decide +kernel
theorem dL_law_679 : decode (mc mL_law) 679 = .ok (.iconst 3, 1) := by decide +kernel
theorem dL_law_680 : decode (mc mL_law) 680 = .ok (.invokevirtual 36, 3) := by decide +kernel
theorem dL_law_683 : decode (mc mL_law) 683 = .ok (.iload 10, 2) := by decide +kernel
theorem dL_law_685 : decode (mc mL_law) 685 = .ok (.if_icmp .ne 40, 3) := by decide +kernel
theorem dL_law_688 : decode (mc mL_law) 688 = .ok (.aload_n 1, 1) := by decide +kernel
theorem dL_law_689 : decode (mc mL_law) 689 = .ok (.iload 14, 2) := by decide +kernel
theorem dL_law_691 : decode (mc mL_law) 691 = .ok (.iconst 5, 1) := by decide +kernel
theorem dL_law_692 : decode (mc mL_law) 692 = .ok (.invokevirtual 36, 3) := by decide +kernel
theorem dL_law_695 : decode (mc mL_law) 695 = .ok (.ifCond .ne 30, 3) := by decide +kernel
theorem dL_law_698 : decode (mc mL_law) 698 = .ok (.aload_n 1, 1) := by decide +kernel
theorem dL_law_699 : decode (mc mL_law) 699 = .ok (.iload 7, 2) := by decide +kernel
theorem dL_law_701 : decode (mc mL_law) 701 = .ok (.iconst 1, 1) := by decide +kernel
theorem dL_law_702 : decode (mc mL_law) 702 = .ok (.invokevirtual 27, 3) := by decide +kernel
theorem dL_law_705 : decode (mc mL_law) 705 = .ok (.iload 11, 2) := by decide +kernel
theorem dL_law_707 : decode (mc mL_law) 707 = .ok (.iload 10, 2) := by decide +kernel
theorem dL_law_709 : decode (mc mL_law) 709 = .ok (.isub, 1) := by decide +kernel
theorem dL_law_710 : decode (mc mL_law) 710 = .ok (.aload_n 1, 1) := by decide +kernel
theorem dL_law_711 : decode (mc mL_law) 711 = .ok (.iload 14, 2) := by decide +kernel
theorem dL_law_713 : decode (mc mL_law) 713 = .ok (.bipush 7, 2) := by decide +kernel
theorem dL_law_715 : decode (mc mL_law) 715 = .ok (.iload 7, 2) := by decide +kernel
theorem dL_law_717 : decode (mc mL_law) 717 = .ok (.iadd, 1) := by decide +kernel
theorem dL_law_718 : decode (mc mL_law) 718 = .ok (.invokevirtual 36, 3) := by decide +kernel
theorem dL_law_721 : decode (mc mL_law) 721 = .ok (.iadd, 1) := by decide +kernel
theorem dL_law_722 : decode (mc mL_law) 722 = .ok (.if_icmp .eq 5, 3) := by decide +kernel
theorem dL_law_725 : decode (mc mL_law) 725 = .ok (.iconst 0, 1) := by decide +kernel
theorem dL_law_726 : decode (mc mL_law) 726 = .ok (.ireturn, 1) := by decide +kernel
theorem dL_law_727 : decode (mc mL_law) 727 = .ok (.aload_n 1, 1) := by decide +kernel
theorem dL_law_728 : decode (mc mL_law) 728 = .ok (.invokestatic 40, 3) := by decide +kernel
theorem dL_law_731 : decode (mc mL_law) 731 = .ok (.ifCond .eq 31, 3) := by decide +kernel
theorem dL_law_734 : decode (mc mL_law) 734 = .ok (.iload 6, 2) := by decide +kernel
theorem dL_law_736 : decode (mc mL_law) 736 = .ok (.bipush 20, 2) := by decide +kernel
theorem dL_law_738 : decode (mc mL_law) 738 = .ok (.ishr, 1) := by decide +kernel
theorem dL_law_739 : decode (mc mL_law) 739 = .ok (.bipush 7, 2) := by decide +kernel
theorem dL_law_741 : decode (mc mL_law) 741 = .ok (.iand, 1) := by decide +kernel
theorem dL_law_742 : decode (mc mL_law) 742 = .ok (.ifCond .ne 22, 3) := by decide +kernel
theorem dL_law_745 : decode (mc mL_law) 745 = .ok (.aload_n 1, 1) := by decide +kernel
theorem dL_law_746 : decode (mc mL_law) 746 = .ok (.invokevirtual 58, 3) := by decide +kernel
theorem dL_law_749 : decode (mc mL_law) 749 = .ok (.ifCond .lt 13, 3) := by decide +kernel
theorem dL_law_752 : decode (mc mL_law) 752 = .ok (.aload_n 1, 1) := by decide +kernel
theorem dL_law_753 : decode (mc mL_law) 753 = .ok (.invokevirtual 86, 3) := by decide +kernel
theorem dL_law_756 : decode (mc mL_law) 756 = .ok (.lload 12, 2) := by decide +kernel
theorem dL_law_758 : decode (mc mL_law) 758 = .ok (.lcmp, 1) := by decide +kernel
theorem dL_law_759 : decode (mc mL_law) 759 = .ok (.ifCond .eq 5, 3) := by decide +kernel
theorem dL_law_762 : decode (mc mL_law) 762 = .ok (.iconst 0, 1) := by decide +kernel
theorem dL_law_763 : decode (mc mL_law) 763 = .ok (.ireturn, 1) := by decide +kernel
theorem dL_law_764 : decode (mc mL_law) 764 = .ok (.iload 6, 2) := by decide +kernel
theorem dL_law_766 : decode (mc mL_law) 766 = .ok (.bipush 23, 2) := by decide +kernel
theorem dL_law_768 : decode (mc mL_law) 768 = .ok (.ishr, 1) := by decide +kernel
theorem dL_law_769 : decode (mc mL_law) 769 = .ok (.iconst 3, 1) := by decide +kernel
theorem dL_law_770 : decode (mc mL_law) 770 = .ok (.iand, 1) := by decide +kernel
theorem dL_law_771 : decode (mc mL_law) 771 = .ok (.ifCond .ne 20, 3) := by decide +kernel
theorem dL_law_774 : decode (mc mL_law) 774 = .ok (.aload_n 1, 1) := by decide +kernel
theorem dL_law_775 : decode (mc mL_law) 775 = .ok (.iconst 1, 1) := by decide +kernel
theorem dL_law_776 : decode (mc mL_law) 776 = .ok (.iload 6, 2) := by decide +kernel
theorem dL_law_778 : decode (mc mL_law) 778 = .ok (.bipush 25, 2) := by decide +kernel
theorem dL_law_780 : decode (mc mL_law) 780 = .ok (.ishr, 1) := by decide +kernel
theorem dL_law_781 : decode (mc mL_law) 781 = .ok (.bipush 9, 2) := by decide +kernel
theorem dL_law_783 : decode (mc mL_law) 783 = .ok (.invokestatic 14, 3) := by decide +kernel
theorem dL_law_786 : decode (mc mL_law) 786 = .ok (.iadd, 1) := by decide +kernel
theorem dL_law_787 : decode (mc mL_law) 787 = .ok (.invokevirtual 90, 3) := by decide +kernel
theorem dL_law_790 : decode (mc mL_law) 790 = .ok (.pop, 1) := by decide +kernel
theorem dL_law_791 : decode (mc mL_law) 791 = .ok (.aload_n 1, 1) := by decide +kernel
theorem dL_law_792 : decode (mc mL_law) 792 = .ok (.iload 7, 2) := by decide +kernel
theorem dL_law_794 : decode (mc mL_law) 794 = .ok (.invokevirtual 93, 3) := by decide +kernel
theorem dL_law_797 : decode (mc mL_law) 797 = .ok (.istore 15, 2) := by decide +kernel
theorem dL_law_799 : decode (mc mL_law) 799 = .ok (.iconst 0, 1) := by decide +kernel
theorem dL_law_800 : decode (mc mL_law) 800 = .ok (.istore 16, 2) := by decide +kernel
theorem dL_law_802 : decode (mc mL_law) 802 = .ok (.iconst 0, 1) := by decide +kernel
theorem dL_law_803 : decode (mc mL_law) 803 = .ok (.istore 17, 2) := by decide +kernel
theorem dL_law_805 : decode (mc mL_law) 805 = .ok (.iconst 0, 1) := by decide +kernel
theorem dL_law_806 : decode (mc mL_law) 806 = .ok (.istore 18, 2) := by decide +kernel
theorem dL_law_808 : decode (mc mL_law) 808 = .ok (.aload_n 1, 1) := by decide +kernel
theorem dL_law_809 : decode (mc mL_law) 809 = .ok (.iload 7, 2) := by decide +kernel
theorem dL_law_811 : decode (mc mL_law) 811 = .ok (.iconst 0, 1) := by decide +kernel
theorem dL_law_812 : decode (mc mL_law) 812 = .ok (.invokevirtual 96, 3) := by decide +kernel
theorem dL_law_815 : decode (mc mL_law) 815 = .ok (.istore 19, 2) := by decide +kernel
theorem dL_law_817 : decode (mc mL_law) 817 = .ok (.iload 19, 2) := by decide +kernel
theorem dL_law_819 : decode (mc mL_law) 819 = .ok (.ifCond .lt 64, 3) := by decide +kernel
theorem dL_law_822 : decode (mc mL_law) 822 = .ok (.iload 16, 2) := by decide +kernel
theorem dL_law_824 : decode (mc mL_law) 824 = .ok (.aload_n 1, 1) := by decide +kernel
theorem dL_law_825 : decode (mc mL_law) 825 = .ok (.iload 19, 2) := by decide +kernel
theorem dL_law_827 : decode (mc mL_law) 827 = .ok (.iconst 1, 1) := by decide +kernel
theorem dL_law_828 : decode (mc mL_law) 828 = .ok (.invokevirtual 30, 3) := by decide +kernel
theorem dL_law_831 : decode (mc mL_law) 831 = .ok (.iadd, 1) := by decide +kernel
theorem dL_law_832 : decode (mc mL_law) 832 = .ok (.istore 16, 2) := by decide +kernel
theorem dL_law_834 : decode (mc mL_law) 834 = .ok (.iload 17, 2) := by decide +kernel
theorem dL_law_836 : decode (mc mL_law) 836 = .ok (.aload_n 1, 1) := by decide +kernel
theorem dL_law_837 : decode (mc mL_law) 837 = .ok (.iload 19, 2) := by decide +kernel
theorem dL_law_839 : decode (mc mL_law) 839 = .ok (.iconst 0, 1) := by decide +kernel
theorem dL_law_840 : decode (mc mL_law) 840 = .ok (.invokevirtual 30, 3) := by decide +kernel
theorem dL_law_843 : decode (mc mL_law) 843 = .ok (.iload 7, 2) := by decide +kernel
theorem dL_law_845 : decode (mc mL_law) 845 = .ok (.if_icmp .ne 7, 3) := by decide +kernel
theorem dL_law_848 : decode (mc mL_law) 848 = .ok (.iconst 0, 1) := by decide +kernel
theorem dL_law_849 : decode (mc mL_law) 849 = .ok (.goto 15, 3) := by decide +kernel
theorem dL_law_852 : decode (mc mL_law) 852 = .ok (.aload_n 1, 1) := by decide +kernel
theorem dL_law_853 : decode (mc mL_law) 853 = .ok (.aload_n 1, 1) := by decide +kernel
theorem dL_law_854 : decode (mc mL_law) 854 = .ok (.iload 19, 2) := by decide +kernel
theorem dL_law_856 : decode (mc mL_law) 856 = .ok (.iconst 0, 1) := by decide +kernel
theorem dL_law_857 : decode (mc mL_law) 857 = .ok (.invokevirtual 30, 3) := by decide +kernel
theorem dL_law_860 : decode (mc mL_law) 860 = .ok (.iconst 0, 1) := by decide +kernel
theorem dL_law_861 : decode (mc mL_law) 861 = .ok (.invokevirtual 27, 3) := by decide +kernel
theorem dL_law_864 : decode (mc mL_law) 864 = .ok (.iadd, 1) := by decide +kernel
theorem dL_law_865 : decode (mc mL_law) 865 = .ok (.istore 17, 2) := by decide +kernel
theorem dL_law_867 : decode (mc mL_law) 867 = .ok (.iinc 18 1, 3) := by decide +kernel
theorem dL_law_870 : decode (mc mL_law) 870 = .ok (.aload_n 1, 1) := by decide +kernel
theorem dL_law_871 : decode (mc mL_law) 871 = .ok (.iload 7, 2) := by decide +kernel
theorem dL_law_873 : decode (mc mL_law) 873 = .ok (.iload 18, 2) := by decide +kernel
theorem dL_law_875 : decode (mc mL_law) 875 = .ok (.invokevirtual 96, 3) := by decide +kernel
theorem dL_law_878 : decode (mc mL_law) 878 = .ok (.istore 19, 2) := by decide +kernel
theorem dL_law_880 : decode (mc mL_law) 880 = .ok (.goto (-63), 3) := by decide +kernel
theorem dL_law_883 : decode (mc mL_law) 883 = .ok (.iload 15, 2) := by decide +kernel
theorem dL_law_885 : decode (mc mL_law) 885 = .ok (.ifCond .ge 18, 3) := by decide +kernel
theorem dL_law_888 : decode (mc mL_law) 888 = .ok (.iload 15, 2) := by decide +kernel
theorem dL_law_890 : decode (mc mL_law) 890 = .ok (.ldc 78, 2) := by decide +kernel
theorem dL_law_892 : decode (mc mL_law) 892 = .ok (.if_icmp .ne 25, 3) := by decide +kernel
theorem dL_law_895 : decode (mc mL_law) 895 = .ok (.iload 18, 2) := by decide +kernel
theorem dL_law_897 : decode (mc mL_law) 897 = .ok (.ifCond .eq 22, 3) := by decide +kernel
theorem dL_law_900 : decode (mc mL_law) 900 = .ok (.goto 17, 3) := by decide +kernel
theorem dL_law_903 : decode (mc mL_law) 903 = .ok (.iload 16, 2) := by decide +kernel
theorem dL_law_905 : decode (mc mL_law) 905 = .ok (.iload 8, 2) := by decide +kernel
theorem dL_law_907 : decode (mc mL_law) 907 = .ok (.if_icmp .ne 10, 3) := by decide +kernel
theorem dL_law_910 : decode (mc mL_law) 910 = .ok (.iload 17, 2) := by decide +kernel
theorem dL_law_912 : decode (mc mL_law) 912 = .ok (.iload 15, 2) := by decide +kernel
theorem dL_law_914 : decode (mc mL_law) 914 = .ok (.if_icmp .eq 5, 3) := by decide +kernel
theorem dL_law_917 : decode (mc mL_law) 917 = .ok (.iconst 0, 1) := by decide +kernel
theorem dL_law_918 : decode (mc mL_law) 918 = .ok (.ireturn, 1) := by decide +kernel
theorem dL_law_919 : decode (mc mL_law) 919 = .ok (.iinc 5 1, 3) := by decide +kernel
theorem dL_law_922 : decode (mc mL_law) 922 = .ok (.goto (-554), 3) := by decide +kernel
theorem dL_law_925 : decode (mc mL_law) 925 = .ok (.aload_n 0, 1) := by decide +kernel
theorem dL_law_926 : decode (mc mL_law) 926 = .ok (.bipush 37, 2) := by decide +kernel
theorem dL_law_928 : decode (mc mL_law) 928 = .ok (.invokestatic 61, 3) := by decide +kernel
theorem dL_law_931 : decode (mc mL_law) 931 = .ok (.iload 4, 2) := by decide +kernel
theorem dL_law_933 : decode (mc mL_law) 933 = .ok (.invokestatic 14, 3) := by decide +kernel
theorem dL_law_936 : decode (mc mL_law) 936 = .ok (.istore 5, 2) := by decide +kernel
theorem dL_law_938 : decode (mc mL_law) 938 = .ok (.aload_n 1, 1) := by decide +kernel
theorem dL_law_939 : decode (mc mL_law) 939 = .ok (.invokevirtual 86, 3) := by decide +kernel
theorem dL_law_942 : decode (mc mL_law) 942 = .ok (.lstore 6, 2) := by decide +kernel
theorem dL_law_944 : decode (mc mL_law) 944 = .ok (.aload_n 1, 1) := by decide +kernel
theorem dL_law_945 : decode (mc mL_law) 945 = .ok (.iload 5, 2) := by decide +kernel
theorem dL_law_947 : decode (mc mL_law) 947 = .ok (.invokevirtual 99, 3) := by decide +kernel
theorem dL_law_950 : decode (mc mL_law) 950 = .ok (.istore 8, 2) := by decide +kernel
theorem dL_law_952 : decode (mc mL_law) 952 = .ok (.aload_n 1, 1) := by decide +kernel
theorem dL_law_953 : decode (mc mL_law) 953 = .ok (.iconst 2, 1) := by decide +kernel
theorem dL_law_954 : decode (mc mL_law) 954 = .ok (.invokevirtual 24, 3) := by decide +kernel
theorem dL_law_957 : decode (mc mL_law) 957 = .ok (.istore 9, 2) := by decide +kernel
theorem dL_law_959 : decode (mc mL_law) 959 = .ok (.iconst 0, 1) := by decide +kernel
theorem dL_law_960 : decode (mc mL_law) 960 = .ok (.istore 10, 2) := by decide +kernel
theorem dL_law_962 : decode (mc mL_law) 962 = .ok (.iconst 0, 1) := by decide +kernel
theorem dL_law_963 : decode (mc mL_law) 963 = .ok (.istore 11, 2) := by decide +kernel
theorem dL_law_965 : decode (mc mL_law) 965 = .ok (.iload 11, 2) := by decide +kernel
theorem dL_law_967 : decode (mc mL_law) 967 = .ok (.aload_n 1, 1) := by decide +kernel
theorem dL_law_968 : decode (mc mL_law) 968 = .ok (.iconst 3, 1) := by decide +kernel
theorem dL_law_969 : decode (mc mL_law) 969 = .ok (.invokevirtual 24, 3) := by decide +kernel
theorem dL_law_972 : decode (mc mL_law) 972 = .ok (.if_icmp .ge 36, 3) := by decide +kernel
theorem dL_law_975 : decode (mc mL_law) 975 = .ok (.iload 10, 2) := by decide +kernel
theorem dL_law_977 : decode (mc mL_law) 977 = .ok (.aload_n 1, 1) := by decide +kernel
theorem dL_law_978 : decode (mc mL_law) 978 = .ok (.iload 11, 2) := by decide +kernel
theorem dL_law_980 : decode (mc mL_law) 980 = .ok (.iconst 5, 1) := by decide +kernel
theorem dL_law_981 : decode (mc mL_law) 981 = .ok (.invokevirtual 36, 3) := by decide +kernel
theorem dL_law_984 : decode (mc mL_law) 984 = .ok (.iconst 1, 1) := by decide +kernel
theorem dL_law_985 : decode (mc mL_law) 985 = .ok (.if_icmp .ne 13, 3) := by decide +kernel
theorem dL_law_988 : decode (mc mL_law) 988 = .ok (.aload_n 1, 1) := by decide +kernel
theorem dL_law_989 : decode (mc mL_law) 989 = .ok (.iload 11, 2) := by decide +kernel
theorem dL_law_991 : decode (mc mL_law) 991 = .ok (.iconst 3, 1) := by decide +kernel
theorem dL_law_992 : decode (mc mL_law) 992 = .ok (.invokevirtual 36, 3) := by decide +kernel
theorem dL_law_995 : decode (mc mL_law) 995 = .ok (.goto 4, 3) := by decide +kernel
theorem dL_law_998 : decode (mc mL_law) 998 = .ok (.iconst 0, 1) := by decide +kernel
theorem dL_law_999 : decode (mc mL_law) 999 = .ok (.iadd, 1) := by decide +kernel
theorem dL_law_1000 : decode (mc mL_law) 1000 = .ok (.istore 10, 2) := by decide +kernel
theorem dL_law_1002 : decode (mc mL_law) 1002 = .ok (.iinc 11 1, 3) := by decide +kernel
theorem dL_law_1005 : decode (mc mL_law) 1005 = .ok (.goto (-40), 3) := by decide +kernel
theorem dL_law_1008 : decode (mc mL_law) 1008 = .ok (.aload_n 1, 1) := by decide +kernel
theorem dL_law_1009 : decode (mc mL_law) 1009 = .ok (.iload 5, 2) := by decide +kernel
theorem dL_law_1011 : decode (mc mL_law) 1011 = .ok (.invokevirtual 102, 3) := by decide +kernel
theorem dL_law_1014 : decode (mc mL_law) 1014 = .ok (.istore 11, 2) := by decide +kernel
theorem dL_law_1016 : decode (mc mL_law) 1016 = .ok (.iload 11, 2) := by decide +kernel
theorem dL_law_1018 : decode (mc mL_law) 1018 = .ok (.iconst 1, 1) := by decide +kernel
theorem dL_law_1019 : decode (mc mL_law) 1019 = .ok (.if_icmp .lt 55, 3) := by decide +kernel
theorem dL_law_1022 : decode (mc mL_law) 1022 = .ok (.aload_n 1, 1) := by decide +kernel
theorem dL_law_1023 : decode (mc mL_law) 1023 = .ok (.iconst 2, 1) := by decide +kernel
theorem dL_law_1024 : decode (mc mL_law) 1024 = .ok (.invokevirtual 24, 3) := by decide +kernel
theorem dL_law_1027 : decode (mc mL_law) 1027 = .ok (.iload 9, 2) := by decide +kernel
theorem dL_law_1029 : decode (mc mL_law) 1029 = .ok (.iload 11, 2) := by decide +kernel
theorem dL_law_1031 : decode (mc mL_law) 1031 = .ok (.isub, 1) := by decide +kernel
theorem dL_law_1032 : decode (mc mL_law) 1032 = .ok (.if_icmp .ne 42, 3) := by decide +kernel
theorem dL_law_1035 : decode (mc mL_law) 1035 = .ok (.aload_n 1, 1) := by decide +kernel
theorem dL_law_1036 : decode (mc mL_law) 1036 = .ok (.iload 5, 2) := by decide +kernel
theorem dL_law_1038 : decode (mc mL_law) 1038 = .ok (.iconst 4, 1) := by decide +kernel
theorem dL_law_1039 : decode (mc mL_law) 1039 = .ok (.invokevirtual 30, 3) := by decide +kernel
theorem dL_law_1042 : decode (mc mL_law) 1042 = .ok (.ifCond .ne 32, 3) := by decide +kernel
theorem dL_law_1045 : decode (mc mL_law) 1045 = .ok (.aload_n 1, 1) := by decide +kernel
theorem dL_law_1046 : decode (mc mL_law) 1046 = .ok (.invokestatic 40, 3) := by decide +kernel
theorem dL_law_1049 : decode (mc mL_law) 1049 = .ok (.ifCond .eq 25, 3) := by decide +kernel
theorem dL_law_1052 : decode (mc mL_law) 1052 = .ok (.aload_n 1, 1) := by decide +kernel
theorem dL_law_1053 : decode (mc mL_law) 1053 = .ok (.iload 5, 2) := by decide +kernel
theorem dL_law_1055 : decode (mc mL_law) 1055 = .ok (.invokevirtual 102, 3) := by decide +kernel
theorem dL_law_1058 : decode (mc mL_law) 1058 = .ok (.ldc 47, 2) := by decide +kernel
theorem dL_law_1060 : decode (mc mL_law) 1060 = .ok (.if_icmp .ne 14, 3) := by decide +kernel
theorem dL_law_1063 : decode (mc mL_law) 1063 = .ok (.aload_n 1, 1) := by decide +kernel
theorem dL_law_1064 : decode (mc mL_law) 1064 = .ok (.iload 5, 2) := by decide +kernel
theorem dL_law_1066 : decode (mc mL_law) 1066 = .ok (.invokevirtual 99, 3) := by decide +kernel
theorem dL_law_1069 : decode (mc mL_law) 1069 = .ok (.ldc 47, 2) := by decide +kernel
theorem dL_law_1071 : decode (mc mL_law) 1071 = .ok (.if_icmp .eq 5, 3) := by decide +kernel
theorem dL_law_1074 : decode (mc mL_law) 1074 = .ok (.iconst 0, 1) := by decide +kernel
theorem dL_law_1075 : decode (mc mL_law) 1075 = .ok (.ireturn, 1) := by decide +kernel
theorem dL_law_1076 : decode (mc mL_law) 1076 = .ok (.iconst 0, 1) := by decide +kernel
theorem dL_law_1077 : decode (mc mL_law) 1077 = .ok (.istore 12, 2) := by decide +kernel
theorem dL_law_1079 : decode (mc mL_law) 1079 = .ok (.iload 12, 2) := by decide +kernel
theorem dL_law_1081 : decode (mc mL_law) 1081 = .ok (.aload_n 1, 1) := by decide +kernel
theorem dL_law_1082 : decode (mc mL_law) 1082 = .ok (.iconst 3, 1) := by decide +kernel
theorem dL_law_1083 : decode (mc mL_law) 1083 = .ok (.invokevirtual 24, 3) := by decide +kernel
theorem dL_law_1086 : decode (mc mL_law) 1086 = .ok (.if_icmp .ge 65, 3) := by decide +kernel
theorem dL_law_1089 : decode (mc mL_law) 1089 = .ok (.iload 10, 2) := by decide +kernel
theorem dL_law_1091 : decode (mc mL_law) 1091 = .ok (.aload_n 1, 1) := by decide +kernel
theorem dL_law_1092 : decode (mc mL_law) 1092 = .ok (.iload 12, 2) := by decide +kernel
theorem dL_law_1094 : decode (mc mL_law) 1094 = .ok (.iconst 5, 1) := by decide +kernel
theorem dL_law_1095 : decode (mc mL_law) 1095 = .ok (.invokevirtual 36, 3) := by decide +kernel
theorem dL_law_1098 : decode (mc mL_law) 1098 = .ok (.iconst 1, 1) := by decide +kernel
theorem dL_law_1099 : decode (mc mL_law) 1099 = .ok (.if_icmp .ne 13, 3) := by decide +kernel
theorem dL_law_1102 : decode (mc mL_law) 1102 = .ok (.aload_n 1, 1) := by decide +kernel
theorem dL_law_1103 : decode (mc mL_law) 1103 = .ok (.iload 12, 2) := by decide +kernel
theorem dL_law_1105 : decode (mc mL_law) 1105 = .ok (.iconst 3, 1) := by decide +kernel
theorem dL_law_1106 : decode (mc mL_law) 1106 = .ok (.invokevirtual 36, 3) := by decide +kernel
theorem dL_law_1109 : decode (mc mL_law) 1109 = .ok (.goto 4, 3) := by decide +kernel
theorem dL_law_1112 : decode (mc mL_law) 1112 = .ok (.iconst 0, 1) := by decide +kernel
theorem dL_law_1113 : decode (mc mL_law) 1113 = .ok (.isub, 1) := by decide +kernel
theorem dL_law_1114 : decode (mc mL_law) 1114 = .ok (.istore 10, 2) := by decide +kernel
theorem dL_law_1116 : decode (mc mL_law) 1116 = .ok (.aload_n 1, 1) := by decide +kernel
theorem dL_law_1117 : decode (mc mL_law) 1117 = .ok (.iload 12, 2) := by decide +kernel
theorem dL_law_1119 : decode (mc mL_law) 1119 = .ok (.iconst 5, 1) := by decide +kernel
theorem dL_law_1120 : decode (mc mL_law) 1120 = .ok (.invokevirtual 36, 3) := by decide +kernel
theorem dL_law_1123 : decode (mc mL_law) 1123 = .ok (.iconst 1, 1) := by decide +kernel
theorem dL_law_1124 : decode (mc mL_law) 1124 = .ok (.if_icmp .ne 21, 3) := by decide +kernel
theorem dL_law_1127 : decode (mc mL_law) 1127 = .ok (.aload_n 1, 1) := by decide +kernel
theorem dL_law_1128 : decode (mc mL_law) 1128 = .ok (.aload_n 1, 1) := by decide +kernel
theorem dL_law_1129 : decode (mc mL_law) 1129 = .ok (.iload 12, 2) := by decide +kernel
theorem dL_law_1131 : decode (mc mL_law) 1131 = .ok (.iconst 1, 1) := by decide +kernel
theorem dL_law_1132 : decode (mc mL_law) 1132 = .ok (.invokevirtual 36, 3) := by decide +kernel
theorem dL_law_1135 : decode (mc mL_law) 1135 = .ok (.iconst 4, 1) := by decide +kernel
theorem dL_law_1136 : decode (mc mL_law) 1136 = .ok (.invokevirtual 30, 3) := by decide +kernel
theorem dL_law_1139 : decode (mc mL_law) 1139 = .ok (.iconst 1, 1) := by decide +kernel
theorem dL_law_1140 : decode (mc mL_law) 1140 = .ok (.if_icmp .ne 5, 3) := by decide +kernel
theorem dL_law_1143 : decode (mc mL_law) 1143 = .ok (.iconst 0, 1) := by decide +kernel
theorem dL_law_1144 : decode (mc mL_law) 1144 = .ok (.ireturn, 1) := by decide +kernel
theorem dL_law_1145 : decode (mc mL_law) 1145 = .ok (.iinc 12 1, 3) := by decide +kernel
theorem dL_law_1148 : decode (mc mL_law) 1148 = .ok (.goto (-69), 3) := by decide +kernel
theorem dL_law_1151 : decode (mc mL_law) 1151 = .ok (.iload 10, 2) := by decide +kernel
theorem dL_law_1153 : decode (mc mL_law) 1153 = .ok (.iload 8, 2) := by decide +kernel
theorem dL_law_1155 : decode (mc mL_law) 1155 = .ok (.ineg, 1) := by decide +kernel
theorem dL_law_1156 : decode (mc mL_law) 1156 = .ok (.if_icmp .ne 20, 3) := by decide +kernel
theorem dL_law_1159 : decode (mc mL_law) 1159 = .ok (.aload_n 1, 1) := by decide +kernel
theorem dL_law_1160 : decode (mc mL_law) 1160 = .ok (.invokevirtual 58, 3) := by decide +kernel
theorem dL_law_1163 : decode (mc mL_law) 1163 = .ok (.ifCond .lt 13, 3) := by decide +kernel
theorem dL_law_1166 : decode (mc mL_law) 1166 = .ok (.aload_n 1, 1) := by decide +kernel
theorem dL_law_1167 : decode (mc mL_law) 1167 = .ok (.invokevirtual 86, 3) := by decide +kernel
theorem dL_law_1170 : decode (mc mL_law) 1170 = .ok (.lload 6, 2) := by decide +kernel
theorem dL_law_1172 : decode (mc mL_law) 1172 = .ok (.lcmp, 1) := by decide +kernel
theorem dL_law_1173 : decode (mc mL_law) 1173 = .ok (.ifCond .eq 5, 3) := by decide +kernel
theorem dL_law_1176 : decode (mc mL_law) 1176 = .ok (.iconst 0, 1) := by decide +kernel
theorem dL_law_1177 : decode (mc mL_law) 1177 = .ok (.ireturn, 1) := by decide +kernel
theorem dL_law_1178 : decode (mc mL_law) 1178 = .ok (.aload_n 1, 1) := by decide +kernel
theorem dL_law_1179 : decode (mc mL_law) 1179 = .ok (.iload_n 3, 1) := by decide +kernel
theorem dL_law_1180 : decode (mc mL_law) 1180 = .ok (.iconst 1, 1) := by decide +kernel
theorem dL_law_1181 : decode (mc mL_law) 1181 = .ok (.invokevirtual 68, 3) := by decide +kernel
theorem dL_law_1184 : decode (mc mL_law) 1184 = .ok (.ldc 51, 2) := by decide +kernel
theorem dL_law_1186 : decode (mc mL_law) 1186 = .ok (.if_icmp .ne 113, 3) := by decide +kernel
theorem dL_law_1189 : decode (mc mL_law) 1189 = .ok (.aload_n 1, 1) := by decide +kernel
theorem dL_law_1190 : decode (mc mL_law) 1190 = .ok (.iconst 0, 1) := by decide +kernel
theorem dL_law_1191 : decode (mc mL_law) 1191 = .ok (.sipush 201, 3) := by decide +kernel
theorem dL_law_1194 : decode (mc mL_law) 1194 = .ok (.invokevirtual 68, 3) := by decide +kernel
theorem dL_law_1197 : decode (mc mL_law) 1197 = .ok (.ldc 105, 2) := by decide +kernel
theorem dL_law_1199 : decode (mc mL_law) 1199 = .ok (.if_icmp .ne 100, 3) := by decide +kernel
theorem dL_law_1202 : decode (mc mL_law) 1202 = .ok (.aload_n 1, 1) := by decide +kernel
theorem dL_law_1203 : decode (mc mL_law) 1203 = .ok (.iconst 0, 1) := by decide +kernel
theorem dL_law_1204 : decode (mc mL_law) 1204 = .ok (.iconst 0, 1) := by decide +kernel
theorem dL_law_1205 : decode (mc mL_law) 1205 = .ok (.invokevirtual 71, 3) := by decide +kernel
theorem dL_law_1208 : decode (mc mL_law) 1208 = .ok (.ldc 105, 2) := by decide +kernel
theorem dL_law_1210 : decode (mc mL_law) 1210 = .ok (.if_icmp .ne 89, 3) := by decide +kernel
theorem dL_law_1213 : decode (mc mL_law) 1213 = .ok (.aload_n 1, 1) := by decide +kernel
theorem dL_law_1214 : decode (mc mL_law) 1214 = .ok (.iconst 5, 1) := by decide +kernel
theorem dL_law_1215 : decode (mc mL_law) 1215 = .ok (.iconst 0, 1) := by decide +kernel
theorem dL_law_1216 : decode (mc mL_law) 1216 = .ok (.invokevirtual 71, 3) := by decide +kernel
theorem dL_law_1219 : decode (mc mL_law) 1219 = .ok (.ldc 51, 2) := by decide +kernel
theorem dL_law_1221 : decode (mc mL_law) 1221 = .ok (.if_icmp .ne 78, 3) := by decide +kernel
theorem dL_law_1224 : decode (mc mL_law) 1224 = .ok (.aload_n 1, 1) := by decide +kernel
theorem dL_law_1225 : decode (mc mL_law) 1225 = .ok (.iconst 0, 1) := by decide +kernel
theorem dL_law_1226 : decode (mc mL_law) 1226 = .ok (.sipush 1000, 3) := by decide +kernel
theorem dL_law_1229 : decode (mc mL_law) 1229 = .ok (.ldc 78, 2) := by decide +kernel
theorem dL_law_1231 : decode (mc mL_law) 1231 = .ok (.invokevirtual 79, 3) := by decide +kernel
theorem dL_law_1234 : decode (mc mL_law) 1234 = .ok (.ldc 105, 2) := by decide +kernel
theorem dL_law_1236 : decode (mc mL_law) 1236 = .ok (.if_icmp .ne 63, 3) := by decide +kernel
theorem dL_law_1239 : decode (mc mL_law) 1239 = .ok (.aload_n 1, 1) := by decide +kernel
theorem dL_law_1240 : decode (mc mL_law) 1240 = .ok (.iconst 0, 1) := by decide +kernel
theorem dL_law_1241 : decode (mc mL_law) 1241 = .ok (.iconst 0, 1) := by decide +kernel
theorem dL_law_1242 : decode (mc mL_law) 1242 = .ok (.iload 4, 2) := by decide +kernel
theorem dL_law_1244 : decode (mc mL_law) 1244 = .ok (.invokevirtual 79, 3) := by decide +kernel
theorem dL_law_1247 : decode (mc mL_law) 1247 = .ok (.ldc 51, 2) := by decide +kernel
theorem dL_law_1249 : decode (mc mL_law) 1249 = .ok (.if_icmp .ne 50, 3) := by decide +kernel
theorem dL_law_1252 : decode (mc mL_law) 1252 = .ok (.aload_n 1, 1) := by decide +kernel
theorem dL_law_1253 : decode (mc mL_law) 1253 = .ok (.iconst 0, 1) := by decide +kernel
theorem dL_law_1254 : decode (mc mL_law) 1254 = .ok (.iconst (-1), 1) := by decide +kernel
theorem dL_law_1255 : decode (mc mL_law) 1255 = .ok (.invokevirtual 106, 3) := by decide +kernel
theorem dL_law_1258 : decode (mc mL_law) 1258 = .ok (.ldc 105, 2) := by decide +kernel
theorem dL_law_1260 : decode (mc mL_law) 1260 = .ok (.if_icmp .ne 39, 3) := by decide +kernel
theorem dL_law_1263 : decode (mc mL_law) 1263 = .ok (.aload_n 1, 1) := by decide +kernel
theorem dL_law_1264 : decode (mc mL_law) 1264 = .ok (.bipush 101, 2) := by decide +kernel
theorem dL_law_1266 : decode (mc mL_law) 1266 = .ok (.invokevirtual 90, 3) := by decide +kernel
theorem dL_law_1269 : decode (mc mL_law) 1269 = .ok (.ldc 105, 2) := by decide +kernel
theorem dL_law_1271 : decode (mc mL_law) 1271 = .ok (.if_icmp .ne 28, 3) := by decide +kernel
theorem dL_law_1274 : decode (mc mL_law) 1274 = .ok (.aload_n 1, 1) := by decide +kernel
theorem dL_law_1275 : decode (mc mL_law) 1275 = .ok (.bipush 14, 2) := by decide +kernel
theorem dL_law_1277 : decode (mc mL_law) 1277 = .ok (.invokevirtual 24, 3) := by decide +kernel
theorem dL_law_1280 : decode (mc mL_law) 1280 = .ok (.ldc 105, 2) := by decide +kernel
theorem dL_law_1282 : decode (mc mL_law) 1282 = .ok (.if_icmp .ne 17, 3) := by decide +kernel
theorem dL_law_1285 : decode (mc mL_law) 1285 = .ok (.aload_n 1, 1) := by decide +kernel
theorem dL_law_1286 : decode (mc mL_law) 1286 = .ok (.invokevirtual 86, 3) := by decide +kernel
theorem dL_law_1289 : decode (mc mL_law) 1289 = .ok (.lload 6, 2) := by decide +kernel
theorem dL_law_1291 : decode (mc mL_law) 1291 = .ok (.lcmp, 1) := by decide +kernel
theorem dL_law_1292 : decode (mc mL_law) 1292 = .ok (.ifCond .ne 7, 3) := by decide +kernel
theorem dL_law_1295 : decode (mc mL_law) 1295 = .ok (.iconst 1, 1) := by decide +kernel
theorem dL_law_1296 : decode (mc mL_law) 1296 = .ok (.goto 4, 3) := by decide +kernel
theorem dL_law_1299 : decode (mc mL_law) 1299 = .ok (.iconst 0, 1) := by decide +kernel
theorem dL_law_1300 : decode (mc mL_law) 1300 = .ok (.ireturn, 1) := by decide +kernel
