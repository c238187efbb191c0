theorem dX0_init_0 : decode (mc mX0_init) 0 = .ok (.aload_n 0, 1) := by decide +kernel
theorem dX0_init_1 : decode (mc mX0_init) 1 = .ok (.invokespecial 3, 3) := by decide +kernel
theorem dX0_init_4 : decode (mc mX0_init) 4 = .ok (.aload_n 0, 1) := by decide +kernel
theorem dX0_init_5 : decode (mc mX0_init) 5 = .ok (.iconst 4, 1) := by decide +kernel
theorem dX0_init_6 : decode (mc mX0_init) 6 = .ok (.sipush 654, 3) := by decide +kernel
theorem dX0_init_9 : decode (mc mX0_init) 9 = .ok (.multianewarray 11 2, 4) := by decide +kernel
theorem dX0_init_13 : decode (mc mX0_init) 13 = .ok (.putfield 13, 3) := by decide +kernel
theorem dX0_init_16 : decode (mc mX0_init) 16 = .ok (.return_, 1) := by decide +kernel
theorem dX0_keep_0 : decode (mc mX0_keep) 0 = .ok (.aload_n 1, 1) := by decide +kernel
theorem dX0_keep_1 : decode (mc mX0_keep) 1 = .ok (.aload_n 0, 1) := by decide +kernel
theorem dX0_keep_2 : decode (mc mX0_keep) 2 = .ok (.getfield 13, 3) := by decide +kernel
theorem dX0_keep_5 : decode (mc mX0_keep) 5 = .ok (.aload_n 0, 1) := by decide +kernel
theorem dX0_keep_6 : decode (mc mX0_keep) 6 = .ok (.getfield 18, 3) := by decide +kernel
theorem dX0_keep_9 : decode (mc mX0_keep) 9 = .ok (.aaload, 1) := by decide +kernel
theorem dX0_keep_10 : decode (mc mX0_keep) 10 = .ok (.invokevirtual 22, 3) := by decide +kernel
theorem dX0_keep_13 : decode (mc mX0_keep) 13 = .ok (.aload_n 0, 1) := by decide +kernel
theorem dX0_keep_14 : decode (mc mX0_keep) 14 = .ok (.aload_n 0, 1) := by decide +kernel
theorem dX0_keep_15 : decode (mc mX0_keep) 15 = .ok (.getfield 18, 3) := by decide +kernel
theorem dX0_keep_18 : decode (mc mX0_keep) 18 = .ok (.iconst 1, 1) := by decide +kernel
theorem dX0_keep_19 : decode (mc mX0_keep) 19 = .ok (.iadd, 1) := by decide +kernel
theorem dX0_keep_20 : decode (mc mX0_keep) 20 = .ok (.iconst 4, 1) := by decide +kernel
theorem dX0_keep_21 : decode (mc mX0_keep) 21 = .ok (.irem, 1) := by decide +kernel
theorem dX0_keep_22 : decode (mc mX0_keep) 22 = .ok (.putfield 18, 3) := by decide +kernel
theorem dX0_keep_25 : decode (mc mX0_keep) 25 = .ok (.aload_n 0, 1) := by decide +kernel
theorem dX0_keep_26 : decode (mc mX0_keep) 26 = .ok (.aload_n 0, 1) := by decide +kernel
theorem dX0_keep_27 : decode (mc mX0_keep) 27 = .ok (.getfield 26, 3) := by decide +kernel
theorem dX0_keep_30 : decode (mc mX0_keep) 30 = .ok (.iconst 1, 1) := by decide +kernel
theorem dX0_keep_31 : decode (mc mX0_keep) 31 = .ok (.iadd, 1) := by decide +kernel
theorem dX0_keep_32 : decode (mc mX0_keep) 32 = .ok (.iconst 4, 1) := by decide +kernel
theorem dX0_keep_33 : decode (mc mX0_keep) 33 = .ok (.invokestatic 29, 3) := by decide +kernel
theorem dX0_keep_36 : decode (mc mX0_keep) 36 = .ok (.putfield 26, 3) := by decide +kernel
theorem dX0_keep_39 : decode (mc mX0_keep) 39 = .ok (.return_, 1) := by decide +kernel
theorem dX0_restoreInto_0 : decode (mc mX0_restoreInto) 0 = .ok (.aload_n 0, 1) := by decide +kernel
theorem dX0_restoreInto_1 : decode (mc mX0_restoreInto) 1 = .ok (.getfield 26, 3) := by decide +kernel
theorem dX0_restoreInto_4 : decode (mc mX0_restoreInto) 4 = .ok (.ifCond .le 40, 3) := by decide +kernel
theorem dX0_restoreInto_7 : decode (mc mX0_restoreInto) 7 = .ok (.aload_n 0, 1) := by decide +kernel
theorem dX0_restoreInto_8 : decode (mc mX0_restoreInto) 8 = .ok (.aload_n 0, 1) := by decide +kernel
theorem dX0_restoreInto_9 : decode (mc mX0_restoreInto) 9 = .ok (.getfield 18, 3) := by decide +kernel
theorem dX0_restoreInto_12 : decode (mc mX0_restoreInto) 12 = .ok (.iconst 4, 1) := by decide +kernel
theorem dX0_restoreInto_13 : decode (mc mX0_restoreInto) 13 = .ok (.iadd, 1) := by decide +kernel
theorem dX0_restoreInto_14 : decode (mc mX0_restoreInto) 14 = .ok (.iconst 1, 1) := by decide +kernel
theorem dX0_restoreInto_15 : decode (mc mX0_restoreInto) 15 = .ok (.isub, 1) := by decide +kernel
theorem dX0_restoreInto_16 : decode (mc mX0_restoreInto) 16 = .ok (.iconst 4, 1) := by decide +kernel
theorem dX0_restoreInto_17 : decode (mc mX0_restoreInto) 17 = .ok (.irem, 1) := by decide +kernel
theorem dX0_restoreInto_18 : decode (mc mX0_restoreInto) 18 = .ok (.putfield 18, 3) := by decide +kernel
theorem dX0_restoreInto_21 : decode (mc mX0_restoreInto) 21 = .ok (.aload_n 0, 1) := by decide +kernel
theorem dX0_restoreInto_22 : decode (mc mX0_restoreInto) 22 = .ok (.dup, 1) := by decide +kernel
theorem dX0_restoreInto_23 : decode (mc mX0_restoreInto) 23 = .ok (.getfield 26, 3) := by decide +kernel
theorem dX0_restoreInto_26 : decode (mc mX0_restoreInto) 26 = .ok (.iconst 1, 1) := by decide +kernel
theorem dX0_restoreInto_27 : decode (mc mX0_restoreInto) 27 = .ok (.isub, 1) := by decide +kernel
theorem dX0_restoreInto_28 : decode (mc mX0_restoreInto) 28 = .ok (.putfield 26, 3) := by decide +kernel
theorem dX0_restoreInto_31 : decode (mc mX0_restoreInto) 31 = .ok (.aload_n 1, 1) := by decide +kernel
theorem dX0_restoreInto_32 : decode (mc mX0_restoreInto) 32 = .ok (.aload_n 0, 1) := by decide +kernel
theorem dX0_restoreInto_33 : decode (mc mX0_restoreInto) 33 = .ok (.getfield 13, 3) := by decide +kernel
theorem dX0_restoreInto_36 : decode (mc mX0_restoreInto) 36 = .ok (.aload_n 0, 1) := by decide +kernel
theorem dX0_restoreInto_37 : decode (mc mX0_restoreInto) 37 = .ok (.getfield 18, 3) := by decide +kernel
theorem dX0_restoreInto_40 : decode (mc mX0_restoreInto) 40 = .ok (.aaload, 1) := by decide +kernel
theorem dX0_restoreInto_41 : decode (mc mX0_restoreInto) 41 = .ok (.invokevirtual 35, 3) := by decide +kernel
theorem dX0_restoreInto_44 : decode (mc mX0_restoreInto) 44 = .ok (.aload_n 0, 1) := by decide +kernel
theorem dX0_restoreInto_45 : decode (mc mX0_restoreInto) 45 = .ok (.getfield 26, 3) := by decide +kernel
theorem dX0_restoreInto_48 : decode (mc mX0_restoreInto) 48 = .ok (.ireturn, 1) := by decide +kernel
theorem dX1_init_0 : decode (mc mX1_init) 0 = .ok (.aload_n 0, 1) := by decide +kernel
theorem dX1_init_1 : decode (mc mX1_init) 1 = .ok (.invokespecial 3, 3) := by decide +kernel
theorem dX1_init_4 : decode (mc mX1_init) 4 = .ok (.aload_n 0, 1) := by decide +kernel
theorem dX1_init_5 : decode (mc mX1_init) 5 = .ok (.bipush 10, 2) := by decide +kernel
theorem dX1_init_7 : decode (mc mX1_init) 7 = .ok (.newarray .int, 2) := by decide +kernel
theorem dX1_init_9 : decode (mc mX1_init) 9 = .ok (.putfield 9, 3) := by decide +kernel
theorem dX1_init_12 : decode (mc mX1_init) 12 = .ok (.return_, 1) := by decide +kernel
theorem dX1_clear_0 : decode (mc mX1_clear) 0 = .ok (.aload_n 0, 1) := by decide +kernel
theorem dX1_clear_1 : decode (mc mX1_clear) 1 = .ok (.iconst 0, 1) := by decide +kernel
theorem dX1_clear_2 : decode (mc mX1_clear) 2 = .ok (.putfield 15, 3) := by decide +kernel
theorem dX1_clear_5 : decode (mc mX1_clear) 5 = .ok (.return_, 1) := by decide +kernel
theorem dX1_append_0 : decode (mc mX1_append) 0 = .ok (.aload_n 0, 1) := by decide +kernel
theorem dX1_append_1 : decode (mc mX1_append) 1 = .ok (.getfield 15, 3) := by decide +kernel
theorem dX1_append_4 : decode (mc mX1_append) 4 = .ok (.bipush 10, 2) := by decide +kernel
theorem dX1_append_6 : decode (mc mX1_append) 6 = .ok (.if_icmp .ge 23, 3) := by decide +kernel
theorem dX1_append_9 : decode (mc mX1_append) 9 = .ok (.aload_n 0, 1) := by decide +kernel
theorem dX1_append_10 : decode (mc mX1_append) 10 = .ok (.getfield 9, 3) := by decide +kernel
theorem dX1_append_13 : decode (mc mX1_append) 13 = .ok (.aload_n 0, 1) := by decide +kernel
theorem dX1_append_14 : decode (mc mX1_append) 14 = .ok (.getfield 15, 3) := by decide +kernel
theorem dX1_append_17 : decode (mc mX1_append) 17 = .ok (.iload_n 1, 1) := by decide +kernel
theorem dX1_append_18 : decode (mc mX1_append) 18 = .ok (.iastore, 1) := by decide +kernel
theorem dX1_append_19 : decode (mc mX1_append) 19 = .ok (.aload_n 0, 1) := by decide +kernel
theorem dX1_append_20 : decode (mc mX1_append) 20 = .ok (.dup, 1) := by decide +kernel
theorem dX1_append_21 : decode (mc mX1_append) 21 = .ok (.getfield 15, 3) := by decide +kernel
theorem dX1_append_24 : decode (mc mX1_append) 24 = .ok (.iconst 1, 1) := by decide +kernel
theorem dX1_append_25 : decode (mc mX1_append) 25 = .ok (.iadd, 1) := by decide +kernel
theorem dX1_append_26 : decode (mc mX1_append) 26 = .ok (.putfield 15, 3) := by decide +kernel
theorem dX1_append_29 : decode (mc mX1_append) 29 = .ok (.return_, 1) := by decide +kernel
theorem dX1_wordAt_0 : decode (mc mX1_wordAt) 0 = .ok (.iload_n 1, 1) := by decide +kernel
theorem dX1_wordAt_1 : decode (mc mX1_wordAt) 1 = .ok (.ifCond .lt 20, 3) := by decide +kernel
theorem dX1_wordAt_4 : decode (mc mX1_wordAt) 4 = .ok (.iload_n 1, 1) := by decide +kernel
theorem dX1_wordAt_5 : decode (mc mX1_wordAt) 5 = .ok (.aload_n 0, 1) := by decide +kernel
theorem dX1_wordAt_6 : decode (mc mX1_wordAt) 6 = .ok (.getfield 15, 3) := by decide +kernel
theorem dX1_wordAt_9 : decode (mc mX1_wordAt) 9 = .ok (.if_icmp .ge 12, 3) := by decide +kernel
theorem dX1_wordAt_12 : decode (mc mX1_wordAt) 12 = .ok (.aload_n 0, 1) := by decide +kernel
theorem dX1_wordAt_13 : decode (mc mX1_wordAt) 13 = .ok (.getfield 9, 3) := by decide +kernel
theorem dX1_wordAt_16 : decode (mc mX1_wordAt) 16 = .ok (.iload_n 1, 1) := by decide +kernel
theorem dX1_wordAt_17 : decode (mc mX1_wordAt) 17 = .ok (.iaload, 1) := by decide +kernel
theorem dX1_wordAt_18 : decode (mc mX1_wordAt) 18 = .ok (.goto 5, 3) := by decide +kernel
theorem dX1_wordAt_21 : decode (mc mX1_wordAt) 21 = .ok (.ldc 19, 2) := by decide +kernel
theorem dX1_wordAt_23 : decode (mc mX1_wordAt) 23 = .ok (.ireturn, 1) := by decide +kernel
theorem dX2_init_0 : decode (mc mX2_init) 0 = .ok (.aload_n 0, 1) := by decide +kernel
theorem dX2_init_1 : decode (mc mX2_init) 1 = .ok (.invokespecial 5, 3) := by decide +kernel
theorem dX2_init_4 : decode (mc mX2_init) 4 = .ok (.aload_n 0, 1) := by decide +kernel
theorem dX2_init_5 : decode (mc mX2_init) 5 = .ok (.sipush 654, 3) := by decide +kernel
theorem dX2_init_8 : decode (mc mX2_init) 8 = .ok (.newarray .int, 2) := by decide +kernel
theorem dX2_init_10 : decode (mc mX2_init) 10 = .ok (.putfield 11, 3) := by decide +kernel
theorem dX2_init_13 : decode (mc mX2_init) 13 = .ok (.aload_n 0, 1) := by decide +kernel
theorem dX2_init_14 : decode (mc mX2_init) 14 = .ok (.bipush 20, 2) := by decide +kernel
theorem dX2_init_16 : decode (mc mX2_init) 16 = .ok (.newarray .boolean, 2) := by decide +kernel
theorem dX2_init_18 : decode (mc mX2_init) 18 = .ok (.putfield 15, 3) := by decide +kernel
theorem dX2_init_21 : decode (mc mX2_init) 21 = .ok (.aload_n 0, 1) := by decide +kernel
theorem dX2_init_22 : decode (mc mX2_init) 22 = .ok (.new 19, 3) := by decide +kernel
theorem dX2_init_25 : decode (mc mX2_init) 25 = .ok (.dup, 1) := by decide +kernel
theorem dX2_init_26 : decode (mc mX2_init) 26 = .ok (.invokespecial 21, 3) := by decide +kernel
theorem dX2_init_29 : decode (mc mX2_init) 29 = .ok (.putfield 22, 3) := by decide +kernel
theorem dX2_init_32 : decode (mc mX2_init) 32 = .ok (.aload_n 0, 1) := by decide +kernel
theorem dX2_init_33 : decode (mc mX2_init) 33 = .ok (.new 19, 3) := by decide +kernel
theorem dX2_init_36 : decode (mc mX2_init) 36 = .ok (.dup, 1) := by decide +kernel
theorem dX2_init_37 : decode (mc mX2_init) 37 = .ok (.invokespecial 21, 3) := by decide +kernel
theorem dX2_init_40 : decode (mc mX2_init) 40 = .ok (.putfield 26, 3) := by decide +kernel
theorem dX2_init_43 : decode (mc mX2_init) 43 = .ok (.aload_n 0, 1) := by decide +kernel
theorem dX2_init_44 : decode (mc mX2_init) 44 = .ok (.new 29, 3) := by decide +kernel
theorem dX2_init_47 : decode (mc mX2_init) 47 = .ok (.dup, 1) := by decide +kernel
theorem dX2_init_48 : decode (mc mX2_init) 48 = .ok (.invokespecial 31, 3) := by decide +kernel
theorem dX2_init_51 : decode (mc mX2_init) 51 = .ok (.putfield 32, 3) := by decide +kernel
theorem dX2_init_54 : decode (mc mX2_init) 54 = .ok (.getstatic 36, 3) := by decide +kernel
theorem dX2_init_57 : decode (mc mX2_init) 57 = .ok (.iconst 0, 1) := by decide +kernel
theorem dX2_init_58 : decode (mc mX2_init) 58 = .ok (.aload_n 0, 1) := by decide +kernel
theorem dX2_init_59 : decode (mc mX2_init) 59 = .ok (.getfield 11, 3) := by decide +kernel
theorem dX2_init_62 : decode (mc mX2_init) 62 = .ok (.iconst 5, 1) := by decide +kernel
theorem dX2_init_63 : decode (mc mX2_init) 63 = .ok (.iconst 5, 1) := by decide +kernel
theorem dX2_init_64 : decode (mc mX2_init) 64 = .ok (.invokestatic 39, 3) := by decide +kernel
theorem dX2_init_67 : decode (mc mX2_init) 67 = .ok (.return_, 1) := by decide +kernel
theorem dX2_copyTo_0 : decode (mc mX2_copyTo) 0 = .ok (.aload_n 0, 1) := by decide +kernel
theorem dX2_copyTo_1 : decode (mc mX2_copyTo) 1 = .ok (.getfield 11, 3) := by decide +kernel
theorem dX2_copyTo_4 : decode (mc mX2_copyTo) 4 = .ok (.iconst 0, 1) := by decide +kernel
theorem dX2_copyTo_5 : decode (mc mX2_copyTo) 5 = .ok (.aload_n 1, 1) := by decide +kernel
theorem dX2_copyTo_6 : decode (mc mX2_copyTo) 6 = .ok (.iconst 0, 1) := by decide +kernel
theorem dX2_copyTo_7 : decode (mc mX2_copyTo) 7 = .ok (.sipush 654, 3) := by decide +kernel
theorem dX2_copyTo_10 : decode (mc mX2_copyTo) 10 = .ok (.invokestatic 39, 3) := by decide +kernel
theorem dX2_copyTo_13 : decode (mc mX2_copyTo) 13 = .ok (.return_, 1) := by decide +kernel
theorem dX2_copyFrom_0 : decode (mc mX2_copyFrom) 0 = .ok (.aload_n 1, 1) := by decide +kernel
theorem dX2_copyFrom_1 : decode (mc mX2_copyFrom) 1 = .ok (.iconst 0, 1) := by decide +kernel
theorem dX2_copyFrom_2 : decode (mc mX2_copyFrom) 2 = .ok (.aload_n 0, 1) := by decide +kernel
theorem dX2_copyFrom_3 : decode (mc mX2_copyFrom) 3 = .ok (.getfield 11, 3) := by decide +kernel
theorem dX2_copyFrom_6 : decode (mc mX2_copyFrom) 6 = .ok (.iconst 0, 1) := by decide +kernel
theorem dX2_copyFrom_7 : decode (mc mX2_copyFrom) 7 = .ok (.sipush 654, 3) := by decide +kernel
theorem dX2_copyFrom_10 : decode (mc mX2_copyFrom) 10 = .ok (.invokestatic 39, 3) := by decide +kernel
theorem dX2_copyFrom_13 : decode (mc mX2_copyFrom) 13 = .ok (.return_, 1) := by decide +kernel
theorem dX2_memberCell_0 : decode (mc mX2_memberCell) 0 = .ok (.bipush 10, 2) := by decide +kernel
theorem dX2_memberCell_2 : decode (mc mX2_memberCell) 2 = .ok (.iload_n 0, 1) := by decide +kernel
theorem dX2_memberCell_3 : decode (mc mX2_memberCell) 3 = .ok (.iconst 2, 1) := by decide +kernel
theorem dX2_memberCell_4 : decode (mc mX2_memberCell) 4 = .ok (.imul, 1) := by decide +kernel
theorem dX2_memberCell_5 : decode (mc mX2_memberCell) 5 = .ok (.iadd, 1) := by decide +kernel
theorem dX2_memberCell_6 : decode (mc mX2_memberCell) 6 = .ok (.iload_n 1, 1) := by decide +kernel
theorem dX2_memberCell_7 : decode (mc mX2_memberCell) 7 = .ok (.iadd, 1) := by decide +kernel
theorem dX2_memberCell_8 : decode (mc mX2_memberCell) 8 = .ok (.ireturn, 1) := by decide +kernel
theorem dX2_phraseCell_0 : decode (mc mX2_phraseCell) 0 = .ok (.bipush 22, 2) := by decide +kernel
theorem dX2_phraseCell_2 : decode (mc mX2_phraseCell) 2 = .ok (.iload_n 0, 1) := by decide +kernel
theorem dX2_phraseCell_3 : decode (mc mX2_phraseCell) 3 = .ok (.bipush 16, 2) := by decide +kernel
theorem dX2_phraseCell_5 : decode (mc mX2_phraseCell) 5 = .ok (.imul, 1) := by decide +kernel
theorem dX2_phraseCell_6 : decode (mc mX2_phraseCell) 6 = .ok (.iadd, 1) := by decide +kernel
theorem dX2_phraseCell_7 : decode (mc mX2_phraseCell) 7 = .ok (.iload_n 1, 1) := by decide +kernel
theorem dX2_phraseCell_8 : decode (mc mX2_phraseCell) 8 = .ok (.iadd, 1) := by decide +kernel
theorem dX2_phraseCell_9 : decode (mc mX2_phraseCell) 9 = .ok (.ireturn, 1) := by decide +kernel
theorem dX2_noteCell_0 : decode (mc mX2_noteCell) 0 = .ok (.sipush 342, 3) := by decide +kernel
theorem dX2_noteCell_3 : decode (mc mX2_noteCell) 3 = .ok (.iload_n 0, 1) := by decide +kernel
theorem dX2_noteCell_4 : decode (mc mX2_noteCell) 4 = .ok (.bipush 13, 2) := by decide +kernel
theorem dX2_noteCell_6 : decode (mc mX2_noteCell) 6 = .ok (.imul, 1) := by decide +kernel
theorem dX2_noteCell_7 : decode (mc mX2_noteCell) 7 = .ok (.iadd, 1) := by decide +kernel
theorem dX2_noteCell_8 : decode (mc mX2_noteCell) 8 = .ok (.iload_n 1, 1) := by decide +kernel
theorem dX2_noteCell_9 : decode (mc mX2_noteCell) 9 = .ok (.iadd, 1) := by decide +kernel
theorem dX2_noteCell_10 : decode (mc mX2_noteCell) 10 = .ok (.ireturn, 1) := by decide +kernel
theorem dX2_at_0 : decode (mc mX2_at) 0 = .ok (.iload_n 1, 1) := by decide +kernel
theorem dX2_at_1 : decode (mc mX2_at) 1 = .ok (.ifCond .lt 19, 3) := by decide +kernel
theorem dX2_at_4 : decode (mc mX2_at) 4 = .ok (.iload_n 1, 1) := by decide +kernel
theorem dX2_at_5 : decode (mc mX2_at) 5 = .ok (.sipush 654, 3) := by decide +kernel
theorem dX2_at_8 : decode (mc mX2_at) 8 = .ok (.if_icmp .ge 12, 3) := by decide +kernel
theorem dX2_at_11 : decode (mc mX2_at) 11 = .ok (.aload_n 0, 1) := by decide +kernel
theorem dX2_at_12 : decode (mc mX2_at) 12 = .ok (.getfield 11, 3) := by decide +kernel
theorem dX2_at_15 : decode (mc mX2_at) 15 = .ok (.iload_n 1, 1) := by decide +kernel
theorem dX2_at_16 : decode (mc mX2_at) 16 = .ok (.iaload, 1) := by decide +kernel
theorem dX2_at_17 : decode (mc mX2_at) 17 = .ok (.goto 4, 3) := by decide +kernel
theorem dX2_at_20 : decode (mc mX2_at) 20 = .ok (.iconst 0, 1) := by decide +kernel
theorem dX2_at_21 : decode (mc mX2_at) 21 = .ok (.ireturn, 1) := by decide +kernel
theorem dX2_put_0 : decode (mc mX2_put) 0 = .ok (.iload_n 1, 1) := by decide +kernel
theorem dX2_put_1 : decode (mc mX2_put) 1 = .ok (.ifCond .lt 17, 3) := by decide +kernel
theorem dX2_put_4 : decode (mc mX2_put) 4 = .ok (.iload_n 1, 1) := by decide +kernel
theorem dX2_put_5 : decode (mc mX2_put) 5 = .ok (.sipush 654, 3) := by decide +kernel
theorem dX2_put_8 : decode (mc mX2_put) 8 = .ok (.if_icmp .ge 10, 3) := by decide +kernel
theorem dX2_put_11 : decode (mc mX2_put) 11 = .ok (.aload_n 0, 1) := by decide +kernel
theorem dX2_put_12 : decode (mc mX2_put) 12 = .ok (.getfield 11, 3) := by decide +kernel
theorem dX2_put_15 : decode (mc mX2_put) 15 = .ok (.iload_n 1, 1) := by decide +kernel
theorem dX2_put_16 : decode (mc mX2_put) 16 = .ok (.iload_n 2, 1) := by decide +kernel
theorem dX2_put_17 : decode (mc mX2_put) 17 = .ok (.iastore, 1) := by decide +kernel
theorem dX2_put_18 : decode (mc mX2_put) 18 = .ok (.return_, 1) := by decide +kernel
theorem dX2_increase_0 : decode (mc mX2_increase) 0 = .ok (.aload_n 0, 1) := by decide +kernel
theorem dX2_increase_1 : decode (mc mX2_increase) 1 = .ok (.iload_n 1, 1) := by decide +kernel
theorem dX2_increase_2 : decode (mc mX2_increase) 2 = .ok (.aload_n 0, 1) := by decide +kernel
theorem dX2_increase_3 : decode (mc mX2_increase) 3 = .ok (.iload_n 1, 1) := by decide +kernel
theorem dX2_increase_4 : decode (mc mX2_increase) 4 = .ok (.invokevirtual 45, 3) := by decide +kernel
theorem dX2_increase_7 : decode (mc mX2_increase) 7 = .ok (.iload_n 2, 1) := by decide +kernel
theorem dX2_increase_8 : decode (mc mX2_increase) 8 = .ok (.iadd, 1) := by decide +kernel
theorem dX2_increase_9 : decode (mc mX2_increase) 9 = .ok (.invokevirtual 49, 3) := by decide +kernel
theorem dX2_increase_12 : decode (mc mX2_increase) 12 = .ok (.return_, 1) := by decide +kernel
theorem dX2_members_0 : decode (mc mX2_members) 0 = .ok (.aload_n 0, 1) := by decide +kernel
theorem dX2_members_1 : decode (mc mX2_members) 1 = .ok (.iconst 0, 1) := by decide +kernel
theorem dX2_members_2 : decode (mc mX2_members) 2 = .ok (.invokevirtual 45, 3) := by decide +kernel
theorem dX2_members_5 : decode (mc mX2_members) 5 = .ok (.ireturn, 1) := by decide +kernel
theorem dX2_phrases_0 : decode (mc mX2_phrases) 0 = .ok (.aload_n 0, 1) := by decide +kernel
theorem dX2_phrases_1 : decode (mc mX2_phrases) 1 = .ok (.iconst 1, 1) := by decide +kernel
theorem dX2_phrases_2 : decode (mc mX2_phrases) 2 = .ok (.invokevirtual 45, 3) := by decide +kernel
theorem dX2_phrases_5 : decode (mc mX2_phrases) 5 = .ok (.ireturn, 1) := by decide +kernel
theorem dX2_notes_0 : decode (mc mX2_notes) 0 = .ok (.aload_n 0, 1) := by decide +kernel
theorem dX2_notes_1 : decode (mc mX2_notes) 1 = .ok (.iconst 2, 1) := by decide +kernel
theorem dX2_notes_2 : decode (mc mX2_notes) 2 = .ok (.invokevirtual 45, 3) := by decide +kernel
theorem dX2_notes_5 : decode (mc mX2_notes) 5 = .ok (.ireturn, 1) := by decide +kernel
theorem dX2_tick_0 : decode (mc mX2_tick) 0 = .ok (.aload_n 0, 1) := by decide +kernel
theorem dX2_tick_1 : decode (mc mX2_tick) 1 = .ok (.iconst 3, 1) := by decide +kernel
theorem dX2_tick_2 : decode (mc mX2_tick) 2 = .ok (.invokevirtual 45, 3) := by decide +kernel
theorem dX2_tick_5 : decode (mc mX2_tick) 5 = .ok (.ireturn, 1) := by decide +kernel
theorem dX2_hasMember_0 : decode (mc mX2_hasMember) 0 = .ok (.iload_n 1, 1) := by decide +kernel
theorem dX2_hasMember_1 : decode (mc mX2_hasMember) 1 = .ok (.ifCond .lt 15, 3) := by decide +kernel
theorem dX2_hasMember_4 : decode (mc mX2_hasMember) 4 = .ok (.iload_n 1, 1) := by decide +kernel
theorem dX2_hasMember_5 : decode (mc mX2_hasMember) 5 = .ok (.aload_n 0, 1) := by decide +kernel
theorem dX2_hasMember_6 : decode (mc mX2_hasMember) 6 = .ok (.invokevirtual 53, 3) := by decide +kernel
theorem dX2_hasMember_9 : decode (mc mX2_hasMember) 9 = .ok (.if_icmp .ge 7, 3) := by decide +kernel
theorem dX2_hasMember_12 : decode (mc mX2_hasMember) 12 = .ok (.iconst 1, 1) := by decide +kernel
theorem dX2_hasMember_13 : decode (mc mX2_hasMember) 13 = .ok (.goto 4, 3) := by decide +kernel
theorem dX2_hasMember_16 : decode (mc mX2_hasMember) 16 = .ok (.iconst 0, 1) := by decide +kernel
theorem dX2_hasMember_17 : decode (mc mX2_hasMember) 17 = .ok (.ireturn, 1) := by decide +kernel
theorem dX2_hasPhrase_0 : decode (mc mX2_hasPhrase) 0 = .ok (.iload_n 1, 1) := by decide +kernel
theorem dX2_hasPhrase_1 : decode (mc mX2_hasPhrase) 1 = .ok (.ifCond .lt 15, 3) := by decide +kernel
theorem dX2_hasPhrase_4 : decode (mc mX2_hasPhrase) 4 = .ok (.iload_n 1, 1) := by decide +kernel
theorem dX2_hasPhrase_5 : decode (mc mX2_hasPhrase) 5 = .ok (.aload_n 0, 1) := by decide +kernel
theorem dX2_hasPhrase_6 : decode (mc mX2_hasPhrase) 6 = .ok (.invokevirtual 57, 3) := by decide +kernel
theorem dX2_hasPhrase_9 : decode (mc mX2_hasPhrase) 9 = .ok (.if_icmp .ge 7, 3) := by decide +kernel
theorem dX2_hasPhrase_12 : decode (mc mX2_hasPhrase) 12 = .ok (.iconst 1, 1) := by decide +kernel
theorem dX2_hasPhrase_13 : decode (mc mX2_hasPhrase) 13 = .ok (.goto 4, 3) := by decide +kernel
theorem dX2_hasPhrase_16 : decode (mc mX2_hasPhrase) 16 = .ok (.iconst 0, 1) := by decide +kernel
theorem dX2_hasPhrase_17 : decode (mc mX2_hasPhrase) 17 = .ok (.ireturn, 1) := by decide +kernel
theorem dX2_hasNote_0 : decode (mc mX2_hasNote) 0 = .ok (.iload_n 1, 1) := by decide +kernel
theorem dX2_hasNote_1 : decode (mc mX2_hasNote) 1 = .ok (.ifCond .lt 15, 3) := by decide +kernel
theorem dX2_hasNote_4 : decode (mc mX2_hasNote) 4 = .ok (.iload_n 1, 1) := by decide +kernel
theorem dX2_hasNote_5 : decode (mc mX2_hasNote) 5 = .ok (.aload_n 0, 1) := by decide +kernel
theorem dX2_hasNote_6 : decode (mc mX2_hasNote) 6 = .ok (.invokevirtual 60, 3) := by decide +kernel
theorem dX2_hasNote_9 : decode (mc mX2_hasNote) 9 = .ok (.if_icmp .ge 7, 3) := by decide +kernel
theorem dX2_hasNote_12 : decode (mc mX2_hasNote) 12 = .ok (.iconst 1, 1) := by decide +kernel
theorem dX2_hasNote_13 : decode (mc mX2_hasNote) 13 = .ok (.goto 4, 3) := by decide +kernel
theorem dX2_hasNote_16 : decode (mc mX2_hasNote) 16 = .ok (.iconst 0, 1) := by decide +kernel
theorem dX2_hasNote_17 : decode (mc mX2_hasNote) 17 = .ok (.ireturn, 1) := by decide +kernel
theorem dX2_settingOf_0 : decode (mc mX2_settingOf) 0 = .ok (.aload_n 0, 1) := by decide +kernel
theorem dX2_settingOf_1 : decode (mc mX2_settingOf) 1 = .ok (.iconst 5, 1) := by decide +kernel
theorem dX2_settingOf_2 : decode (mc mX2_settingOf) 2 = .ok (.iload_n 1, 1) := by decide +kernel
theorem dX2_settingOf_3 : decode (mc mX2_settingOf) 3 = .ok (.iadd, 1) := by decide +kernel
theorem dX2_settingOf_4 : decode (mc mX2_settingOf) 4 = .ok (.invokevirtual 45, 3) := by decide +kernel
theorem dX2_settingOf_7 : decode (mc mX2_settingOf) 7 = .ok (.ireturn, 1) := by decide +kernel
theorem dX2_changeSetting_0 : decode (mc mX2_changeSetting) 0 = .ok (.aload_n 0, 1) := by decide +kernel
theorem dX2_changeSetting_1 : decode (mc mX2_changeSetting) 1 = .ok (.iconst 5, 1) := by decide +kernel
theorem dX2_changeSetting_2 : decode (mc mX2_changeSetting) 2 = .ok (.iload_n 1, 1) := by decide +kernel
theorem dX2_changeSetting_3 : decode (mc mX2_changeSetting) 3 = .ok (.iadd, 1) := by decide +kernel
theorem dX2_changeSetting_4 : decode (mc mX2_changeSetting) 4 = .ok (.iload_n 2, 1) := by decide +kernel
theorem dX2_changeSetting_5 : decode (mc mX2_changeSetting) 5 = .ok (.invokevirtual 49, 3) := by decide +kernel
theorem dX2_changeSetting_8 : decode (mc mX2_changeSetting) 8 = .ok (.return_, 1) := by decide +kernel
theorem dX2_moveTick_0 : decode (mc mX2_moveTick) 0 = .ok (.aload_n 0, 1) := by decide +kernel
theorem dX2_moveTick_1 : decode (mc mX2_moveTick) 1 = .ok (.iconst 3, 1) := by decide +kernel
theorem dX2_moveTick_2 : decode (mc mX2_moveTick) 2 = .ok (.iload_n 1, 1) := by decide +kernel
theorem dX2_moveTick_3 : decode (mc mX2_moveTick) 3 = .ok (.invokevirtual 63, 3) := by decide +kernel
theorem dX2_moveTick_6 : decode (mc mX2_moveTick) 6 = .ok (.aload_n 0, 1) := by decide +kernel
theorem dX2_moveTick_7 : decode (mc mX2_moveTick) 7 = .ok (.iconst 3, 1) := by decide +kernel
theorem dX2_moveTick_8 : decode (mc mX2_moveTick) 8 = .ok (.invokevirtual 45, 3) := by decide +kernel
theorem dX2_moveTick_11 : decode (mc mX2_moveTick) 11 = .ok (.ireturn, 1) := by decide +kernel
theorem dX2_startMember_0 : decode (mc mX2_startMember) 0 = .ok (.aload_n 0, 1) := by decide +kernel
theorem dX2_startMember_1 : decode (mc mX2_startMember) 1 = .ok (.iconst 0, 1) := by decide +kernel
theorem dX2_startMember_2 : decode (mc mX2_startMember) 2 = .ok (.invokevirtual 45, 3) := by decide +kernel
theorem dX2_startMember_5 : decode (mc mX2_startMember) 5 = .ok (.istore_n 1, 1) := by decide +kernel
theorem dX2_startMember_6 : decode (mc mX2_startMember) 6 = .ok (.aload_n 0, 1) := by decide +kernel
theorem dX2_startMember_7 : decode (mc mX2_startMember) 7 = .ok (.iconst 0, 1) := by decide +kernel
theorem dX2_startMember_8 : decode (mc mX2_startMember) 8 = .ok (.iconst 1, 1) := by decide +kernel
theorem dX2_startMember_9 : decode (mc mX2_startMember) 9 = .ok (.invokevirtual 63, 3) := by decide +kernel
theorem dX2_startMember_12 : decode (mc mX2_startMember) 12 = .ok (.aload_n 0, 1) := by decide +kernel
theorem dX2_startMember_13 : decode (mc mX2_startMember) 13 = .ok (.iload_n 1, 1) := by decide +kernel
theorem dX2_startMember_14 : decode (mc mX2_startMember) 14 = .ok (.iconst 0, 1) := by decide +kernel
theorem dX2_startMember_15 : decode (mc mX2_startMember) 15 = .ok (.invokestatic 66, 3) := by decide +kernel
theorem dX2_startMember_18 : decode (mc mX2_startMember) 18 = .ok (.bipush 40, 2) := by decide +kernel
theorem dX2_startMember_20 : decode (mc mX2_startMember) 20 = .ok (.invokevirtual 49, 3) := by decide +kernel
theorem dX2_startMember_23 : decode (mc mX2_startMember) 23 = .ok (.aload_n 0, 1) := by decide +kernel
theorem dX2_startMember_24 : decode (mc mX2_startMember) 24 = .ok (.iload_n 1, 1) := by decide +kernel
theorem dX2_startMember_25 : decode (mc mX2_startMember) 25 = .ok (.iconst 1, 1) := by decide +kernel
theorem dX2_startMember_26 : decode (mc mX2_startMember) 26 = .ok (.invokestatic 66, 3) := by decide +kernel
theorem dX2_startMember_29 : decode (mc mX2_startMember) 29 = .ok (.iconst 0, 1) := by decide +kernel
theorem dX2_startMember_30 : decode (mc mX2_startMember) 30 = .ok (.invokevirtual 49, 3) := by decide +kernel
theorem dX2_startMember_33 : decode (mc mX2_startMember) 33 = .ok (.iload_n 1, 1) := by decide +kernel
theorem dX2_startMember_34 : decode (mc mX2_startMember) 34 = .ok (.ireturn, 1) := by decide +kernel
theorem dX2_priceOf_0 : decode (mc mX2_priceOf) 0 = .ok (.aload_n 0, 1) := by decide +kernel
theorem dX2_priceOf_1 : decode (mc mX2_priceOf) 1 = .ok (.iload_n 1, 1) := by decide +kernel
theorem dX2_priceOf_2 : decode (mc mX2_priceOf) 2 = .ok (.iconst 0, 1) := by decide +kernel
theorem dX2_priceOf_3 : decode (mc mX2_priceOf) 3 = .ok (.invokestatic 66, 3) := by decide +kernel
theorem dX2_priceOf_6 : decode (mc mX2_priceOf) 6 = .ok (.invokevirtual 45, 3) := by decide +kernel
theorem dX2_priceOf_9 : decode (mc mX2_priceOf) 9 = .ok (.ireturn, 1) := by decide +kernel
theorem dX2_changePrice_0 : decode (mc mX2_changePrice) 0 = .ok (.aload_n 0, 1) := by decide +kernel
theorem dX2_changePrice_1 : decode (mc mX2_changePrice) 1 = .ok (.iload_n 1, 1) := by decide +kernel
theorem dX2_changePrice_2 : decode (mc mX2_changePrice) 2 = .ok (.iconst 0, 1) := by decide +kernel
theorem dX2_changePrice_3 : decode (mc mX2_changePrice) 3 = .ok (.invokestatic 66, 3) := by decide +kernel
theorem dX2_changePrice_6 : decode (mc mX2_changePrice) 6 = .ok (.iload_n 2, 1) := by decide +kernel
theorem dX2_changePrice_7 : decode (mc mX2_changePrice) 7 = .ok (.invokevirtual 49, 3) := by decide +kernel
theorem dX2_changePrice_10 : decode (mc mX2_changePrice) 10 = .ok (.return_, 1) := by decide +kernel
theorem dX2_memberProperty_0 : decode (mc mX2_memberProperty) 0 = .ok (.iload_n 2, 1) := by decide +kernel
theorem dX2_memberProperty_1 : decode (mc mX2_memberProperty) 1 = .ok (.tableswitch 53 0 3 #[31, 31, 41, 47], 31) := by decide +kernel
theorem dX2_memberProperty_32 : decode (mc mX2_memberProperty) 32 = .ok (.aload_n 0, 1) := by decide +kernel
theorem dX2_memberProperty_33 : decode (mc mX2_memberProperty) 33 = .ok (.iload_n 1, 1) := by decide +kernel
theorem dX2_memberProperty_34 : decode (mc mX2_memberProperty) 34 = .ok (.iload_n 2, 1) := by decide +kernel
theorem dX2_memberProperty_35 : decode (mc mX2_memberProperty) 35 = .ok (.invokestatic 66, 3) := by decide +kernel
theorem dX2_memberProperty_38 : decode (mc mX2_memberProperty) 38 = .ok (.invokevirtual 45, 3) := by decide +kernel
theorem dX2_memberProperty_41 : decode (mc mX2_memberProperty) 41 = .ok (.ireturn, 1) := by decide +kernel
theorem dX2_memberProperty_42 : decode (mc mX2_memberProperty) 42 = .ok (.aload_n 0, 1) := by decide +kernel
theorem dX2_memberProperty_43 : decode (mc mX2_memberProperty) 43 = .ok (.iload_n 1, 1) := by decide +kernel
theorem dX2_memberProperty_44 : decode (mc mX2_memberProperty) 44 = .ok (.invokevirtual 70, 3) := by decide +kernel
theorem dX2_memberProperty_47 : decode (mc mX2_memberProperty) 47 = .ok (.ireturn, 1) := by decide +kernel
theorem dX2_memberProperty_48 : decode (mc mX2_memberProperty) 48 = .ok (.aload_n 0, 1) := by decide +kernel
theorem dX2_memberProperty_49 : decode (mc mX2_memberProperty) 49 = .ok (.iload_n 1, 1) := by decide +kernel
theorem dX2_memberProperty_50 : decode (mc mX2_memberProperty) 50 = .ok (.invokevirtual 73, 3) := by decide +kernel
theorem dX2_memberProperty_53 : decode (mc mX2_memberProperty) 53 = .ok (.ireturn, 1) := by decide +kernel
theorem dX2_memberProperty_54 : decode (mc mX2_memberProperty) 54 = .ok (.aload_n 0, 1) := by decide +kernel
theorem dX2_memberProperty_55 : decode (mc mX2_memberProperty) 55 = .ok (.iload_n 1, 1) := by decide +kernel
theorem dX2_memberProperty_56 : decode (mc mX2_memberProperty) 56 = .ok (.invokevirtual 76, 3) := by decide +kernel
theorem dX2_memberProperty_59 : decode (mc mX2_memberProperty) 59 = .ok (.ireturn, 1) := by decide +kernel
theorem dX2_countOwned_0 : decode (mc mX2_countOwned) 0 = .ok (.iconst 0, 1) := by decide +kernel
theorem dX2_countOwned_1 : decode (mc mX2_countOwned) 1 = .ok (.istore_n 2, 1) := by decide +kernel
theorem dX2_countOwned_2 : decode (mc mX2_countOwned) 2 = .ok (.iconst 0, 1) := by decide +kernel
theorem dX2_countOwned_3 : decode (mc mX2_countOwned) 3 = .ok (.istore_n 3, 1) := by decide +kernel
theorem dX2_countOwned_4 : decode (mc mX2_countOwned) 4 = .ok (.iload_n 3, 1) := by decide +kernel
theorem dX2_countOwned_5 : decode (mc mX2_countOwned) 5 = .ok (.aload_n 0, 1) := by decide +kernel
theorem dX2_countOwned_6 : decode (mc mX2_countOwned) 6 = .ok (.invokevirtual 57, 3) := by decide +kernel
theorem dX2_countOwned_9 : decode (mc mX2_countOwned) 9 = .ok (.if_icmp .ge 29, 3) := by decide +kernel
theorem dX2_countOwned_12 : decode (mc mX2_countOwned) 12 = .ok (.aload_n 0, 1) := by decide +kernel
theorem dX2_countOwned_13 : decode (mc mX2_countOwned) 13 = .ok (.iload_n 3, 1) := by decide +kernel
theorem dX2_countOwned_14 : decode (mc mX2_countOwned) 14 = .ok (.invokevirtual 79, 3) := by decide +kernel
theorem dX2_countOwned_17 : decode (mc mX2_countOwned) 17 = .ok (.ifCond .eq 15, 3) := by decide +kernel
theorem dX2_countOwned_20 : decode (mc mX2_countOwned) 20 = .ok (.aload_n 0, 1) := by decide +kernel
theorem dX2_countOwned_21 : decode (mc mX2_countOwned) 21 = .ok (.iload_n 3, 1) := by decide +kernel
theorem dX2_countOwned_22 : decode (mc mX2_countOwned) 22 = .ok (.invokevirtual 83, 3) := by decide +kernel
theorem dX2_countOwned_25 : decode (mc mX2_countOwned) 25 = .ok (.iload_n 1, 1) := by decide +kernel
theorem dX2_countOwned_26 : decode (mc mX2_countOwned) 26 = .ok (.if_icmp .ne 6, 3) := by decide +kernel
theorem dX2_countOwned_29 : decode (mc mX2_countOwned) 29 = .ok (.iinc 2 1, 3) := by decide +kernel
theorem dX2_countOwned_32 : decode (mc mX2_countOwned) 32 = .ok (.iinc 3 1, 3) := by decide +kernel
theorem dX2_countOwned_35 : decode (mc mX2_countOwned) 35 = .ok (.goto (-31), 3) := by decide +kernel
theorem dX2_countOwned_38 : decode (mc mX2_countOwned) 38 = .ok (.iload_n 2, 1) := by decide +kernel
theorem dX2_countOwned_39 : decode (mc mX2_countOwned) 39 = .ok (.ireturn, 1) := by decide +kernel
theorem dX2_countUsesNoted_0 : decode (mc mX2_countUsesNoted) 0 = .ok (.iconst 0, 1) := by decide +kernel
theorem dX2_countUsesNoted_1 : decode (mc mX2_countUsesNoted) 1 = .ok (.istore_n 2, 1) := by decide +kernel
theorem dX2_countUsesNoted_2 : decode (mc mX2_countUsesNoted) 2 = .ok (.iconst 0, 1) := by decide +kernel
theorem dX2_countUsesNoted_3 : decode (mc mX2_countUsesNoted) 3 = .ok (.istore_n 3, 1) := by decide +kernel
theorem dX2_countUsesNoted_4 : decode (mc mX2_countUsesNoted) 4 = .ok (.iload_n 3, 1) := by decide +kernel
theorem dX2_countUsesNoted_5 : decode (mc mX2_countUsesNoted) 5 = .ok (.aload_n 0, 1) := by decide +kernel
theorem dX2_countUsesNoted_6 : decode (mc mX2_countUsesNoted) 6 = .ok (.invokevirtual 60, 3) := by decide +kernel
theorem dX2_countUsesNoted_9 : decode (mc mX2_countUsesNoted) 9 = .ok (.if_icmp .ge 22, 3) := by decide +kernel
theorem dX2_countUsesNoted_12 : decode (mc mX2_countUsesNoted) 12 = .ok (.aload_n 0, 1) := by decide +kernel
theorem dX2_countUsesNoted_13 : decode (mc mX2_countUsesNoted) 13 = .ok (.iload_n 3, 1) := by decide +kernel
theorem dX2_countUsesNoted_14 : decode (mc mX2_countUsesNoted) 14 = .ok (.iconst 0, 1) := by decide +kernel
theorem dX2_countUsesNoted_15 : decode (mc mX2_countUsesNoted) 15 = .ok (.invokevirtual 86, 3) := by decide +kernel
theorem dX2_countUsesNoted_18 : decode (mc mX2_countUsesNoted) 18 = .ok (.iload_n 1, 1) := by decide +kernel
theorem dX2_countUsesNoted_19 : decode (mc mX2_countUsesNoted) 19 = .ok (.if_icmp .ne 6, 3) := by decide +kernel
theorem dX2_countUsesNoted_22 : decode (mc mX2_countUsesNoted) 22 = .ok (.iinc 2 1, 3) := by decide +kernel
theorem dX2_countUsesNoted_25 : decode (mc mX2_countUsesNoted) 25 = .ok (.iinc 3 1, 3) := by decide +kernel
theorem dX2_countUsesNoted_28 : decode (mc mX2_countUsesNoted) 28 = .ok (.goto (-24), 3) := by decide +kernel
theorem dX2_countUsesNoted_31 : decode (mc mX2_countUsesNoted) 31 = .ok (.iload_n 2, 1) := by decide +kernel
theorem dX2_countUsesNoted_32 : decode (mc mX2_countUsesNoted) 32 = .ok (.ireturn, 1) := by decide +kernel
theorem dX2_sumGot_0 : decode (mc mX2_sumGot) 0 = .ok (.iconst 0, 1) := by decide +kernel
theorem dX2_sumGot_1 : decode (mc mX2_sumGot) 1 = .ok (.istore_n 2, 1) := by decide +kernel
theorem dX2_sumGot_2 : decode (mc mX2_sumGot) 2 = .ok (.iconst 0, 1) := by decide +kernel
theorem dX2_sumGot_3 : decode (mc mX2_sumGot) 3 = .ok (.istore_n 3, 1) := by decide +kernel
theorem dX2_sumGot_4 : decode (mc mX2_sumGot) 4 = .ok (.iload_n 3, 1) := by decide +kernel
theorem dX2_sumGot_5 : decode (mc mX2_sumGot) 5 = .ok (.aload_n 0, 1) := by decide +kernel
theorem dX2_sumGot_6 : decode (mc mX2_sumGot) 6 = .ok (.invokevirtual 60, 3) := by decide +kernel
theorem dX2_sumGot_9 : decode (mc mX2_sumGot) 9 = .ok (.if_icmp .ge 29, 3) := by decide +kernel
theorem dX2_sumGot_12 : decode (mc mX2_sumGot) 12 = .ok (.aload_n 0, 1) := by decide +kernel
theorem dX2_sumGot_13 : decode (mc mX2_sumGot) 13 = .ok (.iload_n 3, 1) := by decide +kernel
theorem dX2_sumGot_14 : decode (mc mX2_sumGot) 14 = .ok (.invokevirtual 89, 3) := by decide +kernel
theorem dX2_sumGot_17 : decode (mc mX2_sumGot) 17 = .ok (.ifCond .ne 15, 3) := by decide +kernel
theorem dX2_sumGot_20 : decode (mc mX2_sumGot) 20 = .ok (.iload_n 2, 1) := by decide +kernel
theorem dX2_sumGot_21 : decode (mc mX2_sumGot) 21 = .ok (.aload_n 0, 1) := by decide +kernel
theorem dX2_sumGot_22 : decode (mc mX2_sumGot) 22 = .ok (.iload_n 3, 1) := by decide +kernel
theorem dX2_sumGot_23 : decode (mc mX2_sumGot) 23 = .ok (.bipush 7, 2) := by decide +kernel
theorem dX2_sumGot_25 : decode (mc mX2_sumGot) 25 = .ok (.iload_n 1, 1) := by decide +kernel
theorem dX2_sumGot_26 : decode (mc mX2_sumGot) 26 = .ok (.iadd, 1) := by decide +kernel
theorem dX2_sumGot_27 : decode (mc mX2_sumGot) 27 = .ok (.invokevirtual 86, 3) := by decide +kernel
theorem dX2_sumGot_30 : decode (mc mX2_sumGot) 30 = .ok (.iadd, 1) := by decide +kernel
theorem dX2_sumGot_31 : decode (mc mX2_sumGot) 31 = .ok (.istore_n 2, 1) := by decide +kernel
theorem dX2_sumGot_32 : decode (mc mX2_sumGot) 32 = .ok (.iinc 3 1, 3) := by decide +kernel
theorem dX2_sumGot_35 : decode (mc mX2_sumGot) 35 = .ok (.goto (-31), 3) := by decide +kernel
theorem dX2_sumGot_38 : decode (mc mX2_sumGot) 38 = .ok (.iload_n 2, 1) := by decide +kernel
theorem dX2_sumGot_39 : decode (mc mX2_sumGot) 39 = .ok (.ireturn, 1) := by decide +kernel
theorem dX2_countOf_0 : decode (mc mX2_countOf) 0 = .ok (.iload_n 1, 1) := by decide +kernel
theorem dX2_countOf_1 : decode (mc mX2_countOf) 1 = .ok (.tableswitch 88 0 7 #[47, 52, 57, 62, 67, 72, 77, 83], 47) := by decide +kernel
theorem dX2_countOf_48 : decode (mc mX2_countOf) 48 = .ok (.aload_n 0, 1) := by decide +kernel
theorem dX2_countOf_49 : decode (mc mX2_countOf) 49 = .ok (.invokevirtual 53, 3) := by decide +kernel
theorem dX2_countOf_52 : decode (mc mX2_countOf) 52 = .ok (.ireturn, 1) := by decide +kernel
theorem dX2_countOf_53 : decode (mc mX2_countOf) 53 = .ok (.aload_n 0, 1) := by decide +kernel
theorem dX2_countOf_54 : decode (mc mX2_countOf) 54 = .ok (.invokevirtual 57, 3) := by decide +kernel
theorem dX2_countOf_57 : decode (mc mX2_countOf) 57 = .ok (.ireturn, 1) := by decide +kernel
theorem dX2_countOf_58 : decode (mc mX2_countOf) 58 = .ok (.aload_n 0, 1) := by decide +kernel
theorem dX2_countOf_59 : decode (mc mX2_countOf) 59 = .ok (.invokevirtual 92, 3) := by decide +kernel
theorem dX2_countOf_62 : decode (mc mX2_countOf) 62 = .ok (.ireturn, 1) := by decide +kernel
theorem dX2_countOf_63 : decode (mc mX2_countOf) 63 = .ok (.aload_n 0, 1) := by decide +kernel
theorem dX2_countOf_64 : decode (mc mX2_countOf) 64 = .ok (.invokevirtual 60, 3) := by decide +kernel
theorem dX2_countOf_67 : decode (mc mX2_countOf) 67 = .ok (.ireturn, 1) := by decide +kernel
theorem dX2_countOf_68 : decode (mc mX2_countOf) 68 = .ok (.aload_n 0, 1) := by decide +kernel
theorem dX2_countOf_69 : decode (mc mX2_countOf) 69 = .ok (.invokevirtual 95, 3) := by decide +kernel
theorem dX2_countOf_72 : decode (mc mX2_countOf) 72 = .ok (.ireturn, 1) := by decide +kernel
theorem dX2_countOf_73 : decode (mc mX2_countOf) 73 = .ok (.aload_n 0, 1) := by decide +kernel
theorem dX2_countOf_74 : decode (mc mX2_countOf) 74 = .ok (.invokevirtual 98, 3) := by decide +kernel
theorem dX2_countOf_77 : decode (mc mX2_countOf) 77 = .ok (.ireturn, 1) := by decide +kernel
theorem dX2_countOf_78 : decode (mc mX2_countOf) 78 = .ok (.aload_n 0, 1) := by decide +kernel
theorem dX2_countOf_79 : decode (mc mX2_countOf) 79 = .ok (.iconst 4, 1) := by decide +kernel
theorem dX2_countOf_80 : decode (mc mX2_countOf) 80 = .ok (.invokevirtual 45, 3) := by decide +kernel
theorem dX2_countOf_83 : decode (mc mX2_countOf) 83 = .ok (.ireturn, 1) := by decide +kernel
theorem dX2_countOf_84 : decode (mc mX2_countOf) 84 = .ok (.aload_n 0, 1) := by decide +kernel
theorem dX2_countOf_85 : decode (mc mX2_countOf) 85 = .ok (.invokevirtual 101, 3) := by decide +kernel
theorem dX2_countOf_88 : decode (mc mX2_countOf) 88 = .ok (.ireturn, 1) := by decide +kernel
theorem dX2_countOf_89 : decode (mc mX2_countOf) 89 = .ok (.aload_n 0, 1) := by decide +kernel
theorem dX2_countOf_90 : decode (mc mX2_countOf) 90 = .ok (.iload_n 1, 1) := by decide +kernel
theorem dX2_countOf_91 : decode (mc mX2_countOf) 91 = .ok (.bipush 8, 2) := by decide +kernel
theorem dX2_countOf_93 : decode (mc mX2_countOf) 93 = .ok (.isub, 1) := by decide +kernel
theorem dX2_countOf_94 : decode (mc mX2_countOf) 94 = .ok (.invokevirtual 104, 3) := by decide +kernel
theorem dX2_countOf_97 : decode (mc mX2_countOf) 97 = .ok (.ireturn, 1) := by decide +kernel
theorem dX2_countLive_0 : decode (mc mX2_countLive) 0 = .ok (.iconst 0, 1) := by decide +kernel
theorem dX2_countLive_1 : decode (mc mX2_countLive) 1 = .ok (.istore_n 1, 1) := by decide +kernel
theorem dX2_countLive_2 : decode (mc mX2_countLive) 2 = .ok (.iconst 0, 1) := by decide +kernel
theorem dX2_countLive_3 : decode (mc mX2_countLive) 3 = .ok (.istore_n 2, 1) := by decide +kernel
theorem dX2_countLive_4 : decode (mc mX2_countLive) 4 = .ok (.iload_n 2, 1) := by decide +kernel
theorem dX2_countLive_5 : decode (mc mX2_countLive) 5 = .ok (.aload_n 0, 1) := by decide +kernel
theorem dX2_countLive_6 : decode (mc mX2_countLive) 6 = .ok (.invokevirtual 57, 3) := by decide +kernel
theorem dX2_countLive_9 : decode (mc mX2_countLive) 9 = .ok (.if_icmp .ge 20, 3) := by decide +kernel
theorem dX2_countLive_12 : decode (mc mX2_countLive) 12 = .ok (.aload_n 0, 1) := by decide +kernel
theorem dX2_countLive_13 : decode (mc mX2_countLive) 13 = .ok (.iload_n 2, 1) := by decide +kernel
theorem dX2_countLive_14 : decode (mc mX2_countLive) 14 = .ok (.invokevirtual 79, 3) := by decide +kernel
theorem dX2_countLive_17 : decode (mc mX2_countLive) 17 = .ok (.ifCond .eq 6, 3) := by decide +kernel
theorem dX2_countLive_20 : decode (mc mX2_countLive) 20 = .ok (.iinc 1 1, 3) := by decide +kernel
theorem dX2_countLive_23 : decode (mc mX2_countLive) 23 = .ok (.iinc 2 1, 3) := by decide +kernel
theorem dX2_countLive_26 : decode (mc mX2_countLive) 26 = .ok (.goto (-22), 3) := by decide +kernel
theorem dX2_countLive_29 : decode (mc mX2_countLive) 29 = .ok (.iload_n 1, 1) := by decide +kernel
theorem dX2_countLive_30 : decode (mc mX2_countLive) 30 = .ok (.ireturn, 1) := by decide +kernel
theorem dX2_countPaidBack_0 : decode (mc mX2_countPaidBack) 0 = .ok (.iconst 0, 1) := by decide +kernel
theorem dX2_countPaidBack_1 : decode (mc mX2_countPaidBack) 1 = .ok (.istore_n 1, 1) := by decide +kernel
theorem dX2_countPaidBack_2 : decode (mc mX2_countPaidBack) 2 = .ok (.iconst 0, 1) := by decide +kernel
theorem dX2_countPaidBack_3 : decode (mc mX2_countPaidBack) 3 = .ok (.istore_n 2, 1) := by decide +kernel
theorem dX2_countPaidBack_4 : decode (mc mX2_countPaidBack) 4 = .ok (.iload_n 2, 1) := by decide +kernel
theorem dX2_countPaidBack_5 : decode (mc mX2_countPaidBack) 5 = .ok (.aload_n 0, 1) := by decide +kernel
theorem dX2_countPaidBack_6 : decode (mc mX2_countPaidBack) 6 = .ok (.invokevirtual 60, 3) := by decide +kernel
theorem dX2_countPaidBack_9 : decode (mc mX2_countPaidBack) 9 = .ok (.if_icmp .ge 20, 3) := by decide +kernel
theorem dX2_countPaidBack_12 : decode (mc mX2_countPaidBack) 12 = .ok (.aload_n 0, 1) := by decide +kernel
theorem dX2_countPaidBack_13 : decode (mc mX2_countPaidBack) 13 = .ok (.iload_n 2, 1) := by decide +kernel
theorem dX2_countPaidBack_14 : decode (mc mX2_countPaidBack) 14 = .ok (.invokevirtual 89, 3) := by decide +kernel
theorem dX2_countPaidBack_17 : decode (mc mX2_countPaidBack) 17 = .ok (.ifCond .eq 6, 3) := by decide +kernel
theorem dX2_countPaidBack_20 : decode (mc mX2_countPaidBack) 20 = .ok (.iinc 1 1, 3) := by decide +kernel
theorem dX2_countPaidBack_23 : decode (mc mX2_countPaidBack) 23 = .ok (.iinc 2 1, 3) := by decide +kernel
theorem dX2_countPaidBack_26 : decode (mc mX2_countPaidBack) 26 = .ok (.goto (-22), 3) := by decide +kernel
theorem dX2_countPaidBack_29 : decode (mc mX2_countPaidBack) 29 = .ok (.iload_n 1, 1) := by decide +kernel
theorem dX2_countPaidBack_30 : decode (mc mX2_countPaidBack) 30 = .ok (.ireturn, 1) := by decide +kernel
theorem dX2_countConflicts_0 : decode (mc mX2_countConflicts) 0 = .ok (.iconst 0, 1) := by decide +kernel
theorem dX2_countConflicts_1 : decode (mc mX2_countConflicts) 1 = .ok (.istore_n 1, 1) := by decide +kernel
theorem dX2_countConflicts_2 : decode (mc mX2_countConflicts) 2 = .ok (.iconst 0, 1) := by decide +kernel
theorem dX2_countConflicts_3 : decode (mc mX2_countConflicts) 3 = .ok (.istore_n 2, 1) := by decide +kernel
theorem dX2_countConflicts_4 : decode (mc mX2_countConflicts) 4 = .ok (.iload_n 2, 1) := by decide +kernel
theorem dX2_countConflicts_5 : decode (mc mX2_countConflicts) 5 = .ok (.aload_n 0, 1) := by decide +kernel
theorem dX2_countConflicts_6 : decode (mc mX2_countConflicts) 6 = .ok (.invokevirtual 57, 3) := by decide +kernel
theorem dX2_countConflicts_9 : decode (mc mX2_countConflicts) 9 = .ok (.if_icmp .ge 17, 3) := by decide +kernel
theorem dX2_countConflicts_12 : decode (mc mX2_countConflicts) 12 = .ok (.iload_n 1, 1) := by decide +kernel
theorem dX2_countConflicts_13 : decode (mc mX2_countConflicts) 13 = .ok (.aload_n 0, 1) := by decide +kernel
theorem dX2_countConflicts_14 : decode (mc mX2_countConflicts) 14 = .ok (.iload_n 2, 1) := by decide +kernel
theorem dX2_countConflicts_15 : decode (mc mX2_countConflicts) 15 = .ok (.invokevirtual 107, 3) := by decide +kernel
theorem dX2_countConflicts_18 : decode (mc mX2_countConflicts) 18 = .ok (.iadd, 1) := by decide +kernel
theorem dX2_countConflicts_19 : decode (mc mX2_countConflicts) 19 = .ok (.istore_n 1, 1) := by decide +kernel
theorem dX2_countConflicts_20 : decode (mc mX2_countConflicts) 20 = .ok (.iinc 2 1, 3) := by decide +kernel
theorem dX2_countConflicts_23 : decode (mc mX2_countConflicts) 23 = .ok (.goto (-19), 3) := by decide +kernel
theorem dX2_countConflicts_26 : decode (mc mX2_countConflicts) 26 = .ok (.iload_n 1, 1) := by decide +kernel
theorem dX2_countConflicts_27 : decode (mc mX2_countConflicts) 27 = .ok (.iconst 2, 1) := by decide +kernel
theorem dX2_countConflicts_28 : decode (mc mX2_countConflicts) 28 = .ok (.idiv, 1) := by decide +kernel
theorem dX2_countConflicts_29 : decode (mc mX2_countConflicts) 29 = .ok (.ireturn, 1) := by decide +kernel
theorem dX2_startPhrase_0 : decode (mc mX2_startPhrase) 0 = .ok (.aload_n 0, 1) := by decide +kernel
theorem dX2_startPhrase_1 : decode (mc mX2_startPhrase) 1 = .ok (.iconst 1, 1) := by decide +kernel
theorem dX2_startPhrase_2 : decode (mc mX2_startPhrase) 2 = .ok (.invokevirtual 45, 3) := by decide +kernel
theorem dX2_startPhrase_5 : decode (mc mX2_startPhrase) 5 = .ok (.istore 5, 2) := by decide +kernel
theorem dX2_startPhrase_7 : decode (mc mX2_startPhrase) 7 = .ok (.aload_n 0, 1) := by decide +kernel
theorem dX2_startPhrase_8 : decode (mc mX2_startPhrase) 8 = .ok (.iconst 1, 1) := by decide +kernel
theorem dX2_startPhrase_9 : decode (mc mX2_startPhrase) 9 = .ok (.iconst 1, 1) := by decide +kernel
theorem dX2_startPhrase_10 : decode (mc mX2_startPhrase) 10 = .ok (.invokevirtual 63, 3) := by decide +kernel
theorem dX2_startPhrase_13 : decode (mc mX2_startPhrase) 13 = .ok (.aload_n 0, 1) := by decide +kernel
theorem dX2_startPhrase_14 : decode (mc mX2_startPhrase) 14 = .ok (.iload 5, 2) := by decide +kernel
theorem dX2_startPhrase_16 : decode (mc mX2_startPhrase) 16 = .ok (.iconst 0, 1) := by decide +kernel
theorem dX2_startPhrase_17 : decode (mc mX2_startPhrase) 17 = .ok (.invokestatic 110, 3) := by decide +kernel
theorem dX2_startPhrase_20 : decode (mc mX2_startPhrase) 20 = .ok (.iload_n 1, 1) := by decide +kernel
theorem dX2_startPhrase_21 : decode (mc mX2_startPhrase) 21 = .ok (.invokevirtual 49, 3) := by decide +kernel
theorem dX2_startPhrase_24 : decode (mc mX2_startPhrase) 24 = .ok (.aload_n 0, 1) := by decide +kernel
theorem dX2_startPhrase_25 : decode (mc mX2_startPhrase) 25 = .ok (.iload 5, 2) := by decide +kernel
theorem dX2_startPhrase_27 : decode (mc mX2_startPhrase) 27 = .ok (.iconst 1, 1) := by decide +kernel
theorem dX2_startPhrase_28 : decode (mc mX2_startPhrase) 28 = .ok (.invokestatic 110, 3) := by decide +kernel
theorem dX2_startPhrase_31 : decode (mc mX2_startPhrase) 31 = .ok (.aload 4, 2) := by decide +kernel
theorem dX2_startPhrase_33 : decode (mc mX2_startPhrase) 33 = .ok (.getfield 113, 3) := by decide +kernel
theorem dX2_startPhrase_36 : decode (mc mX2_startPhrase) 36 = .ok (.invokevirtual 49, 3) := by decide +kernel
theorem dX2_startPhrase_39 : decode (mc mX2_startPhrase) 39 = .ok (.aload_n 0, 1) := by decide +kernel
theorem dX2_startPhrase_40 : decode (mc mX2_startPhrase) 40 = .ok (.iload 5, 2) := by decide +kernel
theorem dX2_startPhrase_42 : decode (mc mX2_startPhrase) 42 = .ok (.iconst 2, 1) := by decide +kernel
theorem dX2_startPhrase_43 : decode (mc mX2_startPhrase) 43 = .ok (.invokestatic 110, 3) := by decide +kernel
theorem dX2_startPhrase_46 : decode (mc mX2_startPhrase) 46 = .ok (.iload_n 2, 1) := by decide +kernel
theorem dX2_startPhrase_47 : decode (mc mX2_startPhrase) 47 = .ok (.invokevirtual 49, 3) := by decide +kernel
theorem dX2_startPhrase_50 : decode (mc mX2_startPhrase) 50 = .ok (.aload_n 0, 1) := by decide +kernel
theorem dX2_startPhrase_51 : decode (mc mX2_startPhrase) 51 = .ok (.iload 5, 2) := by decide +kernel
theorem dX2_startPhrase_53 : decode (mc mX2_startPhrase) 53 = .ok (.iconst 3, 1) := by decide +kernel
theorem dX2_startPhrase_54 : decode (mc mX2_startPhrase) 54 = .ok (.invokestatic 110, 3) := by decide +kernel
theorem dX2_startPhrase_57 : decode (mc mX2_startPhrase) 57 = .ok (.iload_n 3, 1) := by decide +kernel
theorem dX2_startPhrase_58 : decode (mc mX2_startPhrase) 58 = .ok (.invokevirtual 49, 3) := by decide +kernel
theorem dX2_startPhrase_61 : decode (mc mX2_startPhrase) 61 = .ok (.aload_n 0, 1) := by decide +kernel
theorem dX2_startPhrase_62 : decode (mc mX2_startPhrase) 62 = .ok (.iload 5, 2) := by decide +kernel
theorem dX2_startPhrase_64 : decode (mc mX2_startPhrase) 64 = .ok (.iconst 4, 1) := by decide +kernel
theorem dX2_startPhrase_65 : decode (mc mX2_startPhrase) 65 = .ok (.invokestatic 110, 3) := by decide +kernel
theorem dX2_startPhrase_68 : decode (mc mX2_startPhrase) 68 = .ok (.iconst 1, 1) := by decide +kernel
theorem dX2_startPhrase_69 : decode (mc mX2_startPhrase) 69 = .ok (.invokevirtual 49, 3) := by decide +kernel
theorem dX2_startPhrase_72 : decode (mc mX2_startPhrase) 72 = .ok (.aload_n 0, 1) := by decide +kernel
theorem dX2_startPhrase_73 : decode (mc mX2_startPhrase) 73 = .ok (.iload 5, 2) := by decide +kernel
theorem dX2_startPhrase_75 : decode (mc mX2_startPhrase) 75 = .ok (.iconst 5, 1) := by decide +kernel
theorem dX2_startPhrase_76 : decode (mc mX2_startPhrase) 76 = .ok (.invokestatic 110, 3) := by decide +kernel
theorem dX2_startPhrase_79 : decode (mc mX2_startPhrase) 79 = .ok (.iconst 0, 1) := by decide +kernel
theorem dX2_startPhrase_80 : decode (mc mX2_startPhrase) 80 = .ok (.invokevirtual 49, 3) := by decide +kernel
theorem dX2_startPhrase_83 : decode (mc mX2_startPhrase) 83 = .ok (.iconst 0, 1) := by decide +kernel
theorem dX2_startPhrase_84 : decode (mc mX2_startPhrase) 84 = .ok (.istore 6, 2) := by decide +kernel
theorem dX2_startPhrase_86 : decode (mc mX2_startPhrase) 86 = .ok (.iload 6, 2) := by decide +kernel
theorem dX2_startPhrase_88 : decode (mc mX2_startPhrase) 88 = .ok (.aload 4, 2) := by decide +kernel
theorem dX2_startPhrase_90 : decode (mc mX2_startPhrase) 90 = .ok (.getfield 113, 3) := by decide +kernel
theorem dX2_startPhrase_93 : decode (mc mX2_startPhrase) 93 = .ok (.if_icmp .ge 30, 3) := by decide +kernel
theorem dX2_startPhrase_96 : decode (mc mX2_startPhrase) 96 = .ok (.aload_n 0, 1) := by decide +kernel
theorem dX2_startPhrase_97 : decode (mc mX2_startPhrase) 97 = .ok (.iload 5, 2) := by decide +kernel
theorem dX2_startPhrase_99 : decode (mc mX2_startPhrase) 99 = .ok (.bipush 6, 2) := by decide +kernel
theorem dX2_startPhrase_101 : decode (mc mX2_startPhrase) 101 = .ok (.iload 6, 2) := by decide +kernel
theorem dX2_startPhrase_103 : decode (mc mX2_startPhrase) 103 = .ok (.iadd, 1) := by decide +kernel
theorem dX2_startPhrase_104 : decode (mc mX2_startPhrase) 104 = .ok (.invokestatic 110, 3) := by decide +kernel
theorem dX2_startPhrase_107 : decode (mc mX2_startPhrase) 107 = .ok (.aload 4, 2) := by decide +kernel
theorem dX2_startPhrase_109 : decode (mc mX2_startPhrase) 109 = .ok (.iload 6, 2) := by decide +kernel
theorem dX2_startPhrase_111 : decode (mc mX2_startPhrase) 111 = .ok (.invokevirtual 117, 3) := by decide +kernel
theorem dX2_startPhrase_114 : decode (mc mX2_startPhrase) 114 = .ok (.invokevirtual 49, 3) := by decide +kernel
theorem dX2_startPhrase_117 : decode (mc mX2_startPhrase) 117 = .ok (.iinc 6 1, 3) := by decide +kernel
theorem dX2_startPhrase_120 : decode (mc mX2_startPhrase) 120 = .ok (.goto (-34), 3) := by decide +kernel
theorem dX2_startPhrase_123 : decode (mc mX2_startPhrase) 123 = .ok (.iload 5, 2) := by decide +kernel
theorem dX2_startPhrase_125 : decode (mc mX2_startPhrase) 125 = .ok (.ireturn, 1) := by decide +kernel
theorem dX2_phraseProperty_0 : decode (mc mX2_phraseProperty) 0 = .ok (.iload_n 2, 1) := by decide +kernel
theorem dX2_phraseProperty_1 : decode (mc mX2_phraseProperty) 1 = .ok (.bipush 6, 2) := by decide +kernel
theorem dX2_phraseProperty_3 : decode (mc mX2_phraseProperty) 3 = .ok (.if_icmp .ne 11, 3) := by decide +kernel
theorem dX2_phraseProperty_6 : decode (mc mX2_phraseProperty) 6 = .ok (.aload_n 0, 1) := by decide +kernel
theorem dX2_phraseProperty_7 : decode (mc mX2_phraseProperty) 7 = .ok (.iload_n 1, 1) := by decide +kernel
theorem dX2_phraseProperty_8 : decode (mc mX2_phraseProperty) 8 = .ok (.invokevirtual 107, 3) := by decide +kernel
theorem dX2_phraseProperty_11 : decode (mc mX2_phraseProperty) 11 = .ok (.goto 12, 3) := by decide +kernel
theorem dX2_phraseProperty_14 : decode (mc mX2_phraseProperty) 14 = .ok (.aload_n 0, 1) := by decide +kernel
theorem dX2_phraseProperty_15 : decode (mc mX2_phraseProperty) 15 = .ok (.iload_n 1, 1) := by decide +kernel
theorem dX2_phraseProperty_16 : decode (mc mX2_phraseProperty) 16 = .ok (.iload_n 2, 1) := by decide +kernel
theorem dX2_phraseProperty_17 : decode (mc mX2_phraseProperty) 17 = .ok (.invokestatic 110, 3) := by decide +kernel
theorem dX2_phraseProperty_20 : decode (mc mX2_phraseProperty) 20 = .ok (.invokevirtual 45, 3) := by decide +kernel
theorem dX2_phraseProperty_23 : decode (mc mX2_phraseProperty) 23 = .ok (.ireturn, 1) := by decide +kernel
theorem dX2_ownerOf_0 : decode (mc mX2_ownerOf) 0 = .ok (.aload_n 0, 1) := by decide +kernel
theorem dX2_ownerOf_1 : decode (mc mX2_ownerOf) 1 = .ok (.iload_n 1, 1) := by decide +kernel
theorem dX2_ownerOf_2 : decode (mc mX2_ownerOf) 2 = .ok (.iconst 0, 1) := by decide +kernel
theorem dX2_ownerOf_3 : decode (mc mX2_ownerOf) 3 = .ok (.invokestatic 110, 3) := by decide +kernel
theorem dX2_ownerOf_6 : decode (mc mX2_ownerOf) 6 = .ok (.invokevirtual 45, 3) := by decide +kernel
theorem dX2_ownerOf_9 : decode (mc mX2_ownerOf) 9 = .ok (.ireturn, 1) := by decide +kernel
theorem dX2_lengthOf_0 : decode (mc mX2_lengthOf) 0 = .ok (.aload_n 0, 1) := by decide +kernel
theorem dX2_lengthOf_1 : decode (mc mX2_lengthOf) 1 = .ok (.iload_n 1, 1) := by decide +kernel
theorem dX2_lengthOf_2 : decode (mc mX2_lengthOf) 2 = .ok (.iconst 1, 1) := by decide +kernel
theorem dX2_lengthOf_3 : decode (mc mX2_lengthOf) 3 = .ok (.invokestatic 110, 3) := by decide +kernel
theorem dX2_lengthOf_6 : decode (mc mX2_lengthOf) 6 = .ok (.invokevirtual 45, 3) := by decide +kernel
theorem dX2_lengthOf_9 : decode (mc mX2_lengthOf) 9 = .ok (.ireturn, 1) := by decide +kernel
theorem dX2_targetOf_0 : decode (mc mX2_targetOf) 0 = .ok (.aload_n 0, 1) := by decide +kernel
theorem dX2_targetOf_1 : decode (mc mX2_targetOf) 1 = .ok (.iload_n 1, 1) := by decide +kernel
theorem dX2_targetOf_2 : decode (mc mX2_targetOf) 2 = .ok (.iconst 2, 1) := by decide +kernel
theorem dX2_targetOf_3 : decode (mc mX2_targetOf) 3 = .ok (.invokestatic 110, 3) := by decide +kernel
theorem dX2_targetOf_6 : decode (mc mX2_targetOf) 6 = .ok (.invokevirtual 45, 3) := by decide +kernel
theorem dX2_targetOf_9 : decode (mc mX2_targetOf) 9 = .ok (.ireturn, 1) := by decide +kernel
theorem dX2_parentOf_0 : decode (mc mX2_parentOf) 0 = .ok (.aload_n 0, 1) := by decide +kernel
theorem dX2_parentOf_1 : decode (mc mX2_parentOf) 1 = .ok (.iload_n 1, 1) := by decide +kernel
theorem dX2_parentOf_2 : decode (mc mX2_parentOf) 2 = .ok (.iconst 3, 1) := by decide +kernel
theorem dX2_parentOf_3 : decode (mc mX2_parentOf) 3 = .ok (.invokestatic 110, 3) := by decide +kernel
theorem dX2_parentOf_6 : decode (mc mX2_parentOf) 6 = .ok (.invokevirtual 45, 3) := by decide +kernel
theorem dX2_parentOf_9 : decode (mc mX2_parentOf) 9 = .ok (.ireturn, 1) := by decide +kernel
theorem dX2_isLive_0 : decode (mc mX2_isLive) 0 = .ok (.aload_n 0, 1) := by decide +kernel
theorem dX2_isLive_1 : decode (mc mX2_isLive) 1 = .ok (.iload_n 1, 1) := by decide +kernel
theorem dX2_isLive_2 : decode (mc mX2_isLive) 2 = .ok (.iconst 4, 1) := by decide +kernel
theorem dX2_isLive_3 : decode (mc mX2_isLive) 3 = .ok (.invokestatic 110, 3) := by decide +kernel
theorem dX2_isLive_6 : decode (mc mX2_isLive) 6 = .ok (.invokevirtual 45, 3) := by decide +kernel
theorem dX2_isLive_9 : decode (mc mX2_isLive) 9 = .ok (.iconst 1, 1) := by decide +kernel
theorem dX2_isLive_10 : decode (mc mX2_isLive) 10 = .ok (.if_icmp .ne 7, 3) := by decide +kernel
theorem dX2_isLive_13 : decode (mc mX2_isLive) 13 = .ok (.iconst 1, 1) := by decide +kernel
theorem dX2_isLive_14 : decode (mc mX2_isLive) 14 = .ok (.goto 4, 3) := by decide +kernel
theorem dX2_isLive_17 : decode (mc mX2_isLive) 17 = .ok (.iconst 0, 1) := by decide +kernel
theorem dX2_isLive_18 : decode (mc mX2_isLive) 18 = .ok (.ireturn, 1) := by decide +kernel
theorem dX2_usesOf_0 : decode (mc mX2_usesOf) 0 = .ok (.aload_n 0, 1) := by decide +kernel
theorem dX2_usesOf_1 : decode (mc mX2_usesOf) 1 = .ok (.iload_n 1, 1) := by decide +kernel
theorem dX2_usesOf_2 : decode (mc mX2_usesOf) 2 = .ok (.iconst 5, 1) := by decide +kernel
theorem dX2_usesOf_3 : decode (mc mX2_usesOf) 3 = .ok (.invokestatic 110, 3) := by decide +kernel
theorem dX2_usesOf_6 : decode (mc mX2_usesOf) 6 = .ok (.invokevirtual 45, 3) := by decide +kernel
theorem dX2_usesOf_9 : decode (mc mX2_usesOf) 9 = .ok (.ireturn, 1) := by decide +kernel
theorem dX2_wordOf_0 : decode (mc mX2_wordOf) 0 = .ok (.aload_n 0, 1) := by decide +kernel
theorem dX2_wordOf_1 : decode (mc mX2_wordOf) 1 = .ok (.iload_n 1, 1) := by decide +kernel
theorem dX2_wordOf_2 : decode (mc mX2_wordOf) 2 = .ok (.bipush 6, 2) := by decide +kernel
theorem dX2_wordOf_4 : decode (mc mX2_wordOf) 4 = .ok (.iload_n 2, 1) := by decide +kernel
theorem dX2_wordOf_5 : decode (mc mX2_wordOf) 5 = .ok (.iadd, 1) := by decide +kernel
theorem dX2_wordOf_6 : decode (mc mX2_wordOf) 6 = .ok (.invokestatic 110, 3) := by decide +kernel
theorem dX2_wordOf_9 : decode (mc mX2_wordOf) 9 = .ok (.invokevirtual 45, 3) := by decide +kernel
theorem dX2_wordOf_12 : decode (mc mX2_wordOf) 12 = .ok (.ireturn, 1) := by decide +kernel
theorem dX2_readInto_0 : decode (mc mX2_readInto) 0 = .ok (.aload_n 1, 1) := by decide +kernel
theorem dX2_readInto_1 : decode (mc mX2_readInto) 1 = .ok (.invokevirtual 120, 3) := by decide +kernel
theorem dX2_readInto_4 : decode (mc mX2_readInto) 4 = .ok (.iconst 0, 1) := by decide +kernel
theorem dX2_readInto_5 : decode (mc mX2_readInto) 5 = .ok (.istore_n 3, 1) := by decide +kernel
theorem dX2_readInto_6 : decode (mc mX2_readInto) 6 = .ok (.iload_n 3, 1) := by decide +kernel
theorem dX2_readInto_7 : decode (mc mX2_readInto) 7 = .ok (.aload_n 0, 1) := by decide +kernel
theorem dX2_readInto_8 : decode (mc mX2_readInto) 8 = .ok (.iload_n 2, 1) := by decide +kernel
theorem dX2_readInto_9 : decode (mc mX2_readInto) 9 = .ok (.invokevirtual 123, 3) := by decide +kernel
theorem dX2_readInto_12 : decode (mc mX2_readInto) 12 = .ok (.if_icmp .ge 19, 3) := by decide +kernel
theorem dX2_readInto_15 : decode (mc mX2_readInto) 15 = .ok (.aload_n 1, 1) := by decide +kernel
theorem dX2_readInto_16 : decode (mc mX2_readInto) 16 = .ok (.aload_n 0, 1) := by decide +kernel
theorem dX2_readInto_17 : decode (mc mX2_readInto) 17 = .ok (.iload_n 2, 1) := by decide +kernel
theorem dX2_readInto_18 : decode (mc mX2_readInto) 18 = .ok (.iload_n 3, 1) := by decide +kernel
theorem dX2_readInto_19 : decode (mc mX2_readInto) 19 = .ok (.invokevirtual 126, 3) := by decide +kernel
theorem dX2_readInto_22 : decode (mc mX2_readInto) 22 = .ok (.invokevirtual 129, 3) := by decide +kernel
theorem dX2_readInto_25 : decode (mc mX2_readInto) 25 = .ok (.iinc 3 1, 3) := by decide +kernel
theorem dX2_readInto_28 : decode (mc mX2_readInto) 28 = .ok (.goto (-22), 3) := by decide +kernel
theorem dX2_readInto_31 : decode (mc mX2_readInto) 31 = .ok (.return_, 1) := by decide +kernel
theorem dX2_likenessOf_0 : decode (mc mX2_likenessOf) 0 = .ok (.aload_n 0, 1) := by decide +kernel
theorem dX2_likenessOf_1 : decode (mc mX2_likenessOf) 1 = .ok (.aload_n 0, 1) := by decide +kernel
theorem dX2_likenessOf_2 : decode (mc mX2_likenessOf) 2 = .ok (.getfield 22, 3) := by decide +kernel
theorem dX2_likenessOf_5 : decode (mc mX2_likenessOf) 5 = .ok (.iload_n 1, 1) := by decide +kernel
theorem dX2_likenessOf_6 : decode (mc mX2_likenessOf) 6 = .ok (.invokevirtual 133, 3) := by decide +kernel
theorem dX2_likenessOf_9 : decode (mc mX2_likenessOf) 9 = .ok (.aload_n 0, 1) := by decide +kernel
theorem dX2_likenessOf_10 : decode (mc mX2_likenessOf) 10 = .ok (.aload_n 0, 1) := by decide +kernel
theorem dX2_likenessOf_11 : decode (mc mX2_likenessOf) 11 = .ok (.getfield 22, 3) := by decide +kernel
theorem dX2_likenessOf_14 : decode (mc mX2_likenessOf) 14 = .ok (.iload_n 2, 1) := by decide +kernel
theorem dX2_likenessOf_15 : decode (mc mX2_likenessOf) 15 = .ok (.invokevirtual 137, 3) := by decide +kernel
theorem dX2_likenessOf_18 : decode (mc mX2_likenessOf) 18 = .ok (.ireturn, 1) := by decide +kernel
theorem dX2_likenessTo_0 : decode (mc mX2_likenessTo) 0 = .ok (.aload_n 0, 1) := by decide +kernel
theorem dX2_likenessTo_1 : decode (mc mX2_likenessTo) 1 = .ok (.aload_n 0, 1) := by decide +kernel
theorem dX2_likenessTo_2 : decode (mc mX2_likenessTo) 2 = .ok (.getfield 26, 3) := by decide +kernel
theorem dX2_likenessTo_5 : decode (mc mX2_likenessTo) 5 = .ok (.iload_n 2, 1) := by decide +kernel
theorem dX2_likenessTo_6 : decode (mc mX2_likenessTo) 6 = .ok (.invokevirtual 133, 3) := by decide +kernel
theorem dX2_likenessTo_9 : decode (mc mX2_likenessTo) 9 = .ok (.aload_n 0, 1) := by decide +kernel
theorem dX2_likenessTo_10 : decode (mc mX2_likenessTo) 10 = .ok (.getfield 32, 3) := by decide +kernel
theorem dX2_likenessTo_13 : decode (mc mX2_likenessTo) 13 = .ok (.aload_n 1, 1) := by decide +kernel
theorem dX2_likenessTo_14 : decode (mc mX2_likenessTo) 14 = .ok (.aload_n 0, 1) := by decide +kernel
theorem dX2_likenessTo_15 : decode (mc mX2_likenessTo) 15 = .ok (.getfield 26, 3) := by decide +kernel
theorem dX2_likenessTo_18 : decode (mc mX2_likenessTo) 18 = .ok (.invokevirtual 141, 3) := by decide +kernel
theorem dX2_likenessTo_21 : decode (mc mX2_likenessTo) 21 = .ok (.ireturn, 1) := by decide +kernel
theorem dX2_conflictsOf_0 : decode (mc mX2_conflictsOf) 0 = .ok (.aload_n 0, 1) := by decide +kernel
theorem dX2_conflictsOf_1 : decode (mc mX2_conflictsOf) 1 = .ok (.iload_n 1, 1) := by decide +kernel
theorem dX2_conflictsOf_2 : decode (mc mX2_conflictsOf) 2 = .ok (.invokevirtual 79, 3) := by decide +kernel
theorem dX2_conflictsOf_5 : decode (mc mX2_conflictsOf) 5 = .ok (.ifCond .ne 5, 3) := by decide +kernel
theorem dX2_conflictsOf_8 : decode (mc mX2_conflictsOf) 8 = .ok (.iconst 0, 1) := by decide +kernel
theorem dX2_conflictsOf_9 : decode (mc mX2_conflictsOf) 9 = .ok (.ireturn, 1) := by decide +kernel
theorem dX2_conflictsOf_10 : decode (mc mX2_conflictsOf) 10 = .ok (.aload_n 0, 1) := by decide +kernel
theorem dX2_conflictsOf_11 : decode (mc mX2_conflictsOf) 11 = .ok (.aload_n 0, 1) := by decide +kernel
theorem dX2_conflictsOf_12 : decode (mc mX2_conflictsOf) 12 = .ok (.getfield 22, 3) := by decide +kernel
theorem dX2_conflictsOf_15 : decode (mc mX2_conflictsOf) 15 = .ok (.iload_n 1, 1) := by decide +kernel
theorem dX2_conflictsOf_16 : decode (mc mX2_conflictsOf) 16 = .ok (.invokevirtual 133, 3) := by decide +kernel
theorem dX2_conflictsOf_19 : decode (mc mX2_conflictsOf) 19 = .ok (.iconst 0, 1) := by decide +kernel
theorem dX2_conflictsOf_20 : decode (mc mX2_conflictsOf) 20 = .ok (.istore_n 2, 1) := by decide +kernel
theorem dX2_conflictsOf_21 : decode (mc mX2_conflictsOf) 21 = .ok (.iconst 0, 1) := by decide +kernel
theorem dX2_conflictsOf_22 : decode (mc mX2_conflictsOf) 22 = .ok (.istore_n 3, 1) := by decide +kernel
theorem dX2_conflictsOf_23 : decode (mc mX2_conflictsOf) 23 = .ok (.iload_n 3, 1) := by decide +kernel
theorem dX2_conflictsOf_24 : decode (mc mX2_conflictsOf) 24 = .ok (.aload_n 0, 1) := by decide +kernel
theorem dX2_conflictsOf_25 : decode (mc mX2_conflictsOf) 25 = .ok (.invokevirtual 57, 3) := by decide +kernel
theorem dX2_conflictsOf_28 : decode (mc mX2_conflictsOf) 28 = .ok (.if_icmp .ge 37, 3) := by decide +kernel
theorem dX2_conflictsOf_31 : decode (mc mX2_conflictsOf) 31 = .ok (.aload_n 0, 1) := by decide +kernel
theorem dX2_conflictsOf_32 : decode (mc mX2_conflictsOf) 32 = .ok (.iload_n 3, 1) := by decide +kernel
theorem dX2_conflictsOf_33 : decode (mc mX2_conflictsOf) 33 = .ok (.aload_n 0, 1) := by decide +kernel
theorem dX2_conflictsOf_34 : decode (mc mX2_conflictsOf) 34 = .ok (.getfield 22, 3) := by decide +kernel
theorem dX2_conflictsOf_37 : decode (mc mX2_conflictsOf) 37 = .ok (.invokevirtual 145, 3) := by decide +kernel
theorem dX2_conflictsOf_40 : decode (mc mX2_conflictsOf) 40 = .ok (.ifCond .eq 19, 3) := by decide +kernel
theorem dX2_conflictsOf_43 : decode (mc mX2_conflictsOf) 43 = .ok (.aload_n 0, 1) := by decide +kernel
theorem dX2_conflictsOf_44 : decode (mc mX2_conflictsOf) 44 = .ok (.iload_n 3, 1) := by decide +kernel
theorem dX2_conflictsOf_45 : decode (mc mX2_conflictsOf) 45 = .ok (.invokevirtual 149, 3) := by decide +kernel
theorem dX2_conflictsOf_48 : decode (mc mX2_conflictsOf) 48 = .ok (.aload_n 0, 1) := by decide +kernel
theorem dX2_conflictsOf_49 : decode (mc mX2_conflictsOf) 49 = .ok (.iload_n 1, 1) := by decide +kernel
theorem dX2_conflictsOf_50 : decode (mc mX2_conflictsOf) 50 = .ok (.invokevirtual 149, 3) := by decide +kernel
theorem dX2_conflictsOf_53 : decode (mc mX2_conflictsOf) 53 = .ok (.if_icmp .eq 6, 3) := by decide +kernel
theorem dX2_conflictsOf_56 : decode (mc mX2_conflictsOf) 56 = .ok (.iinc 2 1, 3) := by decide +kernel
theorem dX2_conflictsOf_59 : decode (mc mX2_conflictsOf) 59 = .ok (.iinc 3 1, 3) := by decide +kernel
theorem dX2_conflictsOf_62 : decode (mc mX2_conflictsOf) 62 = .ok (.goto (-39), 3) := by decide +kernel
theorem dX2_conflictsOf_65 : decode (mc mX2_conflictsOf) 65 = .ok (.iload_n 2, 1) := by decide +kernel
theorem dX2_conflictsOf_66 : decode (mc mX2_conflictsOf) 66 = .ok (.ireturn, 1) := by decide +kernel
theorem dX2_standsAt_0 : decode (mc mX2_standsAt) 0 = .ok (.aload_n 0, 1) := by decide +kernel
theorem dX2_standsAt_1 : decode (mc mX2_standsAt) 1 = .ok (.iload_n 1, 1) := by decide +kernel
theorem dX2_standsAt_2 : decode (mc mX2_standsAt) 2 = .ok (.iconst 1, 1) := by decide +kernel
theorem dX2_standsAt_3 : decode (mc mX2_standsAt) 3 = .ok (.invokestatic 110, 3) := by decide +kernel
theorem dX2_standsAt_6 : decode (mc mX2_standsAt) 6 = .ok (.invokevirtual 45, 3) := by decide +kernel
theorem dX2_standsAt_9 : decode (mc mX2_standsAt) 9 = .ok (.istore 4, 2) := by decide +kernel
theorem dX2_standsAt_11 : decode (mc mX2_standsAt) 11 = .ok (.iload_n 1, 1) := by decide +kernel
theorem dX2_standsAt_12 : decode (mc mX2_standsAt) 12 = .ok (.bipush 6, 2) := by decide +kernel
theorem dX2_standsAt_14 : decode (mc mX2_standsAt) 14 = .ok (.invokestatic 110, 3) := by decide +kernel
theorem dX2_standsAt_17 : decode (mc mX2_standsAt) 17 = .ok (.istore 5, 2) := by decide +kernel
theorem dX2_standsAt_19 : decode (mc mX2_standsAt) 19 = .ok (.iload_n 3, 1) := by decide +kernel
theorem dX2_standsAt_20 : decode (mc mX2_standsAt) 20 = .ok (.iload 4, 2) := by decide +kernel
theorem dX2_standsAt_22 : decode (mc mX2_standsAt) 22 = .ok (.iadd, 1) := by decide +kernel
theorem dX2_standsAt_23 : decode (mc mX2_standsAt) 23 = .ok (.aload_n 2, 1) := by decide +kernel
theorem dX2_standsAt_24 : decode (mc mX2_standsAt) 24 = .ok (.getfield 113, 3) := by decide +kernel
theorem dX2_standsAt_27 : decode (mc mX2_standsAt) 27 = .ok (.if_icmp .le 5, 3) := by decide +kernel
theorem dX2_standsAt_30 : decode (mc mX2_standsAt) 30 = .ok (.iconst 0, 1) := by decide +kernel
theorem dX2_standsAt_31 : decode (mc mX2_standsAt) 31 = .ok (.ireturn, 1) := by decide +kernel
theorem dX2_standsAt_32 : decode (mc mX2_standsAt) 32 = .ok (.iconst 0, 1) := by decide +kernel
theorem dX2_standsAt_33 : decode (mc mX2_standsAt) 33 = .ok (.istore 6, 2) := by decide +kernel
theorem dX2_standsAt_35 : decode (mc mX2_standsAt) 35 = .ok (.iload 6, 2) := by decide +kernel
theorem dX2_standsAt_37 : decode (mc mX2_standsAt) 37 = .ok (.iload 4, 2) := by decide +kernel
theorem dX2_standsAt_39 : decode (mc mX2_standsAt) 39 = .ok (.if_icmp .ge 31, 3) := by decide +kernel
theorem dX2_standsAt_42 : decode (mc mX2_standsAt) 42 = .ok (.aload_n 0, 1) := by decide +kernel
theorem dX2_standsAt_43 : decode (mc mX2_standsAt) 43 = .ok (.iload 5, 2) := by decide +kernel
theorem dX2_standsAt_45 : decode (mc mX2_standsAt) 45 = .ok (.iload 6, 2) := by decide +kernel
theorem dX2_standsAt_47 : decode (mc mX2_standsAt) 47 = .ok (.iadd, 1) := by decide +kernel
theorem dX2_standsAt_48 : decode (mc mX2_standsAt) 48 = .ok (.invokevirtual 45, 3) := by decide +kernel
theorem dX2_standsAt_51 : decode (mc mX2_standsAt) 51 = .ok (.aload_n 2, 1) := by decide +kernel
theorem dX2_standsAt_52 : decode (mc mX2_standsAt) 52 = .ok (.iload_n 3, 1) := by decide +kernel
theorem dX2_standsAt_53 : decode (mc mX2_standsAt) 53 = .ok (.iload 6, 2) := by decide +kernel
theorem dX2_standsAt_55 : decode (mc mX2_standsAt) 55 = .ok (.iadd, 1) := by decide +kernel
theorem dX2_standsAt_56 : decode (mc mX2_standsAt) 56 = .ok (.invokevirtual 117, 3) := by decide +kernel
theorem dX2_standsAt_59 : decode (mc mX2_standsAt) 59 = .ok (.if_icmp .eq 5, 3) := by decide +kernel
theorem dX2_standsAt_62 : decode (mc mX2_standsAt) 62 = .ok (.iconst 0, 1) := by decide +kernel
theorem dX2_standsAt_63 : decode (mc mX2_standsAt) 63 = .ok (.ireturn, 1) := by decide +kernel
theorem dX2_standsAt_64 : decode (mc mX2_standsAt) 64 = .ok (.iinc 6 1, 3) := by decide +kernel
theorem dX2_standsAt_67 : decode (mc mX2_standsAt) 67 = .ok (.goto (-32), 3) := by decide +kernel
theorem dX2_standsAt_70 : decode (mc mX2_standsAt) 70 = .ok (.iconst 1, 1) := by decide +kernel
theorem dX2_standsAt_71 : decode (mc mX2_standsAt) 71 = .ok (.ireturn, 1) := by decide +kernel
theorem dX2_isLiveAs_0 : decode (mc mX2_isLiveAs) 0 = .ok (.aload_n 0, 1) := by decide +kernel
theorem dX2_isLiveAs_1 : decode (mc mX2_isLiveAs) 1 = .ok (.iload_n 1, 1) := by decide +kernel
theorem dX2_isLiveAs_2 : decode (mc mX2_isLiveAs) 2 = .ok (.invokevirtual 79, 3) := by decide +kernel
theorem dX2_isLiveAs_5 : decode (mc mX2_isLiveAs) 5 = .ok (.ifCond .eq 29, 3) := by decide +kernel
theorem dX2_isLiveAs_8 : decode (mc mX2_isLiveAs) 8 = .ok (.aload_n 0, 1) := by decide +kernel
theorem dX2_isLiveAs_9 : decode (mc mX2_isLiveAs) 9 = .ok (.iload_n 1, 1) := by decide +kernel
theorem dX2_isLiveAs_10 : decode (mc mX2_isLiveAs) 10 = .ok (.invokevirtual 123, 3) := by decide +kernel
theorem dX2_isLiveAs_13 : decode (mc mX2_isLiveAs) 13 = .ok (.aload_n 2, 1) := by decide +kernel
theorem dX2_isLiveAs_14 : decode (mc mX2_isLiveAs) 14 = .ok (.getfield 113, 3) := by decide +kernel
theorem dX2_isLiveAs_17 : decode (mc mX2_isLiveAs) 17 = .ok (.if_icmp .ne 17, 3) := by decide +kernel
theorem dX2_isLiveAs_20 : decode (mc mX2_isLiveAs) 20 = .ok (.aload_n 0, 1) := by decide +kernel
theorem dX2_isLiveAs_21 : decode (mc mX2_isLiveAs) 21 = .ok (.iload_n 1, 1) := by decide +kernel
theorem dX2_isLiveAs_22 : decode (mc mX2_isLiveAs) 22 = .ok (.aload_n 2, 1) := by decide +kernel
theorem dX2_isLiveAs_23 : decode (mc mX2_isLiveAs) 23 = .ok (.iconst 0, 1) := by decide +kernel
theorem dX2_isLiveAs_24 : decode (mc mX2_isLiveAs) 24 = .ok (.invokevirtual 152, 3) := by decide +kernel
theorem dX2_isLiveAs_27 : decode (mc mX2_isLiveAs) 27 = .ok (.ifCond .eq 7, 3) := by decide +kernel
theorem dX2_isLiveAs_30 : decode (mc mX2_isLiveAs) 30 = .ok (.iconst 1, 1) := by decide +kernel
theorem dX2_isLiveAs_31 : decode (mc mX2_isLiveAs) 31 = .ok (.goto 4, 3) := by decide +kernel
theorem dX2_isLiveAs_34 : decode (mc mX2_isLiveAs) 34 = .ok (.iconst 0, 1) := by decide +kernel
theorem dX2_isLiveAs_35 : decode (mc mX2_isLiveAs) 35 = .ok (.ireturn, 1) := by decide +kernel
theorem dX2_giversOf_0 : decode (mc mX2_giversOf) 0 = .ok (.iconst 0, 1) := by decide +kernel
theorem dX2_giversOf_1 : decode (mc mX2_giversOf) 1 = .ok (.istore_n 3, 1) := by decide +kernel
theorem dX2_giversOf_2 : decode (mc mX2_giversOf) 2 = .ok (.iconst 0, 1) := by decide +kernel
theorem dX2_giversOf_3 : decode (mc mX2_giversOf) 3 = .ok (.istore 4, 2) := by decide +kernel
theorem dX2_giversOf_5 : decode (mc mX2_giversOf) 5 = .ok (.iload 4, 2) := by decide +kernel
theorem dX2_giversOf_7 : decode (mc mX2_giversOf) 7 = .ok (.aload_n 0, 1) := by decide +kernel
theorem dX2_giversOf_8 : decode (mc mX2_giversOf) 8 = .ok (.invokevirtual 53, 3) := by decide +kernel
theorem dX2_giversOf_11 : decode (mc mX2_giversOf) 11 = .ok (.if_icmp .ge 23, 3) := by decide +kernel
theorem dX2_giversOf_14 : decode (mc mX2_giversOf) 14 = .ok (.aload_n 0, 1) := by decide +kernel
theorem dX2_giversOf_15 : decode (mc mX2_giversOf) 15 = .ok (.iload 4, 2) := by decide +kernel
theorem dX2_giversOf_17 : decode (mc mX2_giversOf) 17 = .ok (.iload_n 1, 1) := by decide +kernel
theorem dX2_giversOf_18 : decode (mc mX2_giversOf) 18 = .ok (.aload_n 2, 1) := by decide +kernel
theorem dX2_giversOf_19 : decode (mc mX2_giversOf) 19 = .ok (.invokevirtual 156, 3) := by decide +kernel
theorem dX2_giversOf_22 : decode (mc mX2_giversOf) 22 = .ok (.ifCond .eq 6, 3) := by decide +kernel
theorem dX2_giversOf_25 : decode (mc mX2_giversOf) 25 = .ok (.iinc 3 1, 3) := by decide +kernel
theorem dX2_giversOf_28 : decode (mc mX2_giversOf) 28 = .ok (.iinc 4 1, 3) := by decide +kernel
theorem dX2_giversOf_31 : decode (mc mX2_giversOf) 31 = .ok (.goto (-26), 3) := by decide +kernel
theorem dX2_giversOf_34 : decode (mc mX2_giversOf) 34 = .ok (.iload_n 3, 1) := by decide +kernel
theorem dX2_giversOf_35 : decode (mc mX2_giversOf) 35 = .ok (.ireturn, 1) := by decide +kernel
theorem dX2_gives_0 : decode (mc mX2_gives) 0 = .ok (.iconst 0, 1) := by decide +kernel
theorem dX2_gives_1 : decode (mc mX2_gives) 1 = .ok (.istore 4, 2) := by decide +kernel
theorem dX2_gives_3 : decode (mc mX2_gives) 3 = .ok (.iload 4, 2) := by decide +kernel
theorem dX2_gives_5 : decode (mc mX2_gives) 5 = .ok (.aload_n 0, 1) := by decide +kernel
theorem dX2_gives_6 : decode (mc mX2_gives) 6 = .ok (.invokevirtual 57, 3) := by decide +kernel
theorem dX2_gives_9 : decode (mc mX2_gives) 9 = .ok (.if_icmp .ge 41, 3) := by decide +kernel
theorem dX2_gives_12 : decode (mc mX2_gives) 12 = .ok (.aload_n 0, 1) := by decide +kernel
theorem dX2_gives_13 : decode (mc mX2_gives) 13 = .ok (.iload 4, 2) := by decide +kernel
theorem dX2_gives_15 : decode (mc mX2_gives) 15 = .ok (.invokevirtual 83, 3) := by decide +kernel
theorem dX2_gives_18 : decode (mc mX2_gives) 18 = .ok (.iload_n 1, 1) := by decide +kernel
theorem dX2_gives_19 : decode (mc mX2_gives) 19 = .ok (.if_icmp .ne 25, 3) := by decide +kernel
theorem dX2_gives_22 : decode (mc mX2_gives) 22 = .ok (.aload_n 0, 1) := by decide +kernel
theorem dX2_gives_23 : decode (mc mX2_gives) 23 = .ok (.iload 4, 2) := by decide +kernel
theorem dX2_gives_25 : decode (mc mX2_gives) 25 = .ok (.invokevirtual 149, 3) := by decide +kernel
theorem dX2_gives_28 : decode (mc mX2_gives) 28 = .ok (.iload_n 2, 1) := by decide +kernel
theorem dX2_gives_29 : decode (mc mX2_gives) 29 = .ok (.if_icmp .ne 15, 3) := by decide +kernel
theorem dX2_gives_32 : decode (mc mX2_gives) 32 = .ok (.aload_n 0, 1) := by decide +kernel
theorem dX2_gives_33 : decode (mc mX2_gives) 33 = .ok (.iload 4, 2) := by decide +kernel
theorem dX2_gives_35 : decode (mc mX2_gives) 35 = .ok (.aload_n 3, 1) := by decide +kernel
theorem dX2_gives_36 : decode (mc mX2_gives) 36 = .ok (.invokevirtual 145, 3) := by decide +kernel
theorem dX2_gives_39 : decode (mc mX2_gives) 39 = .ok (.ifCond .eq 5, 3) := by decide +kernel
theorem dX2_gives_42 : decode (mc mX2_gives) 42 = .ok (.iconst 1, 1) := by decide +kernel
theorem dX2_gives_43 : decode (mc mX2_gives) 43 = .ok (.ireturn, 1) := by decide +kernel
theorem dX2_gives_44 : decode (mc mX2_gives) 44 = .ok (.iinc 4 1, 3) := by decide +kernel
theorem dX2_gives_47 : decode (mc mX2_gives) 47 = .ok (.goto (-44), 3) := by decide +kernel
theorem dX2_gives_50 : decode (mc mX2_gives) 50 = .ok (.iconst 0, 1) := by decide +kernel
theorem dX2_gives_51 : decode (mc mX2_gives) 51 = .ok (.ireturn, 1) := by decide +kernel
theorem dX2_feeFor_0 : decode (mc mX2_feeFor) 0 = .ok (.aload_n 0, 1) := by decide +kernel
theorem dX2_feeFor_1 : decode (mc mX2_feeFor) 1 = .ok (.iload_n 2, 1) := by decide +kernel
theorem dX2_feeFor_2 : decode (mc mX2_feeFor) 2 = .ok (.invokevirtual 83, 3) := by decide +kernel
theorem dX2_feeFor_5 : decode (mc mX2_feeFor) 5 = .ok (.istore 4, 2) := by decide +kernel
theorem dX2_feeFor_7 : decode (mc mX2_feeFor) 7 = .ok (.iload 4, 2) := by decide +kernel
theorem dX2_feeFor_9 : decode (mc mX2_feeFor) 9 = .ok (.iload_n 1, 1) := by decide +kernel
theorem dX2_feeFor_10 : decode (mc mX2_feeFor) 10 = .ok (.if_icmp .ne 7, 3) := by decide +kernel
theorem dX2_feeFor_13 : decode (mc mX2_feeFor) 13 = .ok (.iconst 0, 1) := by decide +kernel
theorem dX2_feeFor_14 : decode (mc mX2_feeFor) 14 = .ok (.goto 14, 3) := by decide +kernel
theorem dX2_feeFor_17 : decode (mc mX2_feeFor) 17 = .ok (.aload_n 0, 1) := by decide +kernel
theorem dX2_feeFor_18 : decode (mc mX2_feeFor) 18 = .ok (.iload 4, 2) := by decide +kernel
theorem dX2_feeFor_20 : decode (mc mX2_feeFor) 20 = .ok (.invokevirtual 160, 3) := by decide +kernel
theorem dX2_feeFor_23 : decode (mc mX2_feeFor) 23 = .ok (.iload_n 3, 1) := by decide +kernel
theorem dX2_feeFor_24 : decode (mc mX2_feeFor) 24 = .ok (.imul, 1) := by decide +kernel
theorem dX2_feeFor_25 : decode (mc mX2_feeFor) 25 = .ok (.bipush 100, 2) := by decide +kernel
theorem dX2_feeFor_27 : decode (mc mX2_feeFor) 27 = .ok (.idiv, 1) := by decide +kernel
theorem dX2_feeFor_28 : decode (mc mX2_feeFor) 28 = .ok (.ireturn, 1) := by decide +kernel
theorem dX2_noteProperty_0 : decode (mc mX2_noteProperty) 0 = .ok (.aload_n 0, 1) := by decide +kernel
theorem dX2_noteProperty_1 : decode (mc mX2_noteProperty) 1 = .ok (.iload_n 1, 1) := by decide +kernel
theorem dX2_noteProperty_2 : decode (mc mX2_noteProperty) 2 = .ok (.iload_n 2, 1) := by decide +kernel
theorem dX2_noteProperty_3 : decode (mc mX2_noteProperty) 3 = .ok (.invokestatic 163, 3) := by decide +kernel
theorem dX2_noteProperty_6 : decode (mc mX2_noteProperty) 6 = .ok (.invokevirtual 45, 3) := by decide +kernel
theorem dX2_noteProperty_9 : decode (mc mX2_noteProperty) 9 = .ok (.ireturn, 1) := by decide +kernel
theorem dX2_isPaidBack_0 : decode (mc mX2_isPaidBack) 0 = .ok (.aload_n 0, 1) := by decide +kernel
theorem dX2_isPaidBack_1 : decode (mc mX2_isPaidBack) 1 = .ok (.iload_n 1, 1) := by decide +kernel
theorem dX2_isPaidBack_2 : decode (mc mX2_isPaidBack) 2 = .ok (.iconst 5, 1) := by decide +kernel
theorem dX2_isPaidBack_3 : decode (mc mX2_isPaidBack) 3 = .ok (.invokestatic 163, 3) := by decide +kernel
theorem dX2_isPaidBack_6 : decode (mc mX2_isPaidBack) 6 = .ok (.invokevirtual 45, 3) := by decide +kernel
theorem dX2_isPaidBack_9 : decode (mc mX2_isPaidBack) 9 = .ok (.iconst 1, 1) := by decide +kernel
theorem dX2_isPaidBack_10 : decode (mc mX2_isPaidBack) 10 = .ok (.if_icmp .ne 7, 3) := by decide +kernel
theorem dX2_isPaidBack_13 : decode (mc mX2_isPaidBack) 13 = .ok (.iconst 1, 1) := by decide +kernel
theorem dX2_isPaidBack_14 : decode (mc mX2_isPaidBack) 14 = .ok (.goto 4, 3) := by decide +kernel
theorem dX2_isPaidBack_17 : decode (mc mX2_isPaidBack) 17 = .ok (.iconst 0, 1) := by decide +kernel
theorem dX2_isPaidBack_18 : decode (mc mX2_isPaidBack) 18 = .ok (.ireturn, 1) := by decide +kernel
theorem dX2_startNote_0 : decode (mc mX2_startNote) 0 = .ok (.aload_n 0, 1) := by decide +kernel
theorem dX2_startNote_1 : decode (mc mX2_startNote) 1 = .ok (.iconst 2, 1) := by decide +kernel
theorem dX2_startNote_2 : decode (mc mX2_startNote) 2 = .ok (.invokevirtual 45, 3) := by decide +kernel
theorem dX2_startNote_5 : decode (mc mX2_startNote) 5 = .ok (.istore 4, 2) := by decide +kernel
theorem dX2_startNote_7 : decode (mc mX2_startNote) 7 = .ok (.aload_n 0, 1) := by decide +kernel
theorem dX2_startNote_8 : decode (mc mX2_startNote) 8 = .ok (.iconst 2, 1) := by decide +kernel
theorem dX2_startNote_9 : decode (mc mX2_startNote) 9 = .ok (.iconst 1, 1) := by decide +kernel
theorem dX2_startNote_10 : decode (mc mX2_startNote) 10 = .ok (.invokevirtual 63, 3) := by decide +kernel
theorem dX2_startNote_13 : decode (mc mX2_startNote) 13 = .ok (.aload_n 0, 1) := by decide +kernel
theorem dX2_startNote_14 : decode (mc mX2_startNote) 14 = .ok (.iload 4, 2) := by decide +kernel
theorem dX2_startNote_16 : decode (mc mX2_startNote) 16 = .ok (.iconst 0, 1) := by decide +kernel
theorem dX2_startNote_17 : decode (mc mX2_startNote) 17 = .ok (.invokestatic 163, 3) := by decide +kernel
theorem dX2_startNote_20 : decode (mc mX2_startNote) 20 = .ok (.iload_n 1, 1) := by decide +kernel
theorem dX2_startNote_21 : decode (mc mX2_startNote) 21 = .ok (.invokevirtual 49, 3) := by decide +kernel
theorem dX2_startNote_24 : decode (mc mX2_startNote) 24 = .ok (.aload_n 0, 1) := by decide +kernel
theorem dX2_startNote_25 : decode (mc mX2_startNote) 25 = .ok (.iload 4, 2) := by decide +kernel
theorem dX2_startNote_27 : decode (mc mX2_startNote) 27 = .ok (.iconst 1, 1) := by decide +kernel
theorem dX2_startNote_28 : decode (mc mX2_startNote) 28 = .ok (.invokestatic 163, 3) := by decide +kernel
theorem dX2_startNote_31 : decode (mc mX2_startNote) 31 = .ok (.iload_n 2, 1) := by decide +kernel
theorem dX2_startNote_32 : decode (mc mX2_startNote) 32 = .ok (.invokevirtual 49, 3) := by decide +kernel
theorem dX2_startNote_35 : decode (mc mX2_startNote) 35 = .ok (.aload_n 0, 1) := by decide +kernel
theorem dX2_startNote_36 : decode (mc mX2_startNote) 36 = .ok (.iload 4, 2) := by decide +kernel
theorem dX2_startNote_38 : decode (mc mX2_startNote) 38 = .ok (.iconst 2, 1) := by decide +kernel
theorem dX2_startNote_39 : decode (mc mX2_startNote) 39 = .ok (.invokestatic 163, 3) := by decide +kernel
theorem dX2_startNote_42 : decode (mc mX2_startNote) 42 = .ok (.iload_n 3, 1) := by decide +kernel
theorem dX2_startNote_43 : decode (mc mX2_startNote) 43 = .ok (.invokevirtual 49, 3) := by decide +kernel
theorem dX2_startNote_46 : decode (mc mX2_startNote) 46 = .ok (.aload_n 0, 1) := by decide +kernel
theorem dX2_startNote_47 : decode (mc mX2_startNote) 47 = .ok (.iload 4, 2) := by decide +kernel
theorem dX2_startNote_49 : decode (mc mX2_startNote) 49 = .ok (.iconst 3, 1) := by decide +kernel
theorem dX2_startNote_50 : decode (mc mX2_startNote) 50 = .ok (.invokestatic 163, 3) := by decide +kernel
theorem dX2_startNote_53 : decode (mc mX2_startNote) 53 = .ok (.aload_n 0, 1) := by decide +kernel
theorem dX2_startNote_54 : decode (mc mX2_startNote) 54 = .ok (.iload_n 1, 1) := by decide +kernel
theorem dX2_startNote_55 : decode (mc mX2_startNote) 55 = .ok (.iload_n 2, 1) := by decide +kernel
theorem dX2_startNote_56 : decode (mc mX2_startNote) 56 = .ok (.iload_n 3, 1) := by decide +kernel
theorem dX2_startNote_57 : decode (mc mX2_startNote) 57 = .ok (.invokevirtual 166, 3) := by decide +kernel
theorem dX2_startNote_60 : decode (mc mX2_startNote) 60 = .ok (.invokevirtual 49, 3) := by decide +kernel
theorem dX2_startNote_63 : decode (mc mX2_startNote) 63 = .ok (.aload_n 0, 1) := by decide +kernel
theorem dX2_startNote_64 : decode (mc mX2_startNote) 64 = .ok (.iload 4, 2) := by decide +kernel
theorem dX2_startNote_66 : decode (mc mX2_startNote) 66 = .ok (.iconst 4, 1) := by decide +kernel
theorem dX2_startNote_67 : decode (mc mX2_startNote) 67 = .ok (.invokestatic 163, 3) := by decide +kernel
theorem dX2_startNote_70 : decode (mc mX2_startNote) 70 = .ok (.aload_n 0, 1) := by decide +kernel
theorem dX2_startNote_71 : decode (mc mX2_startNote) 71 = .ok (.invokevirtual 98, 3) := by decide +kernel
theorem dX2_startNote_74 : decode (mc mX2_startNote) 74 = .ok (.invokevirtual 49, 3) := by decide +kernel
theorem dX2_startNote_77 : decode (mc mX2_startNote) 77 = .ok (.aload_n 0, 1) := by decide +kernel
theorem dX2_startNote_78 : decode (mc mX2_startNote) 78 = .ok (.iload 4, 2) := by decide +kernel
theorem dX2_startNote_80 : decode (mc mX2_startNote) 80 = .ok (.iconst 5, 1) := by decide +kernel
theorem dX2_startNote_81 : decode (mc mX2_startNote) 81 = .ok (.invokestatic 163, 3) := by decide +kernel
theorem dX2_startNote_84 : decode (mc mX2_startNote) 84 = .ok (.iconst 0, 1) := by decide +kernel
theorem dX2_startNote_85 : decode (mc mX2_startNote) 85 = .ok (.invokevirtual 49, 3) := by decide +kernel
theorem dX2_startNote_88 : decode (mc mX2_startNote) 88 = .ok (.aload_n 0, 1) := by decide +kernel
theorem dX2_startNote_89 : decode (mc mX2_startNote) 89 = .ok (.iload 4, 2) := by decide +kernel
theorem dX2_startNote_91 : decode (mc mX2_startNote) 91 = .ok (.invokevirtual 170, 3) := by decide +kernel
theorem dX2_startNote_94 : decode (mc mX2_startNote) 94 = .ok (.aload_n 0, 1) := by decide +kernel
theorem dX2_startNote_95 : decode (mc mX2_startNote) 95 = .ok (.iload 4, 2) := by decide +kernel
theorem dX2_startNote_97 : decode (mc mX2_startNote) 97 = .ok (.iconst 1, 1) := by decide +kernel
theorem dX2_startNote_98 : decode (mc mX2_startNote) 98 = .ok (.invokevirtual 173, 3) := by decide +kernel
theorem dX2_startNote_101 : decode (mc mX2_startNote) 101 = .ok (.aload_n 0, 1) := by decide +kernel
theorem dX2_startNote_102 : decode (mc mX2_startNote) 102 = .ok (.iload_n 2, 1) := by decide +kernel
theorem dX2_startNote_103 : decode (mc mX2_startNote) 103 = .ok (.iconst 5, 1) := by decide +kernel
theorem dX2_startNote_104 : decode (mc mX2_startNote) 104 = .ok (.invokestatic 110, 3) := by decide +kernel
theorem dX2_startNote_107 : decode (mc mX2_startNote) 107 = .ok (.iconst 1, 1) := by decide +kernel
theorem dX2_startNote_108 : decode (mc mX2_startNote) 108 = .ok (.invokevirtual 63, 3) := by decide +kernel
theorem dX2_startNote_111 : decode (mc mX2_startNote) 111 = .ok (.iload 4, 2) := by decide +kernel
theorem dX2_startNote_113 : decode (mc mX2_startNote) 113 = .ok (.ireturn, 1) := by decide +kernel
theorem dX2_splitFee_0 : decode (mc mX2_splitFee) 0 = .ok (.iconst 0, 1) := by decide +kernel
theorem dX2_splitFee_1 : decode (mc mX2_splitFee) 1 = .ok (.istore_n 2, 1) := by decide +kernel
theorem dX2_splitFee_2 : decode (mc mX2_splitFee) 2 = .ok (.iload_n 2, 1) := by decide +kernel
theorem dX2_splitFee_3 : decode (mc mX2_splitFee) 3 = .ok (.bipush 6, 2) := by decide +kernel
theorem dX2_splitFee_5 : decode (mc mX2_splitFee) 5 = .ok (.if_icmp .ge 22, 3) := by decide +kernel
theorem dX2_splitFee_8 : decode (mc mX2_splitFee) 8 = .ok (.aload_n 0, 1) := by decide +kernel
theorem dX2_splitFee_9 : decode (mc mX2_splitFee) 9 = .ok (.iload_n 1, 1) := by decide +kernel
theorem dX2_splitFee_10 : decode (mc mX2_splitFee) 10 = .ok (.bipush 7, 2) := by decide +kernel
theorem dX2_splitFee_12 : decode (mc mX2_splitFee) 12 = .ok (.iload_n 2, 1) := by decide +kernel
theorem dX2_splitFee_13 : decode (mc mX2_splitFee) 13 = .ok (.iadd, 1) := by decide +kernel
theorem dX2_splitFee_14 : decode (mc mX2_splitFee) 14 = .ok (.invokestatic 163, 3) := by decide +kernel
theorem dX2_splitFee_17 : decode (mc mX2_splitFee) 17 = .ok (.iconst 0, 1) := by decide +kernel
theorem dX2_splitFee_18 : decode (mc mX2_splitFee) 18 = .ok (.invokevirtual 49, 3) := by decide +kernel
theorem dX2_splitFee_21 : decode (mc mX2_splitFee) 21 = .ok (.iinc 2 1, 3) := by decide +kernel
theorem dX2_splitFee_24 : decode (mc mX2_splitFee) 24 = .ok (.goto (-22), 3) := by decide +kernel
theorem dX2_splitFee_27 : decode (mc mX2_splitFee) 27 = .ok (.aload_n 0, 1) := by decide +kernel
theorem dX2_splitFee_28 : decode (mc mX2_splitFee) 28 = .ok (.iload_n 1, 1) := by decide +kernel
theorem dX2_splitFee_29 : decode (mc mX2_splitFee) 29 = .ok (.iconst 3, 1) := by decide +kernel
theorem dX2_splitFee_30 : decode (mc mX2_splitFee) 30 = .ok (.invokevirtual 86, 3) := by decide +kernel
theorem dX2_splitFee_33 : decode (mc mX2_splitFee) 33 = .ok (.aload_n 0, 1) := by decide +kernel
theorem dX2_splitFee_34 : decode (mc mX2_splitFee) 34 = .ok (.iconst 1, 1) := by decide +kernel
theorem dX2_splitFee_35 : decode (mc mX2_splitFee) 35 = .ok (.invokevirtual 104, 3) := by decide +kernel
theorem dX2_splitFee_38 : decode (mc mX2_splitFee) 38 = .ok (.imul, 1) := by decide +kernel
theorem dX2_splitFee_39 : decode (mc mX2_splitFee) 39 = .ok (.bipush 100, 2) := by decide +kernel
theorem dX2_splitFee_41 : decode (mc mX2_splitFee) 41 = .ok (.idiv, 1) := by decide +kernel
theorem dX2_splitFee_42 : decode (mc mX2_splitFee) 42 = .ok (.istore_n 2, 1) := by decide +kernel
theorem dX2_splitFee_43 : decode (mc mX2_splitFee) 43 = .ok (.aload_n 0, 1) := by decide +kernel
theorem dX2_splitFee_44 : decode (mc mX2_splitFee) 44 = .ok (.iload_n 1, 1) := by decide +kernel
theorem dX2_splitFee_45 : decode (mc mX2_splitFee) 45 = .ok (.bipush 6, 2) := by decide +kernel
theorem dX2_splitFee_47 : decode (mc mX2_splitFee) 47 = .ok (.invokestatic 163, 3) := by decide +kernel
theorem dX2_splitFee_50 : decode (mc mX2_splitFee) 50 = .ok (.iload_n 2, 1) := by decide +kernel
theorem dX2_splitFee_51 : decode (mc mX2_splitFee) 51 = .ok (.invokevirtual 49, 3) := by decide +kernel
theorem dX2_splitFee_54 : decode (mc mX2_splitFee) 54 = .ok (.aload_n 0, 1) := by decide +kernel
theorem dX2_splitFee_55 : decode (mc mX2_splitFee) 55 = .ok (.iload_n 1, 1) := by decide +kernel
theorem dX2_splitFee_56 : decode (mc mX2_splitFee) 56 = .ok (.iconst 3, 1) := by decide +kernel
theorem dX2_splitFee_57 : decode (mc mX2_splitFee) 57 = .ok (.invokevirtual 86, 3) := by decide +kernel
theorem dX2_splitFee_60 : decode (mc mX2_splitFee) 60 = .ok (.iload_n 2, 1) := by decide +kernel
theorem dX2_splitFee_61 : decode (mc mX2_splitFee) 61 = .ok (.isub, 1) := by decide +kernel
theorem dX2_splitFee_62 : decode (mc mX2_splitFee) 62 = .ok (.istore_n 3, 1) := by decide +kernel
theorem dX2_splitFee_63 : decode (mc mX2_splitFee) 63 = .ok (.aload_n 0, 1) := by decide +kernel
theorem dX2_splitFee_64 : decode (mc mX2_splitFee) 64 = .ok (.iload_n 1, 1) := by decide +kernel
theorem dX2_splitFee_65 : decode (mc mX2_splitFee) 65 = .ok (.iconst 1, 1) := by decide +kernel
theorem dX2_splitFee_66 : decode (mc mX2_splitFee) 66 = .ok (.invokevirtual 86, 3) := by decide +kernel
theorem dX2_splitFee_69 : decode (mc mX2_splitFee) 69 = .ok (.istore 4, 2) := by decide +kernel
theorem dX2_splitFee_71 : decode (mc mX2_splitFee) 71 = .ok (.iconst 0, 1) := by decide +kernel
theorem dX2_splitFee_72 : decode (mc mX2_splitFee) 72 = .ok (.istore 5, 2) := by decide +kernel
theorem dX2_splitFee_74 : decode (mc mX2_splitFee) 74 = .ok (.iload 5, 2) := by decide +kernel
theorem dX2_splitFee_76 : decode (mc mX2_splitFee) 76 = .ok (.bipush 20, 2) := by decide +kernel
theorem dX2_splitFee_78 : decode (mc mX2_splitFee) 78 = .ok (.if_icmp .ge 75, 3) := by decide +kernel
theorem dX2_splitFee_81 : decode (mc mX2_splitFee) 81 = .ok (.iload 4, 2) := by decide +kernel
theorem dX2_splitFee_83 : decode (mc mX2_splitFee) 83 = .ok (.ldc 176, 2) := by decide +kernel
theorem dX2_splitFee_85 : decode (mc mX2_splitFee) 85 = .ok (.if_icmp .eq 68, 3) := by decide +kernel
theorem dX2_splitFee_88 : decode (mc mX2_splitFee) 88 = .ok (.aload_n 0, 1) := by decide +kernel
theorem dX2_splitFee_89 : decode (mc mX2_splitFee) 89 = .ok (.iload 4, 2) := by decide +kernel
theorem dX2_splitFee_91 : decode (mc mX2_splitFee) 91 = .ok (.invokevirtual 177, 3) := by decide +kernel
theorem dX2_splitFee_94 : decode (mc mX2_splitFee) 94 = .ok (.istore 6, 2) := by decide +kernel
theorem dX2_splitFee_96 : decode (mc mX2_splitFee) 96 = .ok (.iload 6, 2) := by decide +kernel
theorem dX2_splitFee_98 : decode (mc mX2_splitFee) 98 = .ok (.ldc 176, 2) := by decide +kernel
theorem dX2_splitFee_100 : decode (mc mX2_splitFee) 100 = .ok (.if_icmp .ne 7, 3) := by decide +kernel
theorem dX2_splitFee_103 : decode (mc mX2_splitFee) 103 = .ok (.iconst 0, 1) := by decide +kernel
theorem dX2_splitFee_104 : decode (mc mX2_splitFee) 104 = .ok (.goto 13, 3) := by decide +kernel
theorem dX2_splitFee_107 : decode (mc mX2_splitFee) 107 = .ok (.iload_n 3, 1) := by decide +kernel
theorem dX2_splitFee_108 : decode (mc mX2_splitFee) 108 = .ok (.aload_n 0, 1) := by decide +kernel
theorem dX2_splitFee_109 : decode (mc mX2_splitFee) 109 = .ok (.iconst 2, 1) := by decide +kernel
theorem dX2_splitFee_110 : decode (mc mX2_splitFee) 110 = .ok (.invokevirtual 104, 3) := by decide +kernel
theorem dX2_splitFee_113 : decode (mc mX2_splitFee) 113 = .ok (.imul, 1) := by decide +kernel
theorem dX2_splitFee_114 : decode (mc mX2_splitFee) 114 = .ok (.bipush 100, 2) := by decide +kernel
theorem dX2_splitFee_116 : decode (mc mX2_splitFee) 116 = .ok (.idiv, 1) := by decide +kernel
theorem dX2_splitFee_117 : decode (mc mX2_splitFee) 117 = .ok (.istore 7, 2) := by decide +kernel
theorem dX2_splitFee_119 : decode (mc mX2_splitFee) 119 = .ok (.aload_n 0, 1) := by decide +kernel
theorem dX2_splitFee_120 : decode (mc mX2_splitFee) 120 = .ok (.iload_n 1, 1) := by decide +kernel
theorem dX2_splitFee_121 : decode (mc mX2_splitFee) 121 = .ok (.bipush 7, 2) := by decide +kernel
theorem dX2_splitFee_123 : decode (mc mX2_splitFee) 123 = .ok (.aload_n 0, 1) := by decide +kernel
theorem dX2_splitFee_124 : decode (mc mX2_splitFee) 124 = .ok (.iload 4, 2) := by decide +kernel
theorem dX2_splitFee_126 : decode (mc mX2_splitFee) 126 = .ok (.invokevirtual 83, 3) := by decide +kernel
theorem dX2_splitFee_129 : decode (mc mX2_splitFee) 129 = .ok (.iadd, 1) := by decide +kernel
theorem dX2_splitFee_130 : decode (mc mX2_splitFee) 130 = .ok (.invokestatic 163, 3) := by decide +kernel
theorem dX2_splitFee_133 : decode (mc mX2_splitFee) 133 = .ok (.iload_n 3, 1) := by decide +kernel
theorem dX2_splitFee_134 : decode (mc mX2_splitFee) 134 = .ok (.iload 7, 2) := by decide +kernel
theorem dX2_splitFee_136 : decode (mc mX2_splitFee) 136 = .ok (.isub, 1) := by decide +kernel
theorem dX2_splitFee_137 : decode (mc mX2_splitFee) 137 = .ok (.invokevirtual 63, 3) := by decide +kernel
theorem dX2_splitFee_140 : decode (mc mX2_splitFee) 140 = .ok (.iload 7, 2) := by decide +kernel
theorem dX2_splitFee_142 : decode (mc mX2_splitFee) 142 = .ok (.istore_n 3, 1) := by decide +kernel
theorem dX2_splitFee_143 : decode (mc mX2_splitFee) 143 = .ok (.iload 6, 2) := by decide +kernel
theorem dX2_splitFee_145 : decode (mc mX2_splitFee) 145 = .ok (.istore 4, 2) := by decide +kernel
theorem dX2_splitFee_147 : decode (mc mX2_splitFee) 147 = .ok (.iinc 5 1, 3) := by decide +kernel
theorem dX2_splitFee_150 : decode (mc mX2_splitFee) 150 = .ok (.goto (-76), 3) := by decide +kernel
theorem dX2_splitFee_153 : decode (mc mX2_splitFee) 153 = .ok (.return_, 1) := by decide +kernel
theorem dX2_moveMoney_0 : decode (mc mX2_moveMoney) 0 = .ok (.aload_n 0, 1) := by decide +kernel
theorem dX2_moveMoney_1 : decode (mc mX2_moveMoney) 1 = .ok (.aload_n 0, 1) := by decide +kernel
theorem dX2_moveMoney_2 : decode (mc mX2_moveMoney) 2 = .ok (.iload_n 1, 1) := by decide +kernel
theorem dX2_moveMoney_3 : decode (mc mX2_moveMoney) 3 = .ok (.iconst 0, 1) := by decide +kernel
theorem dX2_moveMoney_4 : decode (mc mX2_moveMoney) 4 = .ok (.invokevirtual 86, 3) := by decide +kernel
theorem dX2_moveMoney_7 : decode (mc mX2_moveMoney) 7 = .ok (.iconst 1, 1) := by decide +kernel
theorem dX2_moveMoney_8 : decode (mc mX2_moveMoney) 8 = .ok (.invokestatic 66, 3) := by decide +kernel
theorem dX2_moveMoney_11 : decode (mc mX2_moveMoney) 11 = .ok (.iload_n 2, 1) := by decide +kernel
theorem dX2_moveMoney_12 : decode (mc mX2_moveMoney) 12 = .ok (.ineg, 1) := by decide +kernel
theorem dX2_moveMoney_13 : decode (mc mX2_moveMoney) 13 = .ok (.aload_n 0, 1) := by decide +kernel
theorem dX2_moveMoney_14 : decode (mc mX2_moveMoney) 14 = .ok (.iload_n 1, 1) := by decide +kernel
theorem dX2_moveMoney_15 : decode (mc mX2_moveMoney) 15 = .ok (.iconst 3, 1) := by decide +kernel
theorem dX2_moveMoney_16 : decode (mc mX2_moveMoney) 16 = .ok (.invokevirtual 86, 3) := by decide +kernel
theorem dX2_moveMoney_19 : decode (mc mX2_moveMoney) 19 = .ok (.imul, 1) := by decide +kernel
theorem dX2_moveMoney_20 : decode (mc mX2_moveMoney) 20 = .ok (.invokevirtual 63, 3) := by decide +kernel
theorem dX2_moveMoney_23 : decode (mc mX2_moveMoney) 23 = .ok (.aload_n 0, 1) := by decide +kernel
theorem dX2_moveMoney_24 : decode (mc mX2_moveMoney) 24 = .ok (.iconst 4, 1) := by decide +kernel
theorem dX2_moveMoney_25 : decode (mc mX2_moveMoney) 25 = .ok (.iload_n 2, 1) := by decide +kernel
theorem dX2_moveMoney_26 : decode (mc mX2_moveMoney) 26 = .ok (.aload_n 0, 1) := by decide +kernel
theorem dX2_moveMoney_27 : decode (mc mX2_moveMoney) 27 = .ok (.iload_n 1, 1) := by decide +kernel
theorem dX2_moveMoney_28 : decode (mc mX2_moveMoney) 28 = .ok (.bipush 6, 2) := by decide +kernel
theorem dX2_moveMoney_30 : decode (mc mX2_moveMoney) 30 = .ok (.invokevirtual 86, 3) := by decide +kernel
theorem dX2_moveMoney_33 : decode (mc mX2_moveMoney) 33 = .ok (.imul, 1) := by decide +kernel
theorem dX2_moveMoney_34 : decode (mc mX2_moveMoney) 34 = .ok (.invokevirtual 63, 3) := by decide +kernel
theorem dX2_moveMoney_37 : decode (mc mX2_moveMoney) 37 = .ok (.iconst 0, 1) := by decide +kernel
theorem dX2_moveMoney_38 : decode (mc mX2_moveMoney) 38 = .ok (.istore_n 3, 1) := by decide +kernel
theorem dX2_moveMoney_39 : decode (mc mX2_moveMoney) 39 = .ok (.iload_n 3, 1) := by decide +kernel
theorem dX2_moveMoney_40 : decode (mc mX2_moveMoney) 40 = .ok (.aload_n 0, 1) := by decide +kernel
theorem dX2_moveMoney_41 : decode (mc mX2_moveMoney) 41 = .ok (.invokevirtual 53, 3) := by decide +kernel
theorem dX2_moveMoney_44 : decode (mc mX2_moveMoney) 44 = .ok (.if_icmp .ge 29, 3) := by decide +kernel
theorem dX2_moveMoney_47 : decode (mc mX2_moveMoney) 47 = .ok (.aload_n 0, 1) := by decide +kernel
theorem dX2_moveMoney_48 : decode (mc mX2_moveMoney) 48 = .ok (.iload_n 3, 1) := by decide +kernel
theorem dX2_moveMoney_49 : decode (mc mX2_moveMoney) 49 = .ok (.iconst 1, 1) := by decide +kernel
theorem dX2_moveMoney_50 : decode (mc mX2_moveMoney) 50 = .ok (.invokestatic 66, 3) := by decide +kernel
theorem dX2_moveMoney_53 : decode (mc mX2_moveMoney) 53 = .ok (.iload_n 2, 1) := by decide +kernel
theorem dX2_moveMoney_54 : decode (mc mX2_moveMoney) 54 = .ok (.aload_n 0, 1) := by decide +kernel
theorem dX2_moveMoney_55 : decode (mc mX2_moveMoney) 55 = .ok (.iload_n 1, 1) := by decide +kernel
theorem dX2_moveMoney_56 : decode (mc mX2_moveMoney) 56 = .ok (.bipush 7, 2) := by decide +kernel
theorem dX2_moveMoney_58 : decode (mc mX2_moveMoney) 58 = .ok (.iload_n 3, 1) := by decide +kernel
theorem dX2_moveMoney_59 : decode (mc mX2_moveMoney) 59 = .ok (.iadd, 1) := by decide +kernel
theorem dX2_moveMoney_60 : decode (mc mX2_moveMoney) 60 = .ok (.invokevirtual 86, 3) := by decide +kernel
theorem dX2_moveMoney_63 : decode (mc mX2_moveMoney) 63 = .ok (.imul, 1) := by decide +kernel
theorem dX2_moveMoney_64 : decode (mc mX2_moveMoney) 64 = .ok (.invokevirtual 63, 3) := by decide +kernel
theorem dX2_moveMoney_67 : decode (mc mX2_moveMoney) 67 = .ok (.iinc 3 1, 3) := by decide +kernel
theorem dX2_moveMoney_70 : decode (mc mX2_moveMoney) 70 = .ok (.goto (-31), 3) := by decide +kernel
theorem dX2_moveMoney_73 : decode (mc mX2_moveMoney) 73 = .ok (.return_, 1) := by decide +kernel
theorem dX2_markEndings_0 : decode (mc mX2_markEndings) 0 = .ok (.iconst 0, 1) := by decide +kernel
theorem dX2_markEndings_1 : decode (mc mX2_markEndings) 1 = .ok (.istore_n 2, 1) := by decide +kernel
theorem dX2_markEndings_2 : decode (mc mX2_markEndings) 2 = .ok (.iload_n 2, 1) := by decide +kernel
theorem dX2_markEndings_3 : decode (mc mX2_markEndings) 3 = .ok (.bipush 20, 2) := by decide +kernel
theorem dX2_markEndings_5 : decode (mc mX2_markEndings) 5 = .ok (.if_icmp .ge 59, 3) := by decide +kernel
theorem dX2_markEndings_8 : decode (mc mX2_markEndings) 8 = .ok (.aload_n 0, 1) := by decide +kernel
theorem dX2_markEndings_9 : decode (mc mX2_markEndings) 9 = .ok (.getfield 15, 3) := by decide +kernel
theorem dX2_markEndings_12 : decode (mc mX2_markEndings) 12 = .ok (.iload_n 2, 1) := by decide +kernel
theorem dX2_markEndings_13 : decode (mc mX2_markEndings) 13 = .ok (.iload_n 2, 1) := by decide +kernel
theorem dX2_markEndings_14 : decode (mc mX2_markEndings) 14 = .ok (.iload_n 1, 1) := by decide +kernel
theorem dX2_markEndings_15 : decode (mc mX2_markEndings) 15 = .ok (.if_icmp .eq 37, 3) := by decide +kernel
theorem dX2_markEndings_18 : decode (mc mX2_markEndings) 18 = .ok (.iload_n 2, 1) := by decide +kernel
theorem dX2_markEndings_19 : decode (mc mX2_markEndings) 19 = .ok (.aload_n 0, 1) := by decide +kernel
theorem dX2_markEndings_20 : decode (mc mX2_markEndings) 20 = .ok (.invokevirtual 57, 3) := by decide +kernel
theorem dX2_markEndings_23 : decode (mc mX2_markEndings) 23 = .ok (.if_icmp .ge 33, 3) := by decide +kernel
theorem dX2_markEndings_26 : decode (mc mX2_markEndings) 26 = .ok (.aload_n 0, 1) := by decide +kernel
theorem dX2_markEndings_27 : decode (mc mX2_markEndings) 27 = .ok (.iload_n 2, 1) := by decide +kernel
theorem dX2_markEndings_28 : decode (mc mX2_markEndings) 28 = .ok (.invokevirtual 180, 3) := by decide +kernel
theorem dX2_markEndings_31 : decode (mc mX2_markEndings) 31 = .ok (.ifCond .eq 25, 3) := by decide +kernel
theorem dX2_markEndings_34 : decode (mc mX2_markEndings) 34 = .ok (.aload_n 0, 1) := by decide +kernel
theorem dX2_markEndings_35 : decode (mc mX2_markEndings) 35 = .ok (.iload_n 2, 1) := by decide +kernel
theorem dX2_markEndings_36 : decode (mc mX2_markEndings) 36 = .ok (.aload_n 0, 1) := by decide +kernel
theorem dX2_markEndings_37 : decode (mc mX2_markEndings) 37 = .ok (.iload_n 2, 1) := by decide +kernel
theorem dX2_markEndings_38 : decode (mc mX2_markEndings) 38 = .ok (.invokevirtual 177, 3) := by decide +kernel
theorem dX2_markEndings_41 : decode (mc mX2_markEndings) 41 = .ok (.invokevirtual 183, 3) := by decide +kernel
theorem dX2_markEndings_44 : decode (mc mX2_markEndings) 44 = .ok (.aload_n 0, 1) := by decide +kernel
theorem dX2_markEndings_45 : decode (mc mX2_markEndings) 45 = .ok (.iconst 4, 1) := by decide +kernel
theorem dX2_markEndings_46 : decode (mc mX2_markEndings) 46 = .ok (.invokevirtual 104, 3) := by decide +kernel
theorem dX2_markEndings_49 : decode (mc mX2_markEndings) 49 = .ok (.if_icmp .lt 7, 3) := by decide +kernel
theorem dX2_markEndings_52 : decode (mc mX2_markEndings) 52 = .ok (.iconst 1, 1) := by decide +kernel
theorem dX2_markEndings_53 : decode (mc mX2_markEndings) 53 = .ok (.goto 4, 3) := by decide +kernel
theorem dX2_markEndings_56 : decode (mc mX2_markEndings) 56 = .ok (.iconst 0, 1) := by decide +kernel
theorem dX2_markEndings_57 : decode (mc mX2_markEndings) 57 = .ok (.bastore, 1) := by decide +kernel
theorem dX2_markEndings_58 : decode (mc mX2_markEndings) 58 = .ok (.iinc 2 1, 3) := by decide +kernel
theorem dX2_markEndings_61 : decode (mc mX2_markEndings) 61 = .ok (.goto (-59), 3) := by decide +kernel
theorem dX2_markEndings_64 : decode (mc mX2_markEndings) 64 = .ok (.return_, 1) := by decide +kernel
theorem dX2_isMarked_0 : decode (mc mX2_isMarked) 0 = .ok (.iload_n 1, 1) := by decide +kernel
theorem dX2_isMarked_1 : decode (mc mX2_isMarked) 1 = .ok (.ifCond .lt 22, 3) := by decide +kernel
theorem dX2_isMarked_4 : decode (mc mX2_isMarked) 4 = .ok (.iload_n 1, 1) := by decide +kernel
theorem dX2_isMarked_5 : decode (mc mX2_isMarked) 5 = .ok (.bipush 20, 2) := by decide +kernel
theorem dX2_isMarked_7 : decode (mc mX2_isMarked) 7 = .ok (.if_icmp .ge 16, 3) := by decide +kernel
theorem dX2_isMarked_10 : decode (mc mX2_isMarked) 10 = .ok (.aload_n 0, 1) := by decide +kernel
theorem dX2_isMarked_11 : decode (mc mX2_isMarked) 11 = .ok (.getfield 15, 3) := by decide +kernel
theorem dX2_isMarked_14 : decode (mc mX2_isMarked) 14 = .ok (.iload_n 1, 1) := by decide +kernel
theorem dX2_isMarked_15 : decode (mc mX2_isMarked) 15 = .ok (.baload, 1) := by decide +kernel
theorem dX2_isMarked_16 : decode (mc mX2_isMarked) 16 = .ok (.ifCond .eq 7, 3) := by decide +kernel
theorem dX2_isMarked_19 : decode (mc mX2_isMarked) 19 = .ok (.iconst 1, 1) := by decide +kernel
theorem dX2_isMarked_20 : decode (mc mX2_isMarked) 20 = .ok (.goto 4, 3) := by decide +kernel
theorem dX2_isMarked_23 : decode (mc mX2_isMarked) 23 = .ok (.iconst 0, 1) := by decide +kernel
theorem dX2_isMarked_24 : decode (mc mX2_isMarked) 24 = .ok (.ireturn, 1) := by decide +kernel
theorem dX2_hasMarkedParent_0 : decode (mc mX2_hasMarkedParent) 0 = .ok (.aload_n 0, 1) := by decide +kernel
theorem dX2_hasMarkedParent_1 : decode (mc mX2_hasMarkedParent) 1 = .ok (.iload_n 1, 1) := by decide +kernel
theorem dX2_hasMarkedParent_2 : decode (mc mX2_hasMarkedParent) 2 = .ok (.invokevirtual 79, 3) := by decide +kernel
theorem dX2_hasMarkedParent_5 : decode (mc mX2_hasMarkedParent) 5 = .ok (.ifCond .eq 19, 3) := by decide +kernel
theorem dX2_hasMarkedParent_8 : decode (mc mX2_hasMarkedParent) 8 = .ok (.aload_n 0, 1) := by decide +kernel
theorem dX2_hasMarkedParent_9 : decode (mc mX2_hasMarkedParent) 9 = .ok (.aload_n 0, 1) := by decide +kernel
theorem dX2_hasMarkedParent_10 : decode (mc mX2_hasMarkedParent) 10 = .ok (.iload_n 1, 1) := by decide +kernel
theorem dX2_hasMarkedParent_11 : decode (mc mX2_hasMarkedParent) 11 = .ok (.invokevirtual 177, 3) := by decide +kernel
theorem dX2_hasMarkedParent_14 : decode (mc mX2_hasMarkedParent) 14 = .ok (.invokevirtual 186, 3) := by decide +kernel
theorem dX2_hasMarkedParent_17 : decode (mc mX2_hasMarkedParent) 17 = .ok (.ifCond .eq 7, 3) := by decide +kernel
theorem dX2_hasMarkedParent_20 : decode (mc mX2_hasMarkedParent) 20 = .ok (.iconst 1, 1) := by decide +kernel
theorem dX2_hasMarkedParent_21 : decode (mc mX2_hasMarkedParent) 21 = .ok (.goto 4, 3) := by decide +kernel
theorem dX2_hasMarkedParent_24 : decode (mc mX2_hasMarkedParent) 24 = .ok (.iconst 0, 1) := by decide +kernel
theorem dX2_hasMarkedParent_25 : decode (mc mX2_hasMarkedParent) 25 = .ok (.ireturn, 1) := by decide +kernel
theorem dX2_endMarked_0 : decode (mc mX2_endMarked) 0 = .ok (.iconst 0, 1) := by decide +kernel
theorem dX2_endMarked_1 : decode (mc mX2_endMarked) 1 = .ok (.istore_n 1, 1) := by decide +kernel
theorem dX2_endMarked_2 : decode (mc mX2_endMarked) 2 = .ok (.iconst 0, 1) := by decide +kernel
theorem dX2_endMarked_3 : decode (mc mX2_endMarked) 3 = .ok (.istore_n 2, 1) := by decide +kernel
theorem dX2_endMarked_4 : decode (mc mX2_endMarked) 4 = .ok (.iload_n 2, 1) := by decide +kernel
theorem dX2_endMarked_5 : decode (mc mX2_endMarked) 5 = .ok (.aload_n 0, 1) := by decide +kernel
theorem dX2_endMarked_6 : decode (mc mX2_endMarked) 6 = .ok (.invokevirtual 57, 3) := by decide +kernel
theorem dX2_endMarked_9 : decode (mc mX2_endMarked) 9 = .ok (.if_icmp .ge 52, 3) := by decide +kernel
theorem dX2_endMarked_12 : decode (mc mX2_endMarked) 12 = .ok (.aload_n 0, 1) := by decide +kernel
theorem dX2_endMarked_13 : decode (mc mX2_endMarked) 13 = .ok (.iload_n 2, 1) := by decide +kernel
theorem dX2_endMarked_14 : decode (mc mX2_endMarked) 14 = .ok (.invokevirtual 186, 3) := by decide +kernel
theorem dX2_endMarked_17 : decode (mc mX2_endMarked) 17 = .ok (.ifCond .eq 19, 3) := by decide +kernel
theorem dX2_endMarked_20 : decode (mc mX2_endMarked) 20 = .ok (.aload_n 0, 1) := by decide +kernel
theorem dX2_endMarked_21 : decode (mc mX2_endMarked) 21 = .ok (.iload_n 2, 1) := by decide +kernel
theorem dX2_endMarked_22 : decode (mc mX2_endMarked) 22 = .ok (.iconst 4, 1) := by decide +kernel
theorem dX2_endMarked_23 : decode (mc mX2_endMarked) 23 = .ok (.invokestatic 110, 3) := by decide +kernel
theorem dX2_endMarked_26 : decode (mc mX2_endMarked) 26 = .ok (.iconst 0, 1) := by decide +kernel
theorem dX2_endMarked_27 : decode (mc mX2_endMarked) 27 = .ok (.invokevirtual 49, 3) := by decide +kernel
theorem dX2_endMarked_30 : decode (mc mX2_endMarked) 30 = .ok (.iinc 1 1, 3) := by decide +kernel
theorem dX2_endMarked_33 : decode (mc mX2_endMarked) 33 = .ok (.goto 22, 3) := by decide +kernel
theorem dX2_endMarked_36 : decode (mc mX2_endMarked) 36 = .ok (.aload_n 0, 1) := by decide +kernel
theorem dX2_endMarked_37 : decode (mc mX2_endMarked) 37 = .ok (.iload_n 2, 1) := by decide +kernel
theorem dX2_endMarked_38 : decode (mc mX2_endMarked) 38 = .ok (.invokevirtual 180, 3) := by decide +kernel
theorem dX2_endMarked_41 : decode (mc mX2_endMarked) 41 = .ok (.ifCond .eq 14, 3) := by decide +kernel
theorem dX2_endMarked_44 : decode (mc mX2_endMarked) 44 = .ok (.aload_n 0, 1) := by decide +kernel
theorem dX2_endMarked_45 : decode (mc mX2_endMarked) 45 = .ok (.iload_n 2, 1) := by decide +kernel
theorem dX2_endMarked_46 : decode (mc mX2_endMarked) 46 = .ok (.iconst 3, 1) := by decide +kernel
theorem dX2_endMarked_47 : decode (mc mX2_endMarked) 47 = .ok (.invokestatic 110, 3) := by decide +kernel
theorem dX2_endMarked_50 : decode (mc mX2_endMarked) 50 = .ok (.ldc 176, 2) := by decide +kernel
theorem dX2_endMarked_52 : decode (mc mX2_endMarked) 52 = .ok (.invokevirtual 49, 3) := by decide +kernel
theorem dX2_endMarked_55 : decode (mc mX2_endMarked) 55 = .ok (.iinc 2 1, 3) := by decide +kernel
theorem dX2_endMarked_58 : decode (mc mX2_endMarked) 58 = .ok (.goto (-54), 3) := by decide +kernel
theorem dX2_endMarked_61 : decode (mc mX2_endMarked) 61 = .ok (.iload_n 1, 1) := by decide +kernel
theorem dX2_endMarked_62 : decode (mc mX2_endMarked) 62 = .ok (.ireturn, 1) := by decide +kernel
theorem dX2_isOwed_0 : decode (mc mX2_isOwed) 0 = .ok (.aload_n 0, 1) := by decide +kernel
theorem dX2_isOwed_1 : decode (mc mX2_isOwed) 1 = .ok (.iload_n 1, 1) := by decide +kernel
theorem dX2_isOwed_2 : decode (mc mX2_isOwed) 2 = .ok (.invokevirtual 89, 3) := by decide +kernel
theorem dX2_isOwed_5 : decode (mc mX2_isOwed) 5 = .ok (.ifCond .ne 39, 3) := by decide +kernel
theorem dX2_isOwed_8 : decode (mc mX2_isOwed) 8 = .ok (.aload_n 0, 1) := by decide +kernel
theorem dX2_isOwed_9 : decode (mc mX2_isOwed) 9 = .ok (.aload_n 0, 1) := by decide +kernel
theorem dX2_isOwed_10 : decode (mc mX2_isOwed) 10 = .ok (.iload_n 1, 1) := by decide +kernel
theorem dX2_isOwed_11 : decode (mc mX2_isOwed) 11 = .ok (.iconst 1, 1) := by decide +kernel
theorem dX2_isOwed_12 : decode (mc mX2_isOwed) 12 = .ok (.invokevirtual 86, 3) := by decide +kernel
theorem dX2_isOwed_15 : decode (mc mX2_isOwed) 15 = .ok (.invokevirtual 186, 3) := by decide +kernel
theorem dX2_isOwed_18 : decode (mc mX2_isOwed) 18 = .ok (.ifCond .eq 26, 3) := by decide +kernel
theorem dX2_isOwed_21 : decode (mc mX2_isOwed) 21 = .ok (.aload_n 0, 1) := by decide +kernel
theorem dX2_isOwed_22 : decode (mc mX2_isOwed) 22 = .ok (.iload_n 1, 1) := by decide +kernel
theorem dX2_isOwed_23 : decode (mc mX2_isOwed) 23 = .ok (.iconst 4, 1) := by decide +kernel
theorem dX2_isOwed_24 : decode (mc mX2_isOwed) 24 = .ok (.invokevirtual 86, 3) := by decide +kernel
theorem dX2_isOwed_27 : decode (mc mX2_isOwed) 27 = .ok (.aload_n 0, 1) := by decide +kernel
theorem dX2_isOwed_28 : decode (mc mX2_isOwed) 28 = .ok (.invokevirtual 98, 3) := by decide +kernel
theorem dX2_isOwed_31 : decode (mc mX2_isOwed) 31 = .ok (.aload_n 0, 1) := by decide +kernel
theorem dX2_isOwed_32 : decode (mc mX2_isOwed) 32 = .ok (.iconst 3, 1) := by decide +kernel
theorem dX2_isOwed_33 : decode (mc mX2_isOwed) 33 = .ok (.invokevirtual 104, 3) := by decide +kernel
theorem dX2_isOwed_36 : decode (mc mX2_isOwed) 36 = .ok (.isub, 1) := by decide +kernel
theorem dX2_isOwed_37 : decode (mc mX2_isOwed) 37 = .ok (.if_icmp .lt 7, 3) := by decide +kernel
theorem dX2_isOwed_40 : decode (mc mX2_isOwed) 40 = .ok (.iconst 1, 1) := by decide +kernel
theorem dX2_isOwed_41 : decode (mc mX2_isOwed) 41 = .ok (.goto 4, 3) := by decide +kernel
theorem dX2_isOwed_44 : decode (mc mX2_isOwed) 44 = .ok (.iconst 0, 1) := by decide +kernel
theorem dX2_isOwed_45 : decode (mc mX2_isOwed) 45 = .ok (.ireturn, 1) := by decide +kernel
theorem dX2_owedForMarked_0 : decode (mc mX2_owedForMarked) 0 = .ok (.iconst 0, 1) := by decide +kernel
theorem dX2_owedForMarked_1 : decode (mc mX2_owedForMarked) 1 = .ok (.istore_n 1, 1) := by decide +kernel
theorem dX2_owedForMarked_2 : decode (mc mX2_owedForMarked) 2 = .ok (.iconst 0, 1) := by decide +kernel
theorem dX2_owedForMarked_3 : decode (mc mX2_owedForMarked) 3 = .ok (.istore_n 2, 1) := by decide +kernel
theorem dX2_owedForMarked_4 : decode (mc mX2_owedForMarked) 4 = .ok (.iload_n 2, 1) := by decide +kernel
theorem dX2_owedForMarked_5 : decode (mc mX2_owedForMarked) 5 = .ok (.aload_n 0, 1) := by decide +kernel
theorem dX2_owedForMarked_6 : decode (mc mX2_owedForMarked) 6 = .ok (.invokevirtual 60, 3) := by decide +kernel
theorem dX2_owedForMarked_9 : decode (mc mX2_owedForMarked) 9 = .ok (.if_icmp .ge 26, 3) := by decide +kernel
theorem dX2_owedForMarked_12 : decode (mc mX2_owedForMarked) 12 = .ok (.aload_n 0, 1) := by decide +kernel
theorem dX2_owedForMarked_13 : decode (mc mX2_owedForMarked) 13 = .ok (.iload_n 2, 1) := by decide +kernel
theorem dX2_owedForMarked_14 : decode (mc mX2_owedForMarked) 14 = .ok (.invokevirtual 189, 3) := by decide +kernel
theorem dX2_owedForMarked_17 : decode (mc mX2_owedForMarked) 17 = .ok (.ifCond .eq 12, 3) := by decide +kernel
theorem dX2_owedForMarked_20 : decode (mc mX2_owedForMarked) 20 = .ok (.iload_n 1, 1) := by decide +kernel
theorem dX2_owedForMarked_21 : decode (mc mX2_owedForMarked) 21 = .ok (.aload_n 0, 1) := by decide +kernel
theorem dX2_owedForMarked_22 : decode (mc mX2_owedForMarked) 22 = .ok (.iload_n 2, 1) := by decide +kernel
theorem dX2_owedForMarked_23 : decode (mc mX2_owedForMarked) 23 = .ok (.iconst 3, 1) := by decide +kernel
theorem dX2_owedForMarked_24 : decode (mc mX2_owedForMarked) 24 = .ok (.invokevirtual 86, 3) := by decide +kernel
theorem dX2_owedForMarked_27 : decode (mc mX2_owedForMarked) 27 = .ok (.iadd, 1) := by decide +kernel
theorem dX2_owedForMarked_28 : decode (mc mX2_owedForMarked) 28 = .ok (.istore_n 1, 1) := by decide +kernel
theorem dX2_owedForMarked_29 : decode (mc mX2_owedForMarked) 29 = .ok (.iinc 2 1, 3) := by decide +kernel
theorem dX2_owedForMarked_32 : decode (mc mX2_owedForMarked) 32 = .ok (.goto (-28), 3) := by decide +kernel
theorem dX2_owedForMarked_35 : decode (mc mX2_owedForMarked) 35 = .ok (.iload_n 1, 1) := by decide +kernel
theorem dX2_owedForMarked_36 : decode (mc mX2_owedForMarked) 36 = .ok (.ireturn, 1) := by decide +kernel
theorem dX2_payBackMarked_0 : decode (mc mX2_payBackMarked) 0 = .ok (.iconst 0, 1) := by decide +kernel
theorem dX2_payBackMarked_1 : decode (mc mX2_payBackMarked) 1 = .ok (.istore_n 1, 1) := by decide +kernel
theorem dX2_payBackMarked_2 : decode (mc mX2_payBackMarked) 2 = .ok (.iload_n 1, 1) := by decide +kernel
theorem dX2_payBackMarked_3 : decode (mc mX2_payBackMarked) 3 = .ok (.aload_n 0, 1) := by decide +kernel
theorem dX2_payBackMarked_4 : decode (mc mX2_payBackMarked) 4 = .ok (.invokevirtual 60, 3) := by decide +kernel
theorem dX2_payBackMarked_7 : decode (mc mX2_payBackMarked) 7 = .ok (.if_icmp .ge 33, 3) := by decide +kernel
theorem dX2_payBackMarked_10 : decode (mc mX2_payBackMarked) 10 = .ok (.aload_n 0, 1) := by decide +kernel
theorem dX2_payBackMarked_11 : decode (mc mX2_payBackMarked) 11 = .ok (.iload_n 1, 1) := by decide +kernel
theorem dX2_payBackMarked_12 : decode (mc mX2_payBackMarked) 12 = .ok (.invokevirtual 189, 3) := by decide +kernel
theorem dX2_payBackMarked_15 : decode (mc mX2_payBackMarked) 15 = .ok (.ifCond .eq 19, 3) := by decide +kernel
theorem dX2_payBackMarked_18 : decode (mc mX2_payBackMarked) 18 = .ok (.aload_n 0, 1) := by decide +kernel
theorem dX2_payBackMarked_19 : decode (mc mX2_payBackMarked) 19 = .ok (.iload_n 1, 1) := by decide +kernel
theorem dX2_payBackMarked_20 : decode (mc mX2_payBackMarked) 20 = .ok (.iconst (-1), 1) := by decide +kernel
theorem dX2_payBackMarked_21 : decode (mc mX2_payBackMarked) 21 = .ok (.invokevirtual 173, 3) := by decide +kernel
theorem dX2_payBackMarked_24 : decode (mc mX2_payBackMarked) 24 = .ok (.aload_n 0, 1) := by decide +kernel
theorem dX2_payBackMarked_25 : decode (mc mX2_payBackMarked) 25 = .ok (.iload_n 1, 1) := by decide +kernel
theorem dX2_payBackMarked_26 : decode (mc mX2_payBackMarked) 26 = .ok (.iconst 5, 1) := by decide +kernel
theorem dX2_payBackMarked_27 : decode (mc mX2_payBackMarked) 27 = .ok (.invokestatic 163, 3) := by decide +kernel
theorem dX2_payBackMarked_30 : decode (mc mX2_payBackMarked) 30 = .ok (.iconst 1, 1) := by decide +kernel
theorem dX2_payBackMarked_31 : decode (mc mX2_payBackMarked) 31 = .ok (.invokevirtual 49, 3) := by decide +kernel
theorem dX2_payBackMarked_34 : decode (mc mX2_payBackMarked) 34 = .ok (.iinc 1 1, 3) := by decide +kernel
theorem dX2_payBackMarked_37 : decode (mc mX2_payBackMarked) 37 = .ok (.goto (-35), 3) := by decide +kernel
theorem dX2_payBackMarked_40 : decode (mc mX2_payBackMarked) 40 = .ok (.return_, 1) := by decide +kernel
theorem dX3_init_0 : decode (mc mX3_init) 0 = .ok (.aload_n 0, 1) := by decide +kernel
theorem dX3_init_1 : decode (mc mX3_init) 1 = .ok (.invokespecial 3, 3) := by decide +kernel
theorem dX3_init_4 : decode (mc mX3_init) 4 = .ok (.aload_n 0, 1) := by decide +kernel
theorem dX3_init_5 : decode (mc mX3_init) 5 = .ok (.bipush 40, 2) := by decide +kernel
theorem dX3_init_7 : decode (mc mX3_init) 7 = .ok (.newarray .int, 2) := by decide +kernel
theorem dX3_init_9 : decode (mc mX3_init) 9 = .ok (.putfield 9, 3) := by decide +kernel
theorem dX3_init_12 : decode (mc mX3_init) 12 = .ok (.return_, 1) := by decide +kernel
theorem dX3_isLetter_0 : decode (mc mX3_isLetter) 0 = .ok (.iload_n 0, 1) := by decide +kernel
theorem dX3_isLetter_1 : decode (mc mX3_isLetter) 1 = .ok (.bipush 97, 2) := by decide +kernel
theorem dX3_isLetter_3 : decode (mc mX3_isLetter) 3 = .ok (.if_icmp .lt 13, 3) := by decide +kernel
theorem dX3_isLetter_6 : decode (mc mX3_isLetter) 6 = .ok (.iload_n 0, 1) := by decide +kernel
theorem dX3_isLetter_7 : decode (mc mX3_isLetter) 7 = .ok (.bipush 122, 2) := by decide +kernel
theorem dX3_isLetter_9 : decode (mc mX3_isLetter) 9 = .ok (.if_icmp .gt 7, 3) := by decide +kernel
theorem dX3_isLetter_12 : decode (mc mX3_isLetter) 12 = .ok (.iconst 1, 1) := by decide +kernel
theorem dX3_isLetter_13 : decode (mc mX3_isLetter) 13 = .ok (.goto 4, 3) := by decide +kernel
theorem dX3_isLetter_16 : decode (mc mX3_isLetter) 16 = .ok (.iconst 0, 1) := by decide +kernel
theorem dX3_isLetter_17 : decode (mc mX3_isLetter) 17 = .ok (.ireturn, 1) := by decide +kernel
theorem dX3_append_0 : decode (mc mX3_append) 0 = .ok (.aload_n 0, 1) := by decide +kernel
theorem dX3_append_1 : decode (mc mX3_append) 1 = .ok (.getfield 15, 3) := by decide +kernel
theorem dX3_append_4 : decode (mc mX3_append) 4 = .ok (.bipush 40, 2) := by decide +kernel
theorem dX3_append_6 : decode (mc mX3_append) 6 = .ok (.if_icmp .ge 23, 3) := by decide +kernel
theorem dX3_append_9 : decode (mc mX3_append) 9 = .ok (.aload_n 0, 1) := by decide +kernel
theorem dX3_append_10 : decode (mc mX3_append) 10 = .ok (.getfield 9, 3) := by decide +kernel
theorem dX3_append_13 : decode (mc mX3_append) 13 = .ok (.aload_n 0, 1) := by decide +kernel
theorem dX3_append_14 : decode (mc mX3_append) 14 = .ok (.getfield 15, 3) := by decide +kernel
theorem dX3_append_17 : decode (mc mX3_append) 17 = .ok (.iload_n 1, 1) := by decide +kernel
theorem dX3_append_18 : decode (mc mX3_append) 18 = .ok (.iastore, 1) := by decide +kernel
theorem dX3_append_19 : decode (mc mX3_append) 19 = .ok (.aload_n 0, 1) := by decide +kernel
theorem dX3_append_20 : decode (mc mX3_append) 20 = .ok (.dup, 1) := by decide +kernel
theorem dX3_append_21 : decode (mc mX3_append) 21 = .ok (.getfield 15, 3) := by decide +kernel
theorem dX3_append_24 : decode (mc mX3_append) 24 = .ok (.iconst 1, 1) := by decide +kernel
theorem dX3_append_25 : decode (mc mX3_append) 25 = .ok (.iadd, 1) := by decide +kernel
theorem dX3_append_26 : decode (mc mX3_append) 26 = .ok (.putfield 15, 3) := by decide +kernel
theorem dX3_append_29 : decode (mc mX3_append) 29 = .ok (.aload_n 0, 1) := by decide +kernel
theorem dX3_append_30 : decode (mc mX3_append) 30 = .ok (.getfield 15, 3) := by decide +kernel
theorem dX3_append_33 : decode (mc mX3_append) 33 = .ok (.ireturn, 1) := by decide +kernel
theorem dX3_empty_0 : decode (mc mX3_empty) 0 = .ok (.aload_n 0, 1) := by decide +kernel
theorem dX3_empty_1 : decode (mc mX3_empty) 1 = .ok (.getfield 15, 3) := by decide +kernel
theorem dX3_empty_4 : decode (mc mX3_empty) 4 = .ok (.istore_n 1, 1) := by decide +kernel
theorem dX3_empty_5 : decode (mc mX3_empty) 5 = .ok (.aload_n 0, 1) := by decide +kernel
theorem dX3_empty_6 : decode (mc mX3_empty) 6 = .ok (.iconst 0, 1) := by decide +kernel
theorem dX3_empty_7 : decode (mc mX3_empty) 7 = .ok (.putfield 15, 3) := by decide +kernel
theorem dX3_empty_10 : decode (mc mX3_empty) 10 = .ok (.iload_n 1, 1) := by decide +kernel
theorem dX3_empty_11 : decode (mc mX3_empty) 11 = .ok (.ireturn, 1) := by decide +kernel
theorem dX3_fault_0 : decode (mc mX3_fault) 0 = .ok (.iconst 0, 1) := by decide +kernel
theorem dX3_fault_1 : decode (mc mX3_fault) 1 = .ok (.istore_n 1, 1) := by decide +kernel
theorem dX3_fault_2 : decode (mc mX3_fault) 2 = .ok (.iconst 0, 1) := by decide +kernel
theorem dX3_fault_3 : decode (mc mX3_fault) 3 = .ok (.istore_n 2, 1) := by decide +kernel
theorem dX3_fault_4 : decode (mc mX3_fault) 4 = .ok (.iload_n 2, 1) := by decide +kernel
theorem dX3_fault_5 : decode (mc mX3_fault) 5 = .ok (.aload_n 0, 1) := by decide +kernel
theorem dX3_fault_6 : decode (mc mX3_fault) 6 = .ok (.getfield 15, 3) := by decide +kernel
theorem dX3_fault_9 : decode (mc mX3_fault) 9 = .ok (.if_icmp .ge 46, 3) := by decide +kernel
theorem dX3_fault_12 : decode (mc mX3_fault) 12 = .ok (.aload_n 0, 1) := by decide +kernel
theorem dX3_fault_13 : decode (mc mX3_fault) 13 = .ok (.getfield 9, 3) := by decide +kernel
theorem dX3_fault_16 : decode (mc mX3_fault) 16 = .ok (.iload_n 2, 1) := by decide +kernel
theorem dX3_fault_17 : decode (mc mX3_fault) 17 = .ok (.iaload, 1) := by decide +kernel
theorem dX3_fault_18 : decode (mc mX3_fault) 18 = .ok (.invokestatic 19, 3) := by decide +kernel
theorem dX3_fault_21 : decode (mc mX3_fault) 21 = .ok (.ifCond .eq 15, 3) := by decide +kernel
theorem dX3_fault_24 : decode (mc mX3_fault) 24 = .ok (.iload_n 1, 1) := by decide +kernel
theorem dX3_fault_25 : decode (mc mX3_fault) 25 = .ok (.bipush 10, 2) := by decide +kernel
theorem dX3_fault_27 : decode (mc mX3_fault) 27 = .ok (.if_icmp .ge 9, 3) := by decide +kernel
theorem dX3_fault_30 : decode (mc mX3_fault) 30 = .ok (.iinc 1 1, 3) := by decide +kernel
theorem dX3_fault_33 : decode (mc mX3_fault) 33 = .ok (.goto 16, 3) := by decide +kernel
theorem dX3_fault_36 : decode (mc mX3_fault) 36 = .ok (.aload_n 0, 1) := by decide +kernel
theorem dX3_fault_37 : decode (mc mX3_fault) 37 = .ok (.getfield 9, 3) := by decide +kernel
theorem dX3_fault_40 : decode (mc mX3_fault) 40 = .ok (.iload_n 2, 1) := by decide +kernel
theorem dX3_fault_41 : decode (mc mX3_fault) 41 = .ok (.iaload, 1) := by decide +kernel
theorem dX3_fault_42 : decode (mc mX3_fault) 42 = .ok (.bipush 32, 2) := by decide +kernel
theorem dX3_fault_44 : decode (mc mX3_fault) 44 = .ok (.if_icmp .eq 5, 3) := by decide +kernel
theorem dX3_fault_47 : decode (mc mX3_fault) 47 = .ok (.iload_n 2, 1) := by decide +kernel
theorem dX3_fault_48 : decode (mc mX3_fault) 48 = .ok (.ireturn, 1) := by decide +kernel
theorem dX3_fault_49 : decode (mc mX3_fault) 49 = .ok (.iinc 2 1, 3) := by decide +kernel
theorem dX3_fault_52 : decode (mc mX3_fault) 52 = .ok (.goto (-48), 3) := by decide +kernel
theorem dX3_fault_55 : decode (mc mX3_fault) 55 = .ok (.iload_n 1, 1) := by decide +kernel
theorem dX3_fault_56 : decode (mc mX3_fault) 56 = .ok (.ifCond .ne 10, 3) := by decide +kernel
theorem dX3_fault_59 : decode (mc mX3_fault) 59 = .ok (.aload_n 0, 1) := by decide +kernel
theorem dX3_fault_60 : decode (mc mX3_fault) 60 = .ok (.getfield 15, 3) := by decide +kernel
theorem dX3_fault_63 : decode (mc mX3_fault) 63 = .ok (.goto 5, 3) := by decide +kernel
theorem dX3_fault_66 : decode (mc mX3_fault) 66 = .ok (.ldc 23, 2) := by decide +kernel
theorem dX3_fault_68 : decode (mc mX3_fault) 68 = .ok (.ireturn, 1) := by decide +kernel
theorem dX3_isFaulty_0 : decode (mc mX3_isFaulty) 0 = .ok (.aload_n 0, 1) := by decide +kernel
theorem dX3_isFaulty_1 : decode (mc mX3_isFaulty) 1 = .ok (.invokevirtual 24, 3) := by decide +kernel
theorem dX3_isFaulty_4 : decode (mc mX3_isFaulty) 4 = .ok (.ldc 23, 2) := by decide +kernel
theorem dX3_isFaulty_6 : decode (mc mX3_isFaulty) 6 = .ok (.if_icmp .eq 7, 3) := by decide +kernel
theorem dX3_isFaulty_9 : decode (mc mX3_isFaulty) 9 = .ok (.iconst 1, 1) := by decide +kernel
theorem dX3_isFaulty_10 : decode (mc mX3_isFaulty) 10 = .ok (.goto 4, 3) := by decide +kernel
theorem dX3_isFaulty_13 : decode (mc mX3_isFaulty) 13 = .ok (.iconst 0, 1) := by decide +kernel
theorem dX3_isFaulty_14 : decode (mc mX3_isFaulty) 14 = .ok (.ireturn, 1) := by decide +kernel
theorem dX3_readInto_0 : decode (mc mX3_readInto) 0 = .ok (.aload_n 1, 1) := by decide +kernel
theorem dX3_readInto_1 : decode (mc mX3_readInto) 1 = .ok (.invokevirtual 28, 3) := by decide +kernel
theorem dX3_readInto_4 : decode (mc mX3_readInto) 4 = .ok (.iconst 0, 1) := by decide +kernel
theorem dX3_readInto_5 : decode (mc mX3_readInto) 5 = .ok (.istore_n 2, 1) := by decide +kernel
theorem dX3_readInto_6 : decode (mc mX3_readInto) 6 = .ok (.iload_n 2, 1) := by decide +kernel
theorem dX3_readInto_7 : decode (mc mX3_readInto) 7 = .ok (.aload_n 0, 1) := by decide +kernel
theorem dX3_readInto_8 : decode (mc mX3_readInto) 8 = .ok (.getfield 15, 3) := by decide +kernel
theorem dX3_readInto_11 : decode (mc mX3_readInto) 11 = .ok (.if_icmp .ge 34, 3) := by decide +kernel
theorem dX3_readInto_14 : decode (mc mX3_readInto) 14 = .ok (.aload_n 0, 1) := by decide +kernel
theorem dX3_readInto_15 : decode (mc mX3_readInto) 15 = .ok (.getfield 9, 3) := by decide +kernel
theorem dX3_readInto_18 : decode (mc mX3_readInto) 18 = .ok (.iload_n 2, 1) := by decide +kernel
theorem dX3_readInto_19 : decode (mc mX3_readInto) 19 = .ok (.iaload, 1) := by decide +kernel
theorem dX3_readInto_20 : decode (mc mX3_readInto) 20 = .ok (.invokestatic 19, 3) := by decide +kernel
theorem dX3_readInto_23 : decode (mc mX3_readInto) 23 = .ok (.ifCond .eq 16, 3) := by decide +kernel
theorem dX3_readInto_26 : decode (mc mX3_readInto) 26 = .ok (.aload_n 1, 1) := by decide +kernel
theorem dX3_readInto_27 : decode (mc mX3_readInto) 27 = .ok (.aload_n 0, 1) := by decide +kernel
theorem dX3_readInto_28 : decode (mc mX3_readInto) 28 = .ok (.getfield 9, 3) := by decide +kernel
theorem dX3_readInto_31 : decode (mc mX3_readInto) 31 = .ok (.iload_n 2, 1) := by decide +kernel
theorem dX3_readInto_32 : decode (mc mX3_readInto) 32 = .ok (.iaload, 1) := by decide +kernel
theorem dX3_readInto_33 : decode (mc mX3_readInto) 33 = .ok (.bipush 97, 2) := by decide +kernel
theorem dX3_readInto_35 : decode (mc mX3_readInto) 35 = .ok (.isub, 1) := by decide +kernel
theorem dX3_readInto_36 : decode (mc mX3_readInto) 36 = .ok (.invokevirtual 33, 3) := by decide +kernel
theorem dX3_readInto_39 : decode (mc mX3_readInto) 39 = .ok (.iinc 2 1, 3) := by decide +kernel
theorem dX3_readInto_42 : decode (mc mX3_readInto) 42 = .ok (.goto (-36), 3) := by decide +kernel
theorem dX3_readInto_45 : decode (mc mX3_readInto) 45 = .ok (.return_, 1) := by decide +kernel
theorem dX4_init_0 : decode (mc mX4_init) 0 = .ok (.aload_n 0, 1) := by decide +kernel
theorem dX4_init_1 : decode (mc mX4_init) 1 = .ok (.invokespecial 3, 3) := by decide +kernel
theorem dX4_init_4 : decode (mc mX4_init) 4 = .ok (.aload_n 0, 1) := by decide +kernel
theorem dX4_init_5 : decode (mc mX4_init) 5 = .ok (.bipush 11, 2) := by decide +kernel
theorem dX4_init_7 : decode (mc mX4_init) 7 = .ok (.newarray .int, 2) := by decide +kernel
theorem dX4_init_9 : decode (mc mX4_init) 9 = .ok (.putfield 9, 3) := by decide +kernel
theorem dX4_init_12 : decode (mc mX4_init) 12 = .ok (.aload_n 0, 1) := by decide +kernel
theorem dX4_init_13 : decode (mc mX4_init) 13 = .ok (.bipush 11, 2) := by decide +kernel
theorem dX4_init_15 : decode (mc mX4_init) 15 = .ok (.newarray .int, 2) := by decide +kernel
theorem dX4_init_17 : decode (mc mX4_init) 17 = .ok (.putfield 15, 3) := by decide +kernel
theorem dX4_init_20 : decode (mc mX4_init) 20 = .ok (.aload_n 0, 1) := by decide +kernel
theorem dX4_init_21 : decode (mc mX4_init) 21 = .ok (.bipush 11, 2) := by decide +kernel
theorem dX4_init_23 : decode (mc mX4_init) 23 = .ok (.newarray .int, 2) := by decide +kernel
theorem dX4_init_25 : decode (mc mX4_init) 25 = .ok (.putfield 18, 3) := by decide +kernel
theorem dX4_init_28 : decode (mc mX4_init) 28 = .ok (.aload_n 0, 1) := by decide +kernel
theorem dX4_init_29 : decode (mc mX4_init) 29 = .ok (.bipush 11, 2) := by decide +kernel
theorem dX4_init_31 : decode (mc mX4_init) 31 = .ok (.newarray .int, 2) := by decide +kernel
theorem dX4_init_33 : decode (mc mX4_init) 33 = .ok (.putfield 21, 3) := by decide +kernel
theorem dX4_init_36 : decode (mc mX4_init) 36 = .ok (.return_, 1) := by decide +kernel
theorem dX4_start_0 : decode (mc mX4_start) 0 = .ok (.aload_n 0, 1) := by decide +kernel
theorem dX4_start_1 : decode (mc mX4_start) 1 = .ok (.iconst 0, 1) := by decide +kernel
theorem dX4_start_2 : decode (mc mX4_start) 2 = .ok (.iload_n 1, 1) := by decide +kernel
theorem dX4_start_3 : decode (mc mX4_start) 3 = .ok (.bipush 10, 2) := by decide +kernel
theorem dX4_start_5 : decode (mc mX4_start) 5 = .ok (.invokestatic 24, 3) := by decide +kernel
theorem dX4_start_8 : decode (mc mX4_start) 8 = .ok (.invokestatic 30, 3) := by decide +kernel
theorem dX4_start_11 : decode (mc mX4_start) 11 = .ok (.putfield 33, 3) := by decide +kernel
theorem dX4_start_14 : decode (mc mX4_start) 14 = .ok (.aload_n 0, 1) := by decide +kernel
theorem dX4_start_15 : decode (mc mX4_start) 15 = .ok (.aload_n 0, 1) := by decide +kernel
theorem dX4_start_16 : decode (mc mX4_start) 16 = .ok (.getfield 33, 3) := by decide +kernel
theorem dX4_start_19 : decode (mc mX4_start) 19 = .ok (.invokevirtual 37, 3) := by decide +kernel
theorem dX4_start_22 : decode (mc mX4_start) 22 = .ok (.aload_n 0, 1) := by decide +kernel
theorem dX4_start_23 : decode (mc mX4_start) 23 = .ok (.getfield 9, 3) := by decide +kernel
theorem dX4_start_26 : decode (mc mX4_start) 26 = .ok (.aload_n 0, 1) := by decide +kernel
theorem dX4_start_27 : decode (mc mX4_start) 27 = .ok (.getfield 33, 3) := by decide +kernel
theorem dX4_start_30 : decode (mc mX4_start) 30 = .ok (.iconst 0, 1) := by decide +kernel
theorem dX4_start_31 : decode (mc mX4_start) 31 = .ok (.iastore, 1) := by decide +kernel
theorem dX4_start_32 : decode (mc mX4_start) 32 = .ok (.return_, 1) := by decide +kernel
theorem dX4_isPlace_0 : decode (mc mX4_isPlace) 0 = .ok (.iload_n 1, 1) := by decide +kernel
theorem dX4_isPlace_1 : decode (mc mX4_isPlace) 1 = .ok (.ifCond .lt 15, 3) := by decide +kernel
theorem dX4_isPlace_4 : decode (mc mX4_isPlace) 4 = .ok (.iload_n 1, 1) := by decide +kernel
theorem dX4_isPlace_5 : decode (mc mX4_isPlace) 5 = .ok (.aload_n 0, 1) := by decide +kernel
theorem dX4_isPlace_6 : decode (mc mX4_isPlace) 6 = .ok (.getfield 33, 3) := by decide +kernel
theorem dX4_isPlace_9 : decode (mc mX4_isPlace) 9 = .ok (.if_icmp .gt 7, 3) := by decide +kernel
theorem dX4_isPlace_12 : decode (mc mX4_isPlace) 12 = .ok (.iconst 1, 1) := by decide +kernel
theorem dX4_isPlace_13 : decode (mc mX4_isPlace) 13 = .ok (.goto 4, 3) := by decide +kernel
theorem dX4_isPlace_16 : decode (mc mX4_isPlace) 16 = .ok (.iconst 0, 1) := by decide +kernel
theorem dX4_isPlace_17 : decode (mc mX4_isPlace) 17 = .ok (.ireturn, 1) := by decide +kernel
theorem dX4_open_0 : decode (mc mX4_open) 0 = .ok (.aload_n 0, 1) := by decide +kernel
theorem dX4_open_1 : decode (mc mX4_open) 1 = .ok (.iload_n 1, 1) := by decide +kernel
theorem dX4_open_2 : decode (mc mX4_open) 2 = .ok (.invokevirtual 41, 3) := by decide +kernel
theorem dX4_open_5 : decode (mc mX4_open) 5 = .ok (.ifCond .eq 36, 3) := by decide +kernel
theorem dX4_open_8 : decode (mc mX4_open) 8 = .ok (.aload_n 0, 1) := by decide +kernel
theorem dX4_open_9 : decode (mc mX4_open) 9 = .ok (.getfield 9, 3) := by decide +kernel
theorem dX4_open_12 : decode (mc mX4_open) 12 = .ok (.iload_n 1, 1) := by decide +kernel
theorem dX4_open_13 : decode (mc mX4_open) 13 = .ok (.ldc 45, 2) := by decide +kernel
theorem dX4_open_15 : decode (mc mX4_open) 15 = .ok (.iastore, 1) := by decide +kernel
theorem dX4_open_16 : decode (mc mX4_open) 16 = .ok (.aload_n 0, 1) := by decide +kernel
theorem dX4_open_17 : decode (mc mX4_open) 17 = .ok (.getfield 15, 3) := by decide +kernel
theorem dX4_open_20 : decode (mc mX4_open) 20 = .ok (.iload_n 1, 1) := by decide +kernel
theorem dX4_open_21 : decode (mc mX4_open) 21 = .ok (.iconst 0, 1) := by decide +kernel
theorem dX4_open_22 : decode (mc mX4_open) 22 = .ok (.iastore, 1) := by decide +kernel
theorem dX4_open_23 : decode (mc mX4_open) 23 = .ok (.aload_n 0, 1) := by decide +kernel
theorem dX4_open_24 : decode (mc mX4_open) 24 = .ok (.getfield 18, 3) := by decide +kernel
theorem dX4_open_27 : decode (mc mX4_open) 27 = .ok (.iload_n 1, 1) := by decide +kernel
theorem dX4_open_28 : decode (mc mX4_open) 28 = .ok (.ldc 45, 2) := by decide +kernel
theorem dX4_open_30 : decode (mc mX4_open) 30 = .ok (.iastore, 1) := by decide +kernel
theorem dX4_open_31 : decode (mc mX4_open) 31 = .ok (.aload_n 0, 1) := by decide +kernel
theorem dX4_open_32 : decode (mc mX4_open) 32 = .ok (.getfield 21, 3) := by decide +kernel
theorem dX4_open_35 : decode (mc mX4_open) 35 = .ok (.iload_n 1, 1) := by decide +kernel
theorem dX4_open_36 : decode (mc mX4_open) 36 = .ok (.aload_n 0, 1) := by decide +kernel
theorem dX4_open_37 : decode (mc mX4_open) 37 = .ok (.getfield 33, 3) := by decide +kernel
theorem dX4_open_40 : decode (mc mX4_open) 40 = .ok (.iastore, 1) := by decide +kernel
theorem dX4_open_41 : decode (mc mX4_open) 41 = .ok (.return_, 1) := by decide +kernel
theorem dX4_offer_0 : decode (mc mX4_offer) 0 = .ok (.iload_n 1, 1) := by decide +kernel
theorem dX4_offer_1 : decode (mc mX4_offer) 1 = .ok (.iload_n 3, 1) := by decide +kernel
theorem dX4_offer_2 : decode (mc mX4_offer) 2 = .ok (.iadd, 1) := by decide +kernel
theorem dX4_offer_3 : decode (mc mX4_offer) 3 = .ok (.istore 5, 2) := by decide +kernel
theorem dX4_offer_5 : decode (mc mX4_offer) 5 = .ok (.aload_n 0, 1) := by decide +kernel
theorem dX4_offer_6 : decode (mc mX4_offer) 6 = .ok (.iload_n 1, 1) := by decide +kernel
theorem dX4_offer_7 : decode (mc mX4_offer) 7 = .ok (.invokevirtual 41, 3) := by decide +kernel
theorem dX4_offer_10 : decode (mc mX4_offer) 10 = .ok (.ifCond .eq 24, 3) := by decide +kernel
theorem dX4_offer_13 : decode (mc mX4_offer) 13 = .ok (.aload_n 0, 1) := by decide +kernel
theorem dX4_offer_14 : decode (mc mX4_offer) 14 = .ok (.iload 5, 2) := by decide +kernel
theorem dX4_offer_16 : decode (mc mX4_offer) 16 = .ok (.invokevirtual 41, 3) := by decide +kernel
theorem dX4_offer_19 : decode (mc mX4_offer) 19 = .ok (.ifCond .eq 15, 3) := by decide +kernel
theorem dX4_offer_22 : decode (mc mX4_offer) 22 = .ok (.aload_n 0, 1) := by decide +kernel
theorem dX4_offer_23 : decode (mc mX4_offer) 23 = .ok (.getfield 9, 3) := by decide +kernel
theorem dX4_offer_26 : decode (mc mX4_offer) 26 = .ok (.iload 5, 2) := by decide +kernel
theorem dX4_offer_28 : decode (mc mX4_offer) 28 = .ok (.iaload, 1) := by decide +kernel
theorem dX4_offer_29 : decode (mc mX4_offer) 29 = .ok (.ldc 45, 2) := by decide +kernel
theorem dX4_offer_31 : decode (mc mX4_offer) 31 = .ok (.if_icmp .ne 4, 3) := by decide +kernel
theorem dX4_offer_34 : decode (mc mX4_offer) 34 = .ok (.return_, 1) := by decide +kernel
theorem dX4_offer_35 : decode (mc mX4_offer) 35 = .ok (.iload 4, 2) := by decide +kernel
theorem dX4_offer_37 : decode (mc mX4_offer) 37 = .ok (.aload_n 0, 1) := by decide +kernel
theorem dX4_offer_38 : decode (mc mX4_offer) 38 = .ok (.getfield 9, 3) := by decide +kernel
theorem dX4_offer_41 : decode (mc mX4_offer) 41 = .ok (.iload 5, 2) := by decide +kernel
theorem dX4_offer_43 : decode (mc mX4_offer) 43 = .ok (.iaload, 1) := by decide +kernel
theorem dX4_offer_44 : decode (mc mX4_offer) 44 = .ok (.iadd, 1) := by decide +kernel
theorem dX4_offer_45 : decode (mc mX4_offer) 45 = .ok (.istore 6, 2) := by decide +kernel
theorem dX4_offer_47 : decode (mc mX4_offer) 47 = .ok (.iconst 1, 1) := by decide +kernel
theorem dX4_offer_48 : decode (mc mX4_offer) 48 = .ok (.aload_n 0, 1) := by decide +kernel
theorem dX4_offer_49 : decode (mc mX4_offer) 49 = .ok (.getfield 15, 3) := by decide +kernel
theorem dX4_offer_52 : decode (mc mX4_offer) 52 = .ok (.iload 5, 2) := by decide +kernel
theorem dX4_offer_54 : decode (mc mX4_offer) 54 = .ok (.iaload, 1) := by decide +kernel
theorem dX4_offer_55 : decode (mc mX4_offer) 55 = .ok (.iadd, 1) := by decide +kernel
theorem dX4_offer_56 : decode (mc mX4_offer) 56 = .ok (.istore 7, 2) := by decide +kernel
theorem dX4_offer_58 : decode (mc mX4_offer) 58 = .ok (.aload_n 0, 1) := by decide +kernel
theorem dX4_offer_59 : decode (mc mX4_offer) 59 = .ok (.getfield 9, 3) := by decide +kernel
theorem dX4_offer_62 : decode (mc mX4_offer) 62 = .ok (.iload_n 1, 1) := by decide +kernel
theorem dX4_offer_63 : decode (mc mX4_offer) 63 = .ok (.iaload, 1) := by decide +kernel
theorem dX4_offer_64 : decode (mc mX4_offer) 64 = .ok (.ldc 45, 2) := by decide +kernel
theorem dX4_offer_66 : decode (mc mX4_offer) 66 = .ok (.if_icmp .eq 36, 3) := by decide +kernel
theorem dX4_offer_69 : decode (mc mX4_offer) 69 = .ok (.iload 6, 2) := by decide +kernel
theorem dX4_offer_71 : decode (mc mX4_offer) 71 = .ok (.aload_n 0, 1) := by decide +kernel
theorem dX4_offer_72 : decode (mc mX4_offer) 72 = .ok (.getfield 9, 3) := by decide +kernel
theorem dX4_offer_75 : decode (mc mX4_offer) 75 = .ok (.iload_n 1, 1) := by decide +kernel
theorem dX4_offer_76 : decode (mc mX4_offer) 76 = .ok (.iaload, 1) := by decide +kernel
theorem dX4_offer_77 : decode (mc mX4_offer) 77 = .ok (.if_icmp .lt 25, 3) := by decide +kernel
theorem dX4_offer_80 : decode (mc mX4_offer) 80 = .ok (.iload 6, 2) := by decide +kernel
theorem dX4_offer_82 : decode (mc mX4_offer) 82 = .ok (.aload_n 0, 1) := by decide +kernel
theorem dX4_offer_83 : decode (mc mX4_offer) 83 = .ok (.getfield 9, 3) := by decide +kernel
theorem dX4_offer_86 : decode (mc mX4_offer) 86 = .ok (.iload_n 1, 1) := by decide +kernel
theorem dX4_offer_87 : decode (mc mX4_offer) 87 = .ok (.iaload, 1) := by decide +kernel
theorem dX4_offer_88 : decode (mc mX4_offer) 88 = .ok (.if_icmp .ne 45, 3) := by decide +kernel
theorem dX4_offer_91 : decode (mc mX4_offer) 91 = .ok (.iload 7, 2) := by decide +kernel
theorem dX4_offer_93 : decode (mc mX4_offer) 93 = .ok (.aload_n 0, 1) := by decide +kernel
theorem dX4_offer_94 : decode (mc mX4_offer) 94 = .ok (.getfield 15, 3) := by decide +kernel
theorem dX4_offer_97 : decode (mc mX4_offer) 97 = .ok (.iload_n 1, 1) := by decide +kernel
theorem dX4_offer_98 : decode (mc mX4_offer) 98 = .ok (.iaload, 1) := by decide +kernel
theorem dX4_offer_99 : decode (mc mX4_offer) 99 = .ok (.if_icmp .ge 34, 3) := by decide +kernel
theorem dX4_offer_102 : decode (mc mX4_offer) 102 = .ok (.aload_n 0, 1) := by decide +kernel
theorem dX4_offer_103 : decode (mc mX4_offer) 103 = .ok (.getfield 9, 3) := by decide +kernel
theorem dX4_offer_106 : decode (mc mX4_offer) 106 = .ok (.iload_n 1, 1) := by decide +kernel
theorem dX4_offer_107 : decode (mc mX4_offer) 107 = .ok (.iload 6, 2) := by decide +kernel
theorem dX4_offer_109 : decode (mc mX4_offer) 109 = .ok (.iastore, 1) := by decide +kernel
theorem dX4_offer_110 : decode (mc mX4_offer) 110 = .ok (.aload_n 0, 1) := by decide +kernel
theorem dX4_offer_111 : decode (mc mX4_offer) 111 = .ok (.getfield 15, 3) := by decide +kernel
theorem dX4_offer_114 : decode (mc mX4_offer) 114 = .ok (.iload_n 1, 1) := by decide +kernel
theorem dX4_offer_115 : decode (mc mX4_offer) 115 = .ok (.iload 7, 2) := by decide +kernel
theorem dX4_offer_117 : decode (mc mX4_offer) 117 = .ok (.iastore, 1) := by decide +kernel
theorem dX4_offer_118 : decode (mc mX4_offer) 118 = .ok (.aload_n 0, 1) := by decide +kernel
theorem dX4_offer_119 : decode (mc mX4_offer) 119 = .ok (.getfield 18, 3) := by decide +kernel
theorem dX4_offer_122 : decode (mc mX4_offer) 122 = .ok (.iload_n 1, 1) := by decide +kernel
theorem dX4_offer_123 : decode (mc mX4_offer) 123 = .ok (.iload_n 2, 1) := by decide +kernel
theorem dX4_offer_124 : decode (mc mX4_offer) 124 = .ok (.iastore, 1) := by decide +kernel
theorem dX4_offer_125 : decode (mc mX4_offer) 125 = .ok (.aload_n 0, 1) := by decide +kernel
theorem dX4_offer_126 : decode (mc mX4_offer) 126 = .ok (.getfield 21, 3) := by decide +kernel
theorem dX4_offer_129 : decode (mc mX4_offer) 129 = .ok (.iload_n 1, 1) := by decide +kernel
theorem dX4_offer_130 : decode (mc mX4_offer) 130 = .ok (.iload 5, 2) := by decide +kernel
theorem dX4_offer_132 : decode (mc mX4_offer) 132 = .ok (.iastore, 1) := by decide +kernel
theorem dX4_offer_133 : decode (mc mX4_offer) 133 = .ok (.return_, 1) := by decide +kernel
theorem dX4_bestCost_0 : decode (mc mX4_bestCost) 0 = .ok (.aload_n 0, 1) := by decide +kernel
theorem dX4_bestCost_1 : decode (mc mX4_bestCost) 1 = .ok (.getfield 9, 3) := by decide +kernel
theorem dX4_bestCost_4 : decode (mc mX4_bestCost) 4 = .ok (.iconst 0, 1) := by decide +kernel
theorem dX4_bestCost_5 : decode (mc mX4_bestCost) 5 = .ok (.iaload, 1) := by decide +kernel
theorem dX4_bestCost_6 : decode (mc mX4_bestCost) 6 = .ok (.ireturn, 1) := by decide +kernel
theorem dX4_pieceAt_0 : decode (mc mX4_pieceAt) 0 = .ok (.iload_n 1, 1) := by decide +kernel
theorem dX4_pieceAt_1 : decode (mc mX4_pieceAt) 1 = .ok (.ifCond .lt 13, 3) := by decide +kernel
theorem dX4_pieceAt_4 : decode (mc mX4_pieceAt) 4 = .ok (.iload_n 1, 1) := by decide +kernel
theorem dX4_pieceAt_5 : decode (mc mX4_pieceAt) 5 = .ok (.aload_n 0, 1) := by decide +kernel
theorem dX4_pieceAt_6 : decode (mc mX4_pieceAt) 6 = .ok (.getfield 15, 3) := by decide +kernel
theorem dX4_pieceAt_9 : decode (mc mX4_pieceAt) 9 = .ok (.iconst 0, 1) := by decide +kernel
theorem dX4_pieceAt_10 : decode (mc mX4_pieceAt) 10 = .ok (.iaload, 1) := by decide +kernel
theorem dX4_pieceAt_11 : decode (mc mX4_pieceAt) 11 = .ok (.if_icmp .lt 6, 3) := by decide +kernel
theorem dX4_pieceAt_14 : decode (mc mX4_pieceAt) 14 = .ok (.ldc 45, 2) := by decide +kernel
theorem dX4_pieceAt_16 : decode (mc mX4_pieceAt) 16 = .ok (.ireturn, 1) := by decide +kernel
theorem dX4_pieceAt_17 : decode (mc mX4_pieceAt) 17 = .ok (.iconst 0, 1) := by decide +kernel
theorem dX4_pieceAt_18 : decode (mc mX4_pieceAt) 18 = .ok (.istore_n 2, 1) := by decide +kernel
theorem dX4_pieceAt_19 : decode (mc mX4_pieceAt) 19 = .ok (.iconst 0, 1) := by decide +kernel
theorem dX4_pieceAt_20 : decode (mc mX4_pieceAt) 20 = .ok (.istore_n 3, 1) := by decide +kernel
theorem dX4_pieceAt_21 : decode (mc mX4_pieceAt) 21 = .ok (.iload_n 3, 1) := by decide +kernel
theorem dX4_pieceAt_22 : decode (mc mX4_pieceAt) 22 = .ok (.iload_n 1, 1) := by decide +kernel
theorem dX4_pieceAt_23 : decode (mc mX4_pieceAt) 23 = .ok (.if_icmp .ge 16, 3) := by decide +kernel
theorem dX4_pieceAt_26 : decode (mc mX4_pieceAt) 26 = .ok (.aload_n 0, 1) := by decide +kernel
theorem dX4_pieceAt_27 : decode (mc mX4_pieceAt) 27 = .ok (.getfield 21, 3) := by decide +kernel
theorem dX4_pieceAt_30 : decode (mc mX4_pieceAt) 30 = .ok (.iload_n 2, 1) := by decide +kernel
theorem dX4_pieceAt_31 : decode (mc mX4_pieceAt) 31 = .ok (.iaload, 1) := by decide +kernel
theorem dX4_pieceAt_32 : decode (mc mX4_pieceAt) 32 = .ok (.istore_n 2, 1) := by decide +kernel
theorem dX4_pieceAt_33 : decode (mc mX4_pieceAt) 33 = .ok (.iinc 3 1, 3) := by decide +kernel
theorem dX4_pieceAt_36 : decode (mc mX4_pieceAt) 36 = .ok (.goto (-15), 3) := by decide +kernel
theorem dX4_pieceAt_39 : decode (mc mX4_pieceAt) 39 = .ok (.aload_n 0, 1) := by decide +kernel
theorem dX4_pieceAt_40 : decode (mc mX4_pieceAt) 40 = .ok (.getfield 18, 3) := by decide +kernel
theorem dX4_pieceAt_43 : decode (mc mX4_pieceAt) 43 = .ok (.iload_n 2, 1) := by decide +kernel
theorem dX4_pieceAt_44 : decode (mc mX4_pieceAt) 44 = .ok (.iaload, 1) := by decide +kernel
theorem dX4_pieceAt_45 : decode (mc mX4_pieceAt) 45 = .ok (.ireturn, 1) := by decide +kernel
theorem dX5_init_0 : decode (mc mX5_init) 0 = .ok (.aload_n 0, 1) := by decide +kernel
theorem dX5_init_1 : decode (mc mX5_init) 1 = .ok (.invokespecial 3, 3) := by decide +kernel
theorem dX5_init_4 : decode (mc mX5_init) 4 = .ok (.aload_n 0, 1) := by decide +kernel
theorem dX5_init_5 : decode (mc mX5_init) 5 = .ok (.bipush 11, 2) := by decide +kernel
theorem dX5_init_7 : decode (mc mX5_init) 7 = .ok (.bipush 11, 2) := by decide +kernel
theorem dX5_init_9 : decode (mc mX5_init) 9 = .ok (.multianewarray 9 2, 4) := by decide +kernel
theorem dX5_init_13 : decode (mc mX5_init) 13 = .ok (.putfield 11, 3) := by decide +kernel
theorem dX5_init_16 : decode (mc mX5_init) 16 = .ok (.return_, 1) := by decide +kernel
theorem dX5_measure_0 : decode (mc mX5_measure) 0 = .ok (.aload_n 1, 1) := by decide +kernel
theorem dX5_measure_1 : decode (mc mX5_measure) 1 = .ok (.getfield 16, 3) := by decide +kernel
theorem dX5_measure_4 : decode (mc mX5_measure) 4 = .ok (.aload_n 2, 1) := by decide +kernel
theorem dX5_measure_5 : decode (mc mX5_measure) 5 = .ok (.getfield 16, 3) := by decide +kernel
theorem dX5_measure_8 : decode (mc mX5_measure) 8 = .ok (.invokestatic 22, 3) := by decide +kernel
theorem dX5_measure_11 : decode (mc mX5_measure) 11 = .ok (.istore_n 3, 1) := by decide +kernel
theorem dX5_measure_12 : decode (mc mX5_measure) 12 = .ok (.iload_n 3, 1) := by decide +kernel
theorem dX5_measure_13 : decode (mc mX5_measure) 13 = .ok (.iconst 1, 1) := by decide +kernel
theorem dX5_measure_14 : decode (mc mX5_measure) 14 = .ok (.if_icmp .lt 9, 3) := by decide +kernel
theorem dX5_measure_17 : decode (mc mX5_measure) 17 = .ok (.iload_n 3, 1) := by decide +kernel
theorem dX5_measure_18 : decode (mc mX5_measure) 18 = .ok (.bipush 10, 2) := by decide +kernel
theorem dX5_measure_20 : decode (mc mX5_measure) 20 = .ok (.if_icmp .le 7, 3) := by decide +kernel
theorem dX5_measure_23 : decode (mc mX5_measure) 23 = .ok (.iconst 0, 1) := by decide +kernel
theorem dX5_measure_24 : decode (mc mX5_measure) 24 = .ok (.goto 16, 3) := by decide +kernel
theorem dX5_measure_27 : decode (mc mX5_measure) 27 = .ok (.bipush 100, 2) := by decide +kernel
theorem dX5_measure_29 : decode (mc mX5_measure) 29 = .ok (.iload_n 3, 1) := by decide +kernel
theorem dX5_measure_30 : decode (mc mX5_measure) 30 = .ok (.aload_n 0, 1) := by decide +kernel
theorem dX5_measure_31 : decode (mc mX5_measure) 31 = .ok (.aload_n 1, 1) := by decide +kernel
theorem dX5_measure_32 : decode (mc mX5_measure) 32 = .ok (.aload_n 2, 1) := by decide +kernel
theorem dX5_measure_33 : decode (mc mX5_measure) 33 = .ok (.invokevirtual 28, 3) := by decide +kernel
theorem dX5_measure_36 : decode (mc mX5_measure) 36 = .ok (.isub, 1) := by decide +kernel
theorem dX5_measure_37 : decode (mc mX5_measure) 37 = .ok (.imul, 1) := by decide +kernel
theorem dX5_measure_38 : decode (mc mX5_measure) 38 = .ok (.iload_n 3, 1) := by decide +kernel
theorem dX5_measure_39 : decode (mc mX5_measure) 39 = .ok (.idiv, 1) := by decide +kernel
theorem dX5_measure_40 : decode (mc mX5_measure) 40 = .ok (.ireturn, 1) := by decide +kernel
theorem dX5_distance_0 : decode (mc mX5_distance) 0 = .ok (.iconst 0, 1) := by decide +kernel
theorem dX5_distance_1 : decode (mc mX5_distance) 1 = .ok (.istore_n 3, 1) := by decide +kernel
theorem dX5_distance_2 : decode (mc mX5_distance) 2 = .ok (.iload_n 3, 1) := by decide +kernel
theorem dX5_distance_3 : decode (mc mX5_distance) 3 = .ok (.aload_n 1, 1) := by decide +kernel
theorem dX5_distance_4 : decode (mc mX5_distance) 4 = .ok (.getfield 16, 3) := by decide +kernel
theorem dX5_distance_7 : decode (mc mX5_distance) 7 = .ok (.if_icmp .gt 136, 3) := by decide +kernel
theorem dX5_distance_10 : decode (mc mX5_distance) 10 = .ok (.iconst 0, 1) := by decide +kernel
theorem dX5_distance_11 : decode (mc mX5_distance) 11 = .ok (.istore 4, 2) := by decide +kernel
theorem dX5_distance_13 : decode (mc mX5_distance) 13 = .ok (.iload 4, 2) := by decide +kernel
theorem dX5_distance_15 : decode (mc mX5_distance) 15 = .ok (.aload_n 2, 1) := by decide +kernel
theorem dX5_distance_16 : decode (mc mX5_distance) 16 = .ok (.getfield 16, 3) := by decide +kernel
theorem dX5_distance_19 : decode (mc mX5_distance) 19 = .ok (.if_icmp .gt 118, 3) := by decide +kernel
theorem dX5_distance_22 : decode (mc mX5_distance) 22 = .ok (.iload_n 3, 1) := by decide +kernel
theorem dX5_distance_23 : decode (mc mX5_distance) 23 = .ok (.ifCond .eq 8, 3) := by decide +kernel
theorem dX5_distance_26 : decode (mc mX5_distance) 26 = .ok (.iload 4, 2) := by decide +kernel
theorem dX5_distance_28 : decode (mc mX5_distance) 28 = .ok (.ifCond .ne 19, 3) := by decide +kernel
theorem dX5_distance_31 : decode (mc mX5_distance) 31 = .ok (.aload_n 0, 1) := by decide +kernel
theorem dX5_distance_32 : decode (mc mX5_distance) 32 = .ok (.getfield 11, 3) := by decide +kernel
theorem dX5_distance_35 : decode (mc mX5_distance) 35 = .ok (.iload_n 3, 1) := by decide +kernel
theorem dX5_distance_36 : decode (mc mX5_distance) 36 = .ok (.aaload, 1) := by decide +kernel
theorem dX5_distance_37 : decode (mc mX5_distance) 37 = .ok (.iload 4, 2) := by decide +kernel
theorem dX5_distance_39 : decode (mc mX5_distance) 39 = .ok (.iload_n 3, 1) := by decide +kernel
theorem dX5_distance_40 : decode (mc mX5_distance) 40 = .ok (.iload 4, 2) := by decide +kernel
theorem dX5_distance_42 : decode (mc mX5_distance) 42 = .ok (.iadd, 1) := by decide +kernel
theorem dX5_distance_43 : decode (mc mX5_distance) 43 = .ok (.iastore, 1) := by decide +kernel
theorem dX5_distance_44 : decode (mc mX5_distance) 44 = .ok (.goto 87, 3) := by decide +kernel
theorem dX5_distance_47 : decode (mc mX5_distance) 47 = .ok (.aload_n 1, 1) := by decide +kernel
theorem dX5_distance_48 : decode (mc mX5_distance) 48 = .ok (.iload_n 3, 1) := by decide +kernel
theorem dX5_distance_49 : decode (mc mX5_distance) 49 = .ok (.iconst 1, 1) := by decide +kernel
theorem dX5_distance_50 : decode (mc mX5_distance) 50 = .ok (.isub, 1) := by decide +kernel
theorem dX5_distance_51 : decode (mc mX5_distance) 51 = .ok (.invokevirtual 32, 3) := by decide +kernel
theorem dX5_distance_54 : decode (mc mX5_distance) 54 = .ok (.aload_n 2, 1) := by decide +kernel
theorem dX5_distance_55 : decode (mc mX5_distance) 55 = .ok (.iload 4, 2) := by decide +kernel
theorem dX5_distance_57 : decode (mc mX5_distance) 57 = .ok (.iconst 1, 1) := by decide +kernel
theorem dX5_distance_58 : decode (mc mX5_distance) 58 = .ok (.isub, 1) := by decide +kernel
theorem dX5_distance_59 : decode (mc mX5_distance) 59 = .ok (.invokevirtual 32, 3) := by decide +kernel
theorem dX5_distance_62 : decode (mc mX5_distance) 62 = .ok (.if_icmp .ne 7, 3) := by decide +kernel
theorem dX5_distance_65 : decode (mc mX5_distance) 65 = .ok (.iconst 0, 1) := by decide +kernel
theorem dX5_distance_66 : decode (mc mX5_distance) 66 = .ok (.goto 4, 3) := by decide +kernel
theorem dX5_distance_69 : decode (mc mX5_distance) 69 = .ok (.iconst 1, 1) := by decide +kernel
theorem dX5_distance_70 : decode (mc mX5_distance) 70 = .ok (.istore 5, 2) := by decide +kernel
theorem dX5_distance_72 : decode (mc mX5_distance) 72 = .ok (.iconst 1, 1) := by decide +kernel
theorem dX5_distance_73 : decode (mc mX5_distance) 73 = .ok (.aload_n 0, 1) := by decide +kernel
theorem dX5_distance_74 : decode (mc mX5_distance) 74 = .ok (.getfield 11, 3) := by decide +kernel
theorem dX5_distance_77 : decode (mc mX5_distance) 77 = .ok (.iload_n 3, 1) := by decide +kernel
theorem dX5_distance_78 : decode (mc mX5_distance) 78 = .ok (.iconst 1, 1) := by decide +kernel
theorem dX5_distance_79 : decode (mc mX5_distance) 79 = .ok (.isub, 1) := by decide +kernel
theorem dX5_distance_80 : decode (mc mX5_distance) 80 = .ok (.aaload, 1) := by decide +kernel
theorem dX5_distance_81 : decode (mc mX5_distance) 81 = .ok (.iload 4, 2) := by decide +kernel
theorem dX5_distance_83 : decode (mc mX5_distance) 83 = .ok (.iaload, 1) := by decide +kernel
theorem dX5_distance_84 : decode (mc mX5_distance) 84 = .ok (.aload_n 0, 1) := by decide +kernel
theorem dX5_distance_85 : decode (mc mX5_distance) 85 = .ok (.getfield 11, 3) := by decide +kernel
theorem dX5_distance_88 : decode (mc mX5_distance) 88 = .ok (.iload_n 3, 1) := by decide +kernel
theorem dX5_distance_89 : decode (mc mX5_distance) 89 = .ok (.aaload, 1) := by decide +kernel
theorem dX5_distance_90 : decode (mc mX5_distance) 90 = .ok (.iload 4, 2) := by decide +kernel
theorem dX5_distance_92 : decode (mc mX5_distance) 92 = .ok (.iconst 1, 1) := by decide +kernel
theorem dX5_distance_93 : decode (mc mX5_distance) 93 = .ok (.isub, 1) := by decide +kernel
theorem dX5_distance_94 : decode (mc mX5_distance) 94 = .ok (.iaload, 1) := by decide +kernel
theorem dX5_distance_95 : decode (mc mX5_distance) 95 = .ok (.invokestatic 36, 3) := by decide +kernel
theorem dX5_distance_98 : decode (mc mX5_distance) 98 = .ok (.iadd, 1) := by decide +kernel
theorem dX5_distance_99 : decode (mc mX5_distance) 99 = .ok (.istore 6, 2) := by decide +kernel
theorem dX5_distance_101 : decode (mc mX5_distance) 101 = .ok (.aload_n 0, 1) := by decide +kernel
theorem dX5_distance_102 : decode (mc mX5_distance) 102 = .ok (.getfield 11, 3) := by decide +kernel
theorem dX5_distance_105 : decode (mc mX5_distance) 105 = .ok (.iload_n 3, 1) := by decide +kernel
theorem dX5_distance_106 : decode (mc mX5_distance) 106 = .ok (.aaload, 1) := by decide +kernel
theorem dX5_distance_107 : decode (mc mX5_distance) 107 = .ok (.iload 4, 2) := by decide +kernel
theorem dX5_distance_109 : decode (mc mX5_distance) 109 = .ok (.iload 6, 2) := by decide +kernel
theorem dX5_distance_111 : decode (mc mX5_distance) 111 = .ok (.aload_n 0, 1) := by decide +kernel
theorem dX5_distance_112 : decode (mc mX5_distance) 112 = .ok (.getfield 11, 3) := by decide +kernel
theorem dX5_distance_115 : decode (mc mX5_distance) 115 = .ok (.iload_n 3, 1) := by decide +kernel
theorem dX5_distance_116 : decode (mc mX5_distance) 116 = .ok (.iconst 1, 1) := by decide +kernel
theorem dX5_distance_117 : decode (mc mX5_distance) 117 = .ok (.isub, 1) := by decide +kernel
theorem dX5_distance_118 : decode (mc mX5_distance) 118 = .ok (.aaload, 1) := by decide +kernel
theorem dX5_distance_119 : decode (mc mX5_distance) 119 = .ok (.iload 4, 2) := by decide +kernel
theorem dX5_distance_121 : decode (mc mX5_distance) 121 = .ok (.iconst 1, 1) := by decide +kernel
theorem dX5_distance_122 : decode (mc mX5_distance) 122 = .ok (.isub, 1) := by decide +kernel
theorem dX5_distance_123 : decode (mc mX5_distance) 123 = .ok (.iaload, 1) := by decide +kernel
theorem dX5_distance_124 : decode (mc mX5_distance) 124 = .ok (.iload 5, 2) := by decide +kernel
theorem dX5_distance_126 : decode (mc mX5_distance) 126 = .ok (.iadd, 1) := by decide +kernel
theorem dX5_distance_127 : decode (mc mX5_distance) 127 = .ok (.invokestatic 36, 3) := by decide +kernel
theorem dX5_distance_130 : decode (mc mX5_distance) 130 = .ok (.iastore, 1) := by decide +kernel
theorem dX5_distance_131 : decode (mc mX5_distance) 131 = .ok (.iinc 4 1, 3) := by decide +kernel
theorem dX5_distance_134 : decode (mc mX5_distance) 134 = .ok (.goto (-121), 3) := by decide +kernel
theorem dX5_distance_137 : decode (mc mX5_distance) 137 = .ok (.iinc 3 1, 3) := by decide +kernel
theorem dX5_distance_140 : decode (mc mX5_distance) 140 = .ok (.goto (-138), 3) := by decide +kernel
theorem dX5_distance_143 : decode (mc mX5_distance) 143 = .ok (.aload_n 0, 1) := by decide +kernel
theorem dX5_distance_144 : decode (mc mX5_distance) 144 = .ok (.getfield 11, 3) := by decide +kernel
theorem dX5_distance_147 : decode (mc mX5_distance) 147 = .ok (.aload_n 1, 1) := by decide +kernel
theorem dX5_distance_148 : decode (mc mX5_distance) 148 = .ok (.getfield 16, 3) := by decide +kernel
theorem dX5_distance_151 : decode (mc mX5_distance) 151 = .ok (.aaload, 1) := by decide +kernel
theorem dX5_distance_152 : decode (mc mX5_distance) 152 = .ok (.aload_n 2, 1) := by decide +kernel
theorem dX5_distance_153 : decode (mc mX5_distance) 153 = .ok (.getfield 16, 3) := by decide +kernel
theorem dX5_distance_156 : decode (mc mX5_distance) 156 = .ok (.iaload, 1) := by decide +kernel
theorem dX5_distance_157 : decode (mc mX5_distance) 157 = .ok (.ireturn, 1) := by decide +kernel
theorem dX6_init_0 : decode (mc mX6_init) 0 = .ok (.aload_n 0, 1) := by decide +kernel
theorem dX6_init_1 : decode (mc mX6_init) 1 = .ok (.invokespecial 1, 3) := by decide +kernel
theorem dX6_init_4 : decode (mc mX6_init) 4 = .ok (.aload_n 0, 1) := by decide +kernel
theorem dX6_init_5 : decode (mc mX6_init) 5 = .ok (.new 7, 3) := by decide +kernel
theorem dX6_init_8 : decode (mc mX6_init) 8 = .ok (.dup, 1) := by decide +kernel
theorem dX6_init_9 : decode (mc mX6_init) 9 = .ok (.invokespecial 9, 3) := by decide +kernel
theorem dX6_init_12 : decode (mc mX6_init) 12 = .ok (.putfield 10, 3) := by decide +kernel
theorem dX6_init_15 : decode (mc mX6_init) 15 = .ok (.aload_n 0, 1) := by decide +kernel
theorem dX6_init_16 : decode (mc mX6_init) 16 = .ok (.new 16, 3) := by decide +kernel
theorem dX6_init_19 : decode (mc mX6_init) 19 = .ok (.dup, 1) := by decide +kernel
theorem dX6_init_20 : decode (mc mX6_init) 20 = .ok (.invokespecial 18, 3) := by decide +kernel
theorem dX6_init_23 : decode (mc mX6_init) 23 = .ok (.putfield 19, 3) := by decide +kernel
theorem dX6_init_26 : decode (mc mX6_init) 26 = .ok (.aload_n 0, 1) := by decide +kernel
theorem dX6_init_27 : decode (mc mX6_init) 27 = .ok (.new 23, 3) := by decide +kernel
theorem dX6_init_30 : decode (mc mX6_init) 30 = .ok (.dup, 1) := by decide +kernel
theorem dX6_init_31 : decode (mc mX6_init) 31 = .ok (.invokespecial 25, 3) := by decide +kernel
theorem dX6_init_34 : decode (mc mX6_init) 34 = .ok (.putfield 26, 3) := by decide +kernel
theorem dX6_init_37 : decode (mc mX6_init) 37 = .ok (.aload_n 0, 1) := by decide +kernel
theorem dX6_init_38 : decode (mc mX6_init) 38 = .ok (.new 30, 3) := by decide +kernel
theorem dX6_init_41 : decode (mc mX6_init) 41 = .ok (.dup, 1) := by decide +kernel
theorem dX6_init_42 : decode (mc mX6_init) 42 = .ok (.invokespecial 32, 3) := by decide +kernel
theorem dX6_init_45 : decode (mc mX6_init) 45 = .ok (.putfield 33, 3) := by decide +kernel
theorem dX6_init_48 : decode (mc mX6_init) 48 = .ok (.aload_n 0, 1) := by decide +kernel
theorem dX6_init_49 : decode (mc mX6_init) 49 = .ok (.new 37, 3) := by decide +kernel
theorem dX6_init_52 : decode (mc mX6_init) 52 = .ok (.dup, 1) := by decide +kernel
theorem dX6_init_53 : decode (mc mX6_init) 53 = .ok (.invokespecial 39, 3) := by decide +kernel
theorem dX6_init_56 : decode (mc mX6_init) 56 = .ok (.putfield 40, 3) := by decide +kernel
theorem dX6_init_59 : decode (mc mX6_init) 59 = .ok (.return_, 1) := by decide +kernel
theorem dX6_addMember_0 : decode (mc mX6_addMember) 0 = .ok (.aload_n 0, 1) := by decide +kernel
theorem dX6_addMember_1 : decode (mc mX6_addMember) 1 = .ok (.getfield 10, 3) := by decide +kernel
theorem dX6_addMember_4 : decode (mc mX6_addMember) 4 = .ok (.invokevirtual 44, 3) := by decide +kernel
theorem dX6_addMember_7 : decode (mc mX6_addMember) 7 = .ok (.bipush 6, 2) := by decide +kernel
theorem dX6_addMember_9 : decode (mc mX6_addMember) 9 = .ok (.if_icmp .lt 6, 3) := by decide +kernel
theorem dX6_addMember_12 : decode (mc mX6_addMember) 12 = .ok (.ldc 48, 2) := by decide +kernel
theorem dX6_addMember_14 : decode (mc mX6_addMember) 14 = .ok (.ireturn, 1) := by decide +kernel
theorem dX6_addMember_15 : decode (mc mX6_addMember) 15 = .ok (.aload_n 0, 1) := by decide +kernel
theorem dX6_addMember_16 : decode (mc mX6_addMember) 16 = .ok (.getfield 19, 3) := by decide +kernel
theorem dX6_addMember_19 : decode (mc mX6_addMember) 19 = .ok (.aload_n 0, 1) := by decide +kernel
theorem dX6_addMember_20 : decode (mc mX6_addMember) 20 = .ok (.getfield 10, 3) := by decide +kernel
theorem dX6_addMember_23 : decode (mc mX6_addMember) 23 = .ok (.invokevirtual 49, 3) := by decide +kernel
theorem dX6_addMember_26 : decode (mc mX6_addMember) 26 = .ok (.aload_n 0, 1) := by decide +kernel
theorem dX6_addMember_27 : decode (mc mX6_addMember) 27 = .ok (.getfield 10, 3) := by decide +kernel
theorem dX6_addMember_30 : decode (mc mX6_addMember) 30 = .ok (.invokevirtual 53, 3) := by decide +kernel
theorem dX6_addMember_33 : decode (mc mX6_addMember) 33 = .ok (.ireturn, 1) := by decide +kernel
theorem dX6_setPrice_0 : decode (mc mX6_setPrice) 0 = .ok (.aload_n 0, 1) := by decide +kernel
theorem dX6_setPrice_1 : decode (mc mX6_setPrice) 1 = .ok (.getfield 10, 3) := by decide +kernel
theorem dX6_setPrice_4 : decode (mc mX6_setPrice) 4 = .ok (.iload_n 1, 1) := by decide +kernel
theorem dX6_setPrice_5 : decode (mc mX6_setPrice) 5 = .ok (.invokevirtual 56, 3) := by decide +kernel
theorem dX6_setPrice_8 : decode (mc mX6_setPrice) 8 = .ok (.ifCond .ne 6, 3) := by decide +kernel
theorem dX6_setPrice_11 : decode (mc mX6_setPrice) 11 = .ok (.ldc 60, 2) := by decide +kernel
theorem dX6_setPrice_13 : decode (mc mX6_setPrice) 13 = .ok (.ireturn, 1) := by decide +kernel
theorem dX6_setPrice_14 : decode (mc mX6_setPrice) 14 = .ok (.iload_n 2, 1) := by decide +kernel
theorem dX6_setPrice_15 : decode (mc mX6_setPrice) 15 = .ok (.ifCond .lt 10, 3) := by decide +kernel
theorem dX6_setPrice_18 : decode (mc mX6_setPrice) 18 = .ok (.iload_n 2, 1) := by decide +kernel
theorem dX6_setPrice_19 : decode (mc mX6_setPrice) 19 = .ok (.sipush 200, 3) := by decide +kernel
theorem dX6_setPrice_22 : decode (mc mX6_setPrice) 22 = .ok (.if_icmp .le 6, 3) := by decide +kernel
theorem dX6_setPrice_25 : decode (mc mX6_setPrice) 25 = .ok (.ldc 61, 2) := by decide +kernel
theorem dX6_setPrice_27 : decode (mc mX6_setPrice) 27 = .ok (.ireturn, 1) := by decide +kernel
theorem dX6_setPrice_28 : decode (mc mX6_setPrice) 28 = .ok (.aload_n 0, 1) := by decide +kernel
theorem dX6_setPrice_29 : decode (mc mX6_setPrice) 29 = .ok (.getfield 19, 3) := by decide +kernel
theorem dX6_setPrice_32 : decode (mc mX6_setPrice) 32 = .ok (.aload_n 0, 1) := by decide +kernel
theorem dX6_setPrice_33 : decode (mc mX6_setPrice) 33 = .ok (.getfield 10, 3) := by decide +kernel
theorem dX6_setPrice_36 : decode (mc mX6_setPrice) 36 = .ok (.invokevirtual 49, 3) := by decide +kernel
theorem dX6_setPrice_39 : decode (mc mX6_setPrice) 39 = .ok (.aload_n 0, 1) := by decide +kernel
theorem dX6_setPrice_40 : decode (mc mX6_setPrice) 40 = .ok (.getfield 10, 3) := by decide +kernel
theorem dX6_setPrice_43 : decode (mc mX6_setPrice) 43 = .ok (.iload_n 1, 1) := by decide +kernel
theorem dX6_setPrice_44 : decode (mc mX6_setPrice) 44 = .ok (.invokevirtual 62, 3) := by decide +kernel
theorem dX6_setPrice_47 : decode (mc mX6_setPrice) 47 = .ok (.istore_n 3, 1) := by decide +kernel
theorem dX6_setPrice_48 : decode (mc mX6_setPrice) 48 = .ok (.aload_n 0, 1) := by decide +kernel
theorem dX6_setPrice_49 : decode (mc mX6_setPrice) 49 = .ok (.getfield 10, 3) := by decide +kernel
theorem dX6_setPrice_52 : decode (mc mX6_setPrice) 52 = .ok (.iload_n 1, 1) := by decide +kernel
theorem dX6_setPrice_53 : decode (mc mX6_setPrice) 53 = .ok (.iload_n 2, 1) := by decide +kernel
theorem dX6_setPrice_54 : decode (mc mX6_setPrice) 54 = .ok (.invokevirtual 66, 3) := by decide +kernel
theorem dX6_setPrice_57 : decode (mc mX6_setPrice) 57 = .ok (.iload_n 3, 1) := by decide +kernel
theorem dX6_setPrice_58 : decode (mc mX6_setPrice) 58 = .ok (.ireturn, 1) := by decide +kernel
theorem dX6_set_0 : decode (mc mX6_set) 0 = .ok (.iload_n 1, 1) := by decide +kernel
theorem dX6_set_1 : decode (mc mX6_set) 1 = .ok (.ifCond .lt 8, 3) := by decide +kernel
theorem dX6_set_4 : decode (mc mX6_set) 4 = .ok (.iload_n 1, 1) := by decide +kernel
theorem dX6_set_5 : decode (mc mX6_set) 5 = .ok (.iconst 5, 1) := by decide +kernel
theorem dX6_set_6 : decode (mc mX6_set) 6 = .ok (.if_icmp .lt 6, 3) := by decide +kernel
theorem dX6_set_9 : decode (mc mX6_set) 9 = .ok (.ldc 60, 2) := by decide +kernel
theorem dX6_set_11 : decode (mc mX6_set) 11 = .ok (.ireturn, 1) := by decide +kernel
theorem dX6_set_12 : decode (mc mX6_set) 12 = .ok (.iload_n 2, 1) := by decide +kernel
theorem dX6_set_13 : decode (mc mX6_set) 13 = .ok (.getstatic 70, 3) := by decide +kernel
theorem dX6_set_16 : decode (mc mX6_set) 16 = .ok (.iload_n 1, 1) := by decide +kernel
theorem dX6_set_17 : decode (mc mX6_set) 17 = .ok (.iaload, 1) := by decide +kernel
theorem dX6_set_18 : decode (mc mX6_set) 18 = .ok (.if_icmp .lt 12, 3) := by decide +kernel
theorem dX6_set_21 : decode (mc mX6_set) 21 = .ok (.iload_n 2, 1) := by decide +kernel
theorem dX6_set_22 : decode (mc mX6_set) 22 = .ok (.getstatic 74, 3) := by decide +kernel
theorem dX6_set_25 : decode (mc mX6_set) 25 = .ok (.iload_n 1, 1) := by decide +kernel
theorem dX6_set_26 : decode (mc mX6_set) 26 = .ok (.iaload, 1) := by decide +kernel
theorem dX6_set_27 : decode (mc mX6_set) 27 = .ok (.if_icmp .le 6, 3) := by decide +kernel
theorem dX6_set_30 : decode (mc mX6_set) 30 = .ok (.ldc 61, 2) := by decide +kernel
theorem dX6_set_32 : decode (mc mX6_set) 32 = .ok (.ireturn, 1) := by decide +kernel
theorem dX6_set_33 : decode (mc mX6_set) 33 = .ok (.aload_n 0, 1) := by decide +kernel
theorem dX6_set_34 : decode (mc mX6_set) 34 = .ok (.getfield 19, 3) := by decide +kernel
theorem dX6_set_37 : decode (mc mX6_set) 37 = .ok (.aload_n 0, 1) := by decide +kernel
theorem dX6_set_38 : decode (mc mX6_set) 38 = .ok (.getfield 10, 3) := by decide +kernel
theorem dX6_set_41 : decode (mc mX6_set) 41 = .ok (.invokevirtual 49, 3) := by decide +kernel
theorem dX6_set_44 : decode (mc mX6_set) 44 = .ok (.aload_n 0, 1) := by decide +kernel
theorem dX6_set_45 : decode (mc mX6_set) 45 = .ok (.getfield 10, 3) := by decide +kernel
theorem dX6_set_48 : decode (mc mX6_set) 48 = .ok (.iload_n 1, 1) := by decide +kernel
theorem dX6_set_49 : decode (mc mX6_set) 49 = .ok (.invokevirtual 77, 3) := by decide +kernel
theorem dX6_set_52 : decode (mc mX6_set) 52 = .ok (.istore_n 3, 1) := by decide +kernel
theorem dX6_set_53 : decode (mc mX6_set) 53 = .ok (.aload_n 0, 1) := by decide +kernel
theorem dX6_set_54 : decode (mc mX6_set) 54 = .ok (.getfield 10, 3) := by decide +kernel
theorem dX6_set_57 : decode (mc mX6_set) 57 = .ok (.iload_n 1, 1) := by decide +kernel
theorem dX6_set_58 : decode (mc mX6_set) 58 = .ok (.iload_n 2, 1) := by decide +kernel
theorem dX6_set_59 : decode (mc mX6_set) 59 = .ok (.invokevirtual 80, 3) := by decide +kernel
theorem dX6_set_62 : decode (mc mX6_set) 62 = .ok (.iload_n 3, 1) := by decide +kernel
theorem dX6_set_63 : decode (mc mX6_set) 63 = .ok (.ireturn, 1) := by decide +kernel
theorem dX6_count_0 : decode (mc mX6_count) 0 = .ok (.iload_n 1, 1) := by decide +kernel
theorem dX6_count_1 : decode (mc mX6_count) 1 = .ok (.ifCond .lt 9, 3) := by decide +kernel
theorem dX6_count_4 : decode (mc mX6_count) 4 = .ok (.iload_n 1, 1) := by decide +kernel
theorem dX6_count_5 : decode (mc mX6_count) 5 = .ok (.bipush 14, 2) := by decide +kernel
theorem dX6_count_7 : decode (mc mX6_count) 7 = .ok (.if_icmp .lt 6, 3) := by decide +kernel
theorem dX6_count_10 : decode (mc mX6_count) 10 = .ok (.ldc 61, 2) := by decide +kernel
theorem dX6_count_12 : decode (mc mX6_count) 12 = .ok (.ireturn, 1) := by decide +kernel
theorem dX6_count_13 : decode (mc mX6_count) 13 = .ok (.iload_n 1, 1) := by decide +kernel
theorem dX6_count_14 : decode (mc mX6_count) 14 = .ok (.bipush 13, 2) := by decide +kernel
theorem dX6_count_16 : decode (mc mX6_count) 16 = .ok (.if_icmp .ne 13, 3) := by decide +kernel
theorem dX6_count_19 : decode (mc mX6_count) 19 = .ok (.aload_n 0, 1) := by decide +kernel
theorem dX6_count_20 : decode (mc mX6_count) 20 = .ok (.getfield 26, 3) := by decide +kernel
theorem dX6_count_23 : decode (mc mX6_count) 23 = .ok (.getfield 83, 3) := by decide +kernel
theorem dX6_count_26 : decode (mc mX6_count) 26 = .ok (.goto 11, 3) := by decide +kernel
theorem dX6_count_29 : decode (mc mX6_count) 29 = .ok (.aload_n 0, 1) := by decide +kernel
theorem dX6_count_30 : decode (mc mX6_count) 30 = .ok (.getfield 10, 3) := by decide +kernel
theorem dX6_count_33 : decode (mc mX6_count) 33 = .ok (.iload_n 1, 1) := by decide +kernel
theorem dX6_count_34 : decode (mc mX6_count) 34 = .ok (.invokevirtual 87, 3) := by decide +kernel
theorem dX6_count_37 : decode (mc mX6_count) 37 = .ok (.ireturn, 1) := by decide +kernel
theorem dX6_member_0 : decode (mc mX6_member) 0 = .ok (.aload_n 0, 1) := by decide +kernel
theorem dX6_member_1 : decode (mc mX6_member) 1 = .ok (.getfield 10, 3) := by decide +kernel
theorem dX6_member_4 : decode (mc mX6_member) 4 = .ok (.iload_n 1, 1) := by decide +kernel
theorem dX6_member_5 : decode (mc mX6_member) 5 = .ok (.invokevirtual 56, 3) := by decide +kernel
theorem dX6_member_8 : decode (mc mX6_member) 8 = .ok (.ifCond .ne 6, 3) := by decide +kernel
theorem dX6_member_11 : decode (mc mX6_member) 11 = .ok (.ldc 60, 2) := by decide +kernel
theorem dX6_member_13 : decode (mc mX6_member) 13 = .ok (.ireturn, 1) := by decide +kernel
theorem dX6_member_14 : decode (mc mX6_member) 14 = .ok (.iload_n 2, 1) := by decide +kernel
theorem dX6_member_15 : decode (mc mX6_member) 15 = .ok (.ifCond .lt 8, 3) := by decide +kernel
theorem dX6_member_18 : decode (mc mX6_member) 18 = .ok (.iload_n 2, 1) := by decide +kernel
theorem dX6_member_19 : decode (mc mX6_member) 19 = .ok (.iconst 5, 1) := by decide +kernel
theorem dX6_member_20 : decode (mc mX6_member) 20 = .ok (.if_icmp .lt 6, 3) := by decide +kernel
theorem dX6_member_23 : decode (mc mX6_member) 23 = .ok (.ldc 61, 2) := by decide +kernel
theorem dX6_member_25 : decode (mc mX6_member) 25 = .ok (.ireturn, 1) := by decide +kernel
theorem dX6_member_26 : decode (mc mX6_member) 26 = .ok (.aload_n 0, 1) := by decide +kernel
theorem dX6_member_27 : decode (mc mX6_member) 27 = .ok (.getfield 10, 3) := by decide +kernel
theorem dX6_member_30 : decode (mc mX6_member) 30 = .ok (.iload_n 1, 1) := by decide +kernel
theorem dX6_member_31 : decode (mc mX6_member) 31 = .ok (.iload_n 2, 1) := by decide +kernel
theorem dX6_member_32 : decode (mc mX6_member) 32 = .ok (.invokevirtual 90, 3) := by decide +kernel
theorem dX6_member_35 : decode (mc mX6_member) 35 = .ok (.ireturn, 1) := by decide +kernel
theorem dX6_addPhrase_0 : decode (mc mX6_addPhrase) 0 = .ok (.aload_n 0, 1) := by decide +kernel
theorem dX6_addPhrase_1 : decode (mc mX6_addPhrase) 1 = .ok (.getfield 10, 3) := by decide +kernel
theorem dX6_addPhrase_4 : decode (mc mX6_addPhrase) 4 = .ok (.iload_n 1, 1) := by decide +kernel
theorem dX6_addPhrase_5 : decode (mc mX6_addPhrase) 5 = .ok (.invokevirtual 56, 3) := by decide +kernel
theorem dX6_addPhrase_8 : decode (mc mX6_addPhrase) 8 = .ok (.ifCond .eq 20, 3) := by decide +kernel
theorem dX6_addPhrase_11 : decode (mc mX6_addPhrase) 11 = .ok (.iload_n 3, 1) := by decide +kernel
theorem dX6_addPhrase_12 : decode (mc mX6_addPhrase) 12 = .ok (.ldc 94, 2) := by decide +kernel
theorem dX6_addPhrase_14 : decode (mc mX6_addPhrase) 14 = .ok (.if_icmp .eq 17, 3) := by decide +kernel
theorem dX6_addPhrase_17 : decode (mc mX6_addPhrase) 17 = .ok (.aload_n 0, 1) := by decide +kernel
theorem dX6_addPhrase_18 : decode (mc mX6_addPhrase) 18 = .ok (.getfield 10, 3) := by decide +kernel
theorem dX6_addPhrase_21 : decode (mc mX6_addPhrase) 21 = .ok (.iload_n 3, 1) := by decide +kernel
theorem dX6_addPhrase_22 : decode (mc mX6_addPhrase) 22 = .ok (.invokevirtual 95, 3) := by decide +kernel
theorem dX6_addPhrase_25 : decode (mc mX6_addPhrase) 25 = .ok (.ifCond .ne 6, 3) := by decide +kernel
theorem dX6_addPhrase_28 : decode (mc mX6_addPhrase) 28 = .ok (.ldc 60, 2) := by decide +kernel
theorem dX6_addPhrase_30 : decode (mc mX6_addPhrase) 30 = .ok (.ireturn, 1) := by decide +kernel
theorem dX6_addPhrase_31 : decode (mc mX6_addPhrase) 31 = .ok (.iload_n 2, 1) := by decide +kernel
theorem dX6_addPhrase_32 : decode (mc mX6_addPhrase) 32 = .ok (.ifCond .lt 10, 3) := by decide +kernel
theorem dX6_addPhrase_35 : decode (mc mX6_addPhrase) 35 = .ok (.iload_n 2, 1) := by decide +kernel
theorem dX6_addPhrase_36 : decode (mc mX6_addPhrase) 36 = .ok (.sipush 999, 3) := by decide +kernel
theorem dX6_addPhrase_39 : decode (mc mX6_addPhrase) 39 = .ok (.if_icmp .le 6, 3) := by decide +kernel
theorem dX6_addPhrase_42 : decode (mc mX6_addPhrase) 42 = .ok (.ldc 61, 2) := by decide +kernel
theorem dX6_addPhrase_44 : decode (mc mX6_addPhrase) 44 = .ok (.ireturn, 1) := by decide +kernel
theorem dX6_addPhrase_45 : decode (mc mX6_addPhrase) 45 = .ok (.aload_n 0, 1) := by decide +kernel
theorem dX6_addPhrase_46 : decode (mc mX6_addPhrase) 46 = .ok (.getfield 26, 3) := by decide +kernel
theorem dX6_addPhrase_49 : decode (mc mX6_addPhrase) 49 = .ok (.invokevirtual 98, 3) := by decide +kernel
theorem dX6_addPhrase_52 : decode (mc mX6_addPhrase) 52 = .ok (.ifCond .ne 20, 3) := by decide +kernel
theorem dX6_addPhrase_55 : decode (mc mX6_addPhrase) 55 = .ok (.iload_n 3, 1) := by decide +kernel
theorem dX6_addPhrase_56 : decode (mc mX6_addPhrase) 56 = .ok (.ldc 94, 2) := by decide +kernel
theorem dX6_addPhrase_58 : decode (mc mX6_addPhrase) 58 = .ok (.if_icmp .eq 17, 3) := by decide +kernel
theorem dX6_addPhrase_61 : decode (mc mX6_addPhrase) 61 = .ok (.aload_n 0, 1) := by decide +kernel
theorem dX6_addPhrase_62 : decode (mc mX6_addPhrase) 62 = .ok (.getfield 10, 3) := by decide +kernel
theorem dX6_addPhrase_65 : decode (mc mX6_addPhrase) 65 = .ok (.iload_n 3, 1) := by decide +kernel
theorem dX6_addPhrase_66 : decode (mc mX6_addPhrase) 66 = .ok (.invokevirtual 102, 3) := by decide +kernel
theorem dX6_addPhrase_69 : decode (mc mX6_addPhrase) 69 = .ok (.ifCond .ne 6, 3) := by decide +kernel
theorem dX6_addPhrase_72 : decode (mc mX6_addPhrase) 72 = .ok (.ldc 105, 2) := by decide +kernel
theorem dX6_addPhrase_74 : decode (mc mX6_addPhrase) 74 = .ok (.ireturn, 1) := by decide +kernel
theorem dX6_addPhrase_75 : decode (mc mX6_addPhrase) 75 = .ok (.aload_n 0, 1) := by decide +kernel
theorem dX6_addPhrase_76 : decode (mc mX6_addPhrase) 76 = .ok (.getfield 10, 3) := by decide +kernel
theorem dX6_addPhrase_79 : decode (mc mX6_addPhrase) 79 = .ok (.invokevirtual 106, 3) := by decide +kernel
theorem dX6_addPhrase_82 : decode (mc mX6_addPhrase) 82 = .ok (.bipush 20, 2) := by decide +kernel
theorem dX6_addPhrase_84 : decode (mc mX6_addPhrase) 84 = .ok (.if_icmp .lt 6, 3) := by decide +kernel
theorem dX6_addPhrase_87 : decode (mc mX6_addPhrase) 87 = .ok (.ldc 48, 2) := by decide +kernel
theorem dX6_addPhrase_89 : decode (mc mX6_addPhrase) 89 = .ok (.ireturn, 1) := by decide +kernel
theorem dX6_addPhrase_90 : decode (mc mX6_addPhrase) 90 = .ok (.aload_n 0, 1) := by decide +kernel
theorem dX6_addPhrase_91 : decode (mc mX6_addPhrase) 91 = .ok (.getfield 19, 3) := by decide +kernel
theorem dX6_addPhrase_94 : decode (mc mX6_addPhrase) 94 = .ok (.aload_n 0, 1) := by decide +kernel
theorem dX6_addPhrase_95 : decode (mc mX6_addPhrase) 95 = .ok (.getfield 10, 3) := by decide +kernel
theorem dX6_addPhrase_98 : decode (mc mX6_addPhrase) 98 = .ok (.invokevirtual 49, 3) := by decide +kernel
theorem dX6_addPhrase_101 : decode (mc mX6_addPhrase) 101 = .ok (.aload_n 0, 1) := by decide +kernel
theorem dX6_addPhrase_102 : decode (mc mX6_addPhrase) 102 = .ok (.getfield 26, 3) := by decide +kernel
theorem dX6_addPhrase_105 : decode (mc mX6_addPhrase) 105 = .ok (.aload_n 0, 1) := by decide +kernel
theorem dX6_addPhrase_106 : decode (mc mX6_addPhrase) 106 = .ok (.getfield 33, 3) := by decide +kernel
theorem dX6_addPhrase_109 : decode (mc mX6_addPhrase) 109 = .ok (.invokevirtual 109, 3) := by decide +kernel
theorem dX6_addPhrase_112 : decode (mc mX6_addPhrase) 112 = .ok (.aload_n 0, 1) := by decide +kernel
theorem dX6_addPhrase_113 : decode (mc mX6_addPhrase) 113 = .ok (.getfield 10, 3) := by decide +kernel
theorem dX6_addPhrase_116 : decode (mc mX6_addPhrase) 116 = .ok (.iload_n 1, 1) := by decide +kernel
theorem dX6_addPhrase_117 : decode (mc mX6_addPhrase) 117 = .ok (.iload_n 2, 1) := by decide +kernel
theorem dX6_addPhrase_118 : decode (mc mX6_addPhrase) 118 = .ok (.iload_n 3, 1) := by decide +kernel
theorem dX6_addPhrase_119 : decode (mc mX6_addPhrase) 119 = .ok (.aload_n 0, 1) := by decide +kernel
theorem dX6_addPhrase_120 : decode (mc mX6_addPhrase) 120 = .ok (.getfield 33, 3) := by decide +kernel
theorem dX6_addPhrase_123 : decode (mc mX6_addPhrase) 123 = .ok (.invokevirtual 113, 3) := by decide +kernel
theorem dX6_addPhrase_126 : decode (mc mX6_addPhrase) 126 = .ok (.ireturn, 1) := by decide +kernel
theorem dX6_phrase_0 : decode (mc mX6_phrase) 0 = .ok (.aload_n 0, 1) := by decide +kernel
theorem dX6_phrase_1 : decode (mc mX6_phrase) 1 = .ok (.getfield 10, 3) := by decide +kernel
theorem dX6_phrase_4 : decode (mc mX6_phrase) 4 = .ok (.iload_n 1, 1) := by decide +kernel
theorem dX6_phrase_5 : decode (mc mX6_phrase) 5 = .ok (.invokevirtual 95, 3) := by decide +kernel
theorem dX6_phrase_8 : decode (mc mX6_phrase) 8 = .ok (.ifCond .ne 6, 3) := by decide +kernel
theorem dX6_phrase_11 : decode (mc mX6_phrase) 11 = .ok (.ldc 60, 2) := by decide +kernel
theorem dX6_phrase_13 : decode (mc mX6_phrase) 13 = .ok (.ireturn, 1) := by decide +kernel
theorem dX6_phrase_14 : decode (mc mX6_phrase) 14 = .ok (.iload_n 2, 1) := by decide +kernel
theorem dX6_phrase_15 : decode (mc mX6_phrase) 15 = .ok (.ifCond .lt 9, 3) := by decide +kernel
theorem dX6_phrase_18 : decode (mc mX6_phrase) 18 = .ok (.iload_n 2, 1) := by decide +kernel
theorem dX6_phrase_19 : decode (mc mX6_phrase) 19 = .ok (.bipush 7, 2) := by decide +kernel
theorem dX6_phrase_21 : decode (mc mX6_phrase) 21 = .ok (.if_icmp .lt 6, 3) := by decide +kernel
theorem dX6_phrase_24 : decode (mc mX6_phrase) 24 = .ok (.ldc 61, 2) := by decide +kernel
theorem dX6_phrase_26 : decode (mc mX6_phrase) 26 = .ok (.ireturn, 1) := by decide +kernel
theorem dX6_phrase_27 : decode (mc mX6_phrase) 27 = .ok (.aload_n 0, 1) := by decide +kernel
theorem dX6_phrase_28 : decode (mc mX6_phrase) 28 = .ok (.getfield 10, 3) := by decide +kernel
theorem dX6_phrase_31 : decode (mc mX6_phrase) 31 = .ok (.iload_n 1, 1) := by decide +kernel
theorem dX6_phrase_32 : decode (mc mX6_phrase) 32 = .ok (.iload_n 2, 1) := by decide +kernel
theorem dX6_phrase_33 : decode (mc mX6_phrase) 33 = .ok (.invokevirtual 117, 3) := by decide +kernel
theorem dX6_phrase_36 : decode (mc mX6_phrase) 36 = .ok (.ireturn, 1) := by decide +kernel
theorem dX6_word_0 : decode (mc mX6_word) 0 = .ok (.aload_n 0, 1) := by decide +kernel
theorem dX6_word_1 : decode (mc mX6_word) 1 = .ok (.getfield 10, 3) := by decide +kernel
theorem dX6_word_4 : decode (mc mX6_word) 4 = .ok (.iload_n 1, 1) := by decide +kernel
theorem dX6_word_5 : decode (mc mX6_word) 5 = .ok (.invokevirtual 95, 3) := by decide +kernel
theorem dX6_word_8 : decode (mc mX6_word) 8 = .ok (.ifCond .ne 6, 3) := by decide +kernel
theorem dX6_word_11 : decode (mc mX6_word) 11 = .ok (.ldc 60, 2) := by decide +kernel
theorem dX6_word_13 : decode (mc mX6_word) 13 = .ok (.ireturn, 1) := by decide +kernel
theorem dX6_word_14 : decode (mc mX6_word) 14 = .ok (.iload_n 2, 1) := by decide +kernel
theorem dX6_word_15 : decode (mc mX6_word) 15 = .ok (.ifCond .ge 6, 3) := by decide +kernel
theorem dX6_word_18 : decode (mc mX6_word) 18 = .ok (.ldc 61, 2) := by decide +kernel
theorem dX6_word_20 : decode (mc mX6_word) 20 = .ok (.ireturn, 1) := by decide +kernel
theorem dX6_word_21 : decode (mc mX6_word) 21 = .ok (.iload_n 2, 1) := by decide +kernel
theorem dX6_word_22 : decode (mc mX6_word) 22 = .ok (.aload_n 0, 1) := by decide +kernel
theorem dX6_word_23 : decode (mc mX6_word) 23 = .ok (.getfield 10, 3) := by decide +kernel
theorem dX6_word_26 : decode (mc mX6_word) 26 = .ok (.iload_n 1, 1) := by decide +kernel
theorem dX6_word_27 : decode (mc mX6_word) 27 = .ok (.invokevirtual 120, 3) := by decide +kernel
theorem dX6_word_30 : decode (mc mX6_word) 30 = .ok (.if_icmp .ge 15, 3) := by decide +kernel
theorem dX6_word_33 : decode (mc mX6_word) 33 = .ok (.aload_n 0, 1) := by decide +kernel
theorem dX6_word_34 : decode (mc mX6_word) 34 = .ok (.getfield 10, 3) := by decide +kernel
theorem dX6_word_37 : decode (mc mX6_word) 37 = .ok (.iload_n 1, 1) := by decide +kernel
theorem dX6_word_38 : decode (mc mX6_word) 38 = .ok (.iload_n 2, 1) := by decide +kernel
theorem dX6_word_39 : decode (mc mX6_word) 39 = .ok (.invokevirtual 123, 3) := by decide +kernel
theorem dX6_word_42 : decode (mc mX6_word) 42 = .ok (.goto 5, 3) := by decide +kernel
theorem dX6_word_45 : decode (mc mX6_word) 45 = .ok (.ldc 94, 2) := by decide +kernel
theorem dX6_word_47 : decode (mc mX6_word) 47 = .ok (.ireturn, 1) := by decide +kernel
theorem dX6_score_0 : decode (mc mX6_score) 0 = .ok (.aload_n 0, 1) := by decide +kernel
theorem dX6_score_1 : decode (mc mX6_score) 1 = .ok (.getfield 10, 3) := by decide +kernel
theorem dX6_score_4 : decode (mc mX6_score) 4 = .ok (.iload_n 1, 1) := by decide +kernel
theorem dX6_score_5 : decode (mc mX6_score) 5 = .ok (.invokevirtual 95, 3) := by decide +kernel
theorem dX6_score_8 : decode (mc mX6_score) 8 = .ok (.ifCond .eq 14, 3) := by decide +kernel
theorem dX6_score_11 : decode (mc mX6_score) 11 = .ok (.aload_n 0, 1) := by decide +kernel
theorem dX6_score_12 : decode (mc mX6_score) 12 = .ok (.getfield 10, 3) := by decide +kernel
theorem dX6_score_15 : decode (mc mX6_score) 15 = .ok (.iload_n 2, 1) := by decide +kernel
theorem dX6_score_16 : decode (mc mX6_score) 16 = .ok (.invokevirtual 95, 3) := by decide +kernel
theorem dX6_score_19 : decode (mc mX6_score) 19 = .ok (.ifCond .ne 6, 3) := by decide +kernel
theorem dX6_score_22 : decode (mc mX6_score) 22 = .ok (.ldc 60, 2) := by decide +kernel
theorem dX6_score_24 : decode (mc mX6_score) 24 = .ok (.ireturn, 1) := by decide +kernel
theorem dX6_score_25 : decode (mc mX6_score) 25 = .ok (.aload_n 0, 1) := by decide +kernel
theorem dX6_score_26 : decode (mc mX6_score) 26 = .ok (.getfield 10, 3) := by decide +kernel
theorem dX6_score_29 : decode (mc mX6_score) 29 = .ok (.iload_n 1, 1) := by decide +kernel
theorem dX6_score_30 : decode (mc mX6_score) 30 = .ok (.iload_n 2, 1) := by decide +kernel
theorem dX6_score_31 : decode (mc mX6_score) 31 = .ok (.invokevirtual 126, 3) := by decide +kernel
theorem dX6_score_34 : decode (mc mX6_score) 34 = .ok (.ireturn, 1) := by decide +kernel
theorem dX6_agreed_0 : decode (mc mX6_agreed) 0 = .ok (.aload_n 0, 1) := by decide +kernel
theorem dX6_agreed_1 : decode (mc mX6_agreed) 1 = .ok (.getfield 26, 3) := by decide +kernel
theorem dX6_agreed_4 : decode (mc mX6_agreed) 4 = .ok (.invokevirtual 98, 3) := by decide +kernel
theorem dX6_agreed_7 : decode (mc mX6_agreed) 7 = .ok (.ifCond .eq 6, 3) := by decide +kernel
theorem dX6_agreed_10 : decode (mc mX6_agreed) 10 = .ok (.ldc 105, 2) := by decide +kernel
theorem dX6_agreed_12 : decode (mc mX6_agreed) 12 = .ok (.ireturn, 1) := by decide +kernel
theorem dX6_agreed_13 : decode (mc mX6_agreed) 13 = .ok (.aload_n 0, 1) := by decide +kernel
theorem dX6_agreed_14 : decode (mc mX6_agreed) 14 = .ok (.getfield 26, 3) := by decide +kernel
theorem dX6_agreed_17 : decode (mc mX6_agreed) 17 = .ok (.aload_n 0, 1) := by decide +kernel
theorem dX6_agreed_18 : decode (mc mX6_agreed) 18 = .ok (.getfield 33, 3) := by decide +kernel
theorem dX6_agreed_21 : decode (mc mX6_agreed) 21 = .ok (.invokevirtual 109, 3) := by decide +kernel
theorem dX6_agreed_24 : decode (mc mX6_agreed) 24 = .ok (.ldc 94, 2) := by decide +kernel
theorem dX6_agreed_26 : decode (mc mX6_agreed) 26 = .ok (.istore_n 1, 1) := by decide +kernel
theorem dX6_agreed_27 : decode (mc mX6_agreed) 27 = .ok (.iconst 0, 1) := by decide +kernel
theorem dX6_agreed_28 : decode (mc mX6_agreed) 28 = .ok (.istore_n 2, 1) := by decide +kernel
theorem dX6_agreed_29 : decode (mc mX6_agreed) 29 = .ok (.iconst 0, 1) := by decide +kernel
theorem dX6_agreed_30 : decode (mc mX6_agreed) 30 = .ok (.istore_n 3, 1) := by decide +kernel
theorem dX6_agreed_31 : decode (mc mX6_agreed) 31 = .ok (.iload_n 3, 1) := by decide +kernel
theorem dX6_agreed_32 : decode (mc mX6_agreed) 32 = .ok (.aload_n 0, 1) := by decide +kernel
theorem dX6_agreed_33 : decode (mc mX6_agreed) 33 = .ok (.getfield 10, 3) := by decide +kernel
theorem dX6_agreed_36 : decode (mc mX6_agreed) 36 = .ok (.invokevirtual 106, 3) := by decide +kernel
theorem dX6_agreed_39 : decode (mc mX6_agreed) 39 = .ok (.if_icmp .ge 73, 3) := by decide +kernel
theorem dX6_agreed_42 : decode (mc mX6_agreed) 42 = .ok (.aload_n 0, 1) := by decide +kernel
theorem dX6_agreed_43 : decode (mc mX6_agreed) 43 = .ok (.getfield 10, 3) := by decide +kernel
theorem dX6_agreed_46 : decode (mc mX6_agreed) 46 = .ok (.iload_n 3, 1) := by decide +kernel
theorem dX6_agreed_47 : decode (mc mX6_agreed) 47 = .ok (.aload_n 0, 1) := by decide +kernel
theorem dX6_agreed_48 : decode (mc mX6_agreed) 48 = .ok (.getfield 33, 3) := by decide +kernel
theorem dX6_agreed_51 : decode (mc mX6_agreed) 51 = .ok (.invokevirtual 129, 3) := by decide +kernel
theorem dX6_agreed_54 : decode (mc mX6_agreed) 54 = .ok (.ifCond .eq 52, 3) := by decide +kernel
theorem dX6_agreed_57 : decode (mc mX6_agreed) 57 = .ok (.aload_n 0, 1) := by decide +kernel
theorem dX6_agreed_58 : decode (mc mX6_agreed) 58 = .ok (.getfield 10, 3) := by decide +kernel
theorem dX6_agreed_61 : decode (mc mX6_agreed) 61 = .ok (.iload_n 3, 1) := by decide +kernel
theorem dX6_agreed_62 : decode (mc mX6_agreed) 62 = .ok (.invokevirtual 133, 3) := by decide +kernel
theorem dX6_agreed_65 : decode (mc mX6_agreed) 65 = .ok (.istore 4, 2) := by decide +kernel
theorem dX6_agreed_67 : decode (mc mX6_agreed) 67 = .ok (.aload_n 0, 1) := by decide +kernel
theorem dX6_agreed_68 : decode (mc mX6_agreed) 68 = .ok (.getfield 10, 3) := by decide +kernel
theorem dX6_agreed_71 : decode (mc mX6_agreed) 71 = .ok (.iload 4, 2) := by decide +kernel
theorem dX6_agreed_73 : decode (mc mX6_agreed) 73 = .ok (.aload_n 0, 1) := by decide +kernel
theorem dX6_agreed_74 : decode (mc mX6_agreed) 74 = .ok (.getfield 33, 3) := by decide +kernel
theorem dX6_agreed_77 : decode (mc mX6_agreed) 77 = .ok (.invokevirtual 136, 3) := by decide +kernel
theorem dX6_agreed_80 : decode (mc mX6_agreed) 80 = .ok (.istore 5, 2) := by decide +kernel
theorem dX6_agreed_82 : decode (mc mX6_agreed) 82 = .ok (.iload 5, 2) := by decide +kernel
theorem dX6_agreed_84 : decode (mc mX6_agreed) 84 = .ok (.iload_n 2, 1) := by decide +kernel
theorem dX6_agreed_85 : decode (mc mX6_agreed) 85 = .ok (.if_icmp .gt 15, 3) := by decide +kernel
theorem dX6_agreed_88 : decode (mc mX6_agreed) 88 = .ok (.iload 5, 2) := by decide +kernel
theorem dX6_agreed_90 : decode (mc mX6_agreed) 90 = .ok (.iload_n 2, 1) := by decide +kernel
theorem dX6_agreed_91 : decode (mc mX6_agreed) 91 = .ok (.if_icmp .ne 15, 3) := by decide +kernel
theorem dX6_agreed_94 : decode (mc mX6_agreed) 94 = .ok (.iload 4, 2) := by decide +kernel
theorem dX6_agreed_96 : decode (mc mX6_agreed) 96 = .ok (.iload_n 1, 1) := by decide +kernel
theorem dX6_agreed_97 : decode (mc mX6_agreed) 97 = .ok (.if_icmp .ge 9, 3) := by decide +kernel
theorem dX6_agreed_100 : decode (mc mX6_agreed) 100 = .ok (.iload 4, 2) := by decide +kernel
theorem dX6_agreed_102 : decode (mc mX6_agreed) 102 = .ok (.istore_n 1, 1) := by decide +kernel
theorem dX6_agreed_103 : decode (mc mX6_agreed) 103 = .ok (.iload 5, 2) := by decide +kernel
theorem dX6_agreed_105 : decode (mc mX6_agreed) 105 = .ok (.istore_n 2, 1) := by decide +kernel
theorem dX6_agreed_106 : decode (mc mX6_agreed) 106 = .ok (.iinc 3 1, 3) := by decide +kernel
theorem dX6_agreed_109 : decode (mc mX6_agreed) 109 = .ok (.goto (-78), 3) := by decide +kernel
theorem dX6_agreed_112 : decode (mc mX6_agreed) 112 = .ok (.iload_n 1, 1) := by decide +kernel
theorem dX6_agreed_113 : decode (mc mX6_agreed) 113 = .ok (.ireturn, 1) := by decide +kernel
theorem dX6_match_0 : decode (mc mX6_match) 0 = .ok (.aload_n 0, 1) := by decide +kernel
theorem dX6_match_1 : decode (mc mX6_match) 1 = .ok (.getfield 26, 3) := by decide +kernel
theorem dX6_match_4 : decode (mc mX6_match) 4 = .ok (.invokevirtual 98, 3) := by decide +kernel
theorem dX6_match_7 : decode (mc mX6_match) 7 = .ok (.ifCond .eq 8, 3) := by decide +kernel
theorem dX6_match_10 : decode (mc mX6_match) 10 = .ok (.ldc 105, 2) := by decide +kernel
theorem dX6_match_12 : decode (mc mX6_match) 12 = .ok (.goto 7, 3) := by decide +kernel
theorem dX6_match_15 : decode (mc mX6_match) 15 = .ok (.aload_n 0, 1) := by decide +kernel
theorem dX6_match_16 : decode (mc mX6_match) 16 = .ok (.invokevirtual 140, 3) := by decide +kernel
theorem dX6_match_19 : decode (mc mX6_match) 19 = .ok (.ireturn, 1) := by decide +kernel
theorem dX6_alike_0 : decode (mc mX6_alike) 0 = .ok (.aload_n 0, 1) := by decide +kernel
theorem dX6_alike_1 : decode (mc mX6_alike) 1 = .ok (.getfield 10, 3) := by decide +kernel
theorem dX6_alike_4 : decode (mc mX6_alike) 4 = .ok (.iload_n 1, 1) := by decide +kernel
theorem dX6_alike_5 : decode (mc mX6_alike) 5 = .ok (.invokevirtual 95, 3) := by decide +kernel
theorem dX6_alike_8 : decode (mc mX6_alike) 8 = .ok (.ifCond .ne 6, 3) := by decide +kernel
theorem dX6_alike_11 : decode (mc mX6_alike) 11 = .ok (.ldc 60, 2) := by decide +kernel
theorem dX6_alike_13 : decode (mc mX6_alike) 13 = .ok (.ireturn, 1) := by decide +kernel
theorem dX6_alike_14 : decode (mc mX6_alike) 14 = .ok (.aload_n 0, 1) := by decide +kernel
theorem dX6_alike_15 : decode (mc mX6_alike) 15 = .ok (.getfield 26, 3) := by decide +kernel
theorem dX6_alike_18 : decode (mc mX6_alike) 18 = .ok (.invokevirtual 98, 3) := by decide +kernel
theorem dX6_alike_21 : decode (mc mX6_alike) 21 = .ok (.ifCond .eq 6, 3) := by decide +kernel
theorem dX6_alike_24 : decode (mc mX6_alike) 24 = .ok (.ldc 105, 2) := by decide +kernel
theorem dX6_alike_26 : decode (mc mX6_alike) 26 = .ok (.ireturn, 1) := by decide +kernel
theorem dX6_alike_27 : decode (mc mX6_alike) 27 = .ok (.aload_n 0, 1) := by decide +kernel
theorem dX6_alike_28 : decode (mc mX6_alike) 28 = .ok (.getfield 26, 3) := by decide +kernel
theorem dX6_alike_31 : decode (mc mX6_alike) 31 = .ok (.aload_n 0, 1) := by decide +kernel
theorem dX6_alike_32 : decode (mc mX6_alike) 32 = .ok (.getfield 33, 3) := by decide +kernel
theorem dX6_alike_35 : decode (mc mX6_alike) 35 = .ok (.invokevirtual 109, 3) := by decide +kernel
theorem dX6_alike_38 : decode (mc mX6_alike) 38 = .ok (.aload_n 0, 1) := by decide +kernel
theorem dX6_alike_39 : decode (mc mX6_alike) 39 = .ok (.getfield 10, 3) := by decide +kernel
theorem dX6_alike_42 : decode (mc mX6_alike) 42 = .ok (.aload_n 0, 1) := by decide +kernel
theorem dX6_alike_43 : decode (mc mX6_alike) 43 = .ok (.getfield 33, 3) := by decide +kernel
theorem dX6_alike_46 : decode (mc mX6_alike) 46 = .ok (.iload_n 1, 1) := by decide +kernel
theorem dX6_alike_47 : decode (mc mX6_alike) 47 = .ok (.invokevirtual 143, 3) := by decide +kernel
theorem dX6_alike_50 : decode (mc mX6_alike) 50 = .ok (.ireturn, 1) := by decide +kernel
theorem dX6_fee_0 : decode (mc mX6_fee) 0 = .ok (.aload_n 0, 1) := by decide +kernel
theorem dX6_fee_1 : decode (mc mX6_fee) 1 = .ok (.getfield 10, 3) := by decide +kernel
theorem dX6_fee_4 : decode (mc mX6_fee) 4 = .ok (.iload_n 1, 1) := by decide +kernel
theorem dX6_fee_5 : decode (mc mX6_fee) 5 = .ok (.invokevirtual 56, 3) := by decide +kernel
theorem dX6_fee_8 : decode (mc mX6_fee) 8 = .ok (.ifCond .ne 6, 3) := by decide +kernel
theorem dX6_fee_11 : decode (mc mX6_fee) 11 = .ok (.ldc 60, 2) := by decide +kernel
theorem dX6_fee_13 : decode (mc mX6_fee) 13 = .ok (.ireturn, 1) := by decide +kernel
theorem dX6_fee_14 : decode (mc mX6_fee) 14 = .ok (.aload_n 0, 1) := by decide +kernel
theorem dX6_fee_15 : decode (mc mX6_fee) 15 = .ok (.getfield 26, 3) := by decide +kernel
theorem dX6_fee_18 : decode (mc mX6_fee) 18 = .ok (.invokevirtual 98, 3) := by decide +kernel
theorem dX6_fee_21 : decode (mc mX6_fee) 21 = .ok (.ifCond .eq 6, 3) := by decide +kernel
theorem dX6_fee_24 : decode (mc mX6_fee) 24 = .ok (.ldc 105, 2) := by decide +kernel
theorem dX6_fee_26 : decode (mc mX6_fee) 26 = .ok (.ireturn, 1) := by decide +kernel
theorem dX6_fee_27 : decode (mc mX6_fee) 27 = .ok (.aload_n 0, 1) := by decide +kernel
theorem dX6_fee_28 : decode (mc mX6_fee) 28 = .ok (.invokevirtual 140, 3) := by decide +kernel
theorem dX6_fee_31 : decode (mc mX6_fee) 31 = .ok (.istore_n 2, 1) := by decide +kernel
theorem dX6_fee_32 : decode (mc mX6_fee) 32 = .ok (.iload_n 2, 1) := by decide +kernel
theorem dX6_fee_33 : decode (mc mX6_fee) 33 = .ok (.ldc 94, 2) := by decide +kernel
theorem dX6_fee_35 : decode (mc mX6_fee) 35 = .ok (.if_icmp .ne 8, 3) := by decide +kernel
theorem dX6_fee_38 : decode (mc mX6_fee) 38 = .ok (.ldc 94, 2) := by decide +kernel
theorem dX6_fee_40 : decode (mc mX6_fee) 40 = .ok (.goto 24, 3) := by decide +kernel
theorem dX6_fee_43 : decode (mc mX6_fee) 43 = .ok (.aload_n 0, 1) := by decide +kernel
theorem dX6_fee_44 : decode (mc mX6_fee) 44 = .ok (.getfield 10, 3) := by decide +kernel
theorem dX6_fee_47 : decode (mc mX6_fee) 47 = .ok (.iload_n 1, 1) := by decide +kernel
theorem dX6_fee_48 : decode (mc mX6_fee) 48 = .ok (.iload_n 2, 1) := by decide +kernel
theorem dX6_fee_49 : decode (mc mX6_fee) 49 = .ok (.aload_n 0, 1) := by decide +kernel
theorem dX6_fee_50 : decode (mc mX6_fee) 50 = .ok (.getfield 10, 3) := by decide +kernel
theorem dX6_fee_53 : decode (mc mX6_fee) 53 = .ok (.aload_n 0, 1) := by decide +kernel
theorem dX6_fee_54 : decode (mc mX6_fee) 54 = .ok (.getfield 33, 3) := by decide +kernel
theorem dX6_fee_57 : decode (mc mX6_fee) 57 = .ok (.iload_n 2, 1) := by decide +kernel
theorem dX6_fee_58 : decode (mc mX6_fee) 58 = .ok (.invokevirtual 143, 3) := by decide +kernel
theorem dX6_fee_61 : decode (mc mX6_fee) 61 = .ok (.invokevirtual 147, 3) := by decide +kernel
theorem dX6_fee_64 : decode (mc mX6_fee) 64 = .ok (.ireturn, 1) := by decide +kernel
theorem dX6_use_0 : decode (mc mX6_use) 0 = .ok (.aload_n 0, 1) := by decide +kernel
theorem dX6_use_1 : decode (mc mX6_use) 1 = .ok (.getfield 10, 3) := by decide +kernel
theorem dX6_use_4 : decode (mc mX6_use) 4 = .ok (.iload_n 1, 1) := by decide +kernel
theorem dX6_use_5 : decode (mc mX6_use) 5 = .ok (.invokevirtual 56, 3) := by decide +kernel
theorem dX6_use_8 : decode (mc mX6_use) 8 = .ok (.ifCond .ne 6, 3) := by decide +kernel
theorem dX6_use_11 : decode (mc mX6_use) 11 = .ok (.ldc 60, 2) := by decide +kernel
theorem dX6_use_13 : decode (mc mX6_use) 13 = .ok (.ireturn, 1) := by decide +kernel
theorem dX6_use_14 : decode (mc mX6_use) 14 = .ok (.aload_n 0, 1) := by decide +kernel
theorem dX6_use_15 : decode (mc mX6_use) 15 = .ok (.getfield 26, 3) := by decide +kernel
theorem dX6_use_18 : decode (mc mX6_use) 18 = .ok (.invokevirtual 98, 3) := by decide +kernel
theorem dX6_use_21 : decode (mc mX6_use) 21 = .ok (.ifCond .eq 6, 3) := by decide +kernel
theorem dX6_use_24 : decode (mc mX6_use) 24 = .ok (.ldc 105, 2) := by decide +kernel
theorem dX6_use_26 : decode (mc mX6_use) 26 = .ok (.ireturn, 1) := by decide +kernel
theorem dX6_use_27 : decode (mc mX6_use) 27 = .ok (.aload_n 0, 1) := by decide +kernel
theorem dX6_use_28 : decode (mc mX6_use) 28 = .ok (.getfield 10, 3) := by decide +kernel
theorem dX6_use_31 : decode (mc mX6_use) 31 = .ok (.invokevirtual 151, 3) := by decide +kernel
theorem dX6_use_34 : decode (mc mX6_use) 34 = .ok (.bipush 24, 2) := by decide +kernel
theorem dX6_use_36 : decode (mc mX6_use) 36 = .ok (.if_icmp .lt 6, 3) := by decide +kernel
theorem dX6_use_39 : decode (mc mX6_use) 39 = .ok (.ldc 48, 2) := by decide +kernel
theorem dX6_use_41 : decode (mc mX6_use) 41 = .ok (.ireturn, 1) := by decide +kernel
theorem dX6_use_42 : decode (mc mX6_use) 42 = .ok (.aload_n 0, 1) := by decide +kernel
theorem dX6_use_43 : decode (mc mX6_use) 43 = .ok (.getfield 19, 3) := by decide +kernel
theorem dX6_use_46 : decode (mc mX6_use) 46 = .ok (.aload_n 0, 1) := by decide +kernel
theorem dX6_use_47 : decode (mc mX6_use) 47 = .ok (.getfield 10, 3) := by decide +kernel
theorem dX6_use_50 : decode (mc mX6_use) 50 = .ok (.invokevirtual 49, 3) := by decide +kernel
theorem dX6_use_53 : decode (mc mX6_use) 53 = .ok (.aload_n 0, 1) := by decide +kernel
theorem dX6_use_54 : decode (mc mX6_use) 54 = .ok (.invokevirtual 140, 3) := by decide +kernel
theorem dX6_use_57 : decode (mc mX6_use) 57 = .ok (.istore_n 2, 1) := by decide +kernel
theorem dX6_use_58 : decode (mc mX6_use) 58 = .ok (.iload_n 2, 1) := by decide +kernel
theorem dX6_use_59 : decode (mc mX6_use) 59 = .ok (.ldc 94, 2) := by decide +kernel
theorem dX6_use_61 : decode (mc mX6_use) 61 = .ok (.if_icmp .ne 8, 3) := by decide +kernel
theorem dX6_use_64 : decode (mc mX6_use) 64 = .ok (.ldc 94, 2) := by decide +kernel
theorem dX6_use_66 : decode (mc mX6_use) 66 = .ok (.goto 24, 3) := by decide +kernel
theorem dX6_use_69 : decode (mc mX6_use) 69 = .ok (.aload_n 0, 1) := by decide +kernel
theorem dX6_use_70 : decode (mc mX6_use) 70 = .ok (.getfield 10, 3) := by decide +kernel
theorem dX6_use_73 : decode (mc mX6_use) 73 = .ok (.iload_n 1, 1) := by decide +kernel
theorem dX6_use_74 : decode (mc mX6_use) 74 = .ok (.iload_n 2, 1) := by decide +kernel
theorem dX6_use_75 : decode (mc mX6_use) 75 = .ok (.aload_n 0, 1) := by decide +kernel
theorem dX6_use_76 : decode (mc mX6_use) 76 = .ok (.getfield 10, 3) := by decide +kernel
theorem dX6_use_79 : decode (mc mX6_use) 79 = .ok (.aload_n 0, 1) := by decide +kernel
theorem dX6_use_80 : decode (mc mX6_use) 80 = .ok (.getfield 33, 3) := by decide +kernel
theorem dX6_use_83 : decode (mc mX6_use) 83 = .ok (.iload_n 2, 1) := by decide +kernel
theorem dX6_use_84 : decode (mc mX6_use) 84 = .ok (.invokevirtual 143, 3) := by decide +kernel
theorem dX6_use_87 : decode (mc mX6_use) 87 = .ok (.invokevirtual 154, 3) := by decide +kernel
theorem dX6_use_90 : decode (mc mX6_use) 90 = .ok (.ireturn, 1) := by decide +kernel
theorem dX6_note_0 : decode (mc mX6_note) 0 = .ok (.aload_n 0, 1) := by decide +kernel
theorem dX6_note_1 : decode (mc mX6_note) 1 = .ok (.getfield 10, 3) := by decide +kernel
theorem dX6_note_4 : decode (mc mX6_note) 4 = .ok (.iload_n 1, 1) := by decide +kernel
theorem dX6_note_5 : decode (mc mX6_note) 5 = .ok (.invokevirtual 157, 3) := by decide +kernel
theorem dX6_note_8 : decode (mc mX6_note) 8 = .ok (.ifCond .ne 6, 3) := by decide +kernel
theorem dX6_note_11 : decode (mc mX6_note) 11 = .ok (.ldc 60, 2) := by decide +kernel
theorem dX6_note_13 : decode (mc mX6_note) 13 = .ok (.ireturn, 1) := by decide +kernel
theorem dX6_note_14 : decode (mc mX6_note) 14 = .ok (.iload_n 2, 1) := by decide +kernel
theorem dX6_note_15 : decode (mc mX6_note) 15 = .ok (.ifCond .lt 9, 3) := by decide +kernel
theorem dX6_note_18 : decode (mc mX6_note) 18 = .ok (.iload_n 2, 1) := by decide +kernel
theorem dX6_note_19 : decode (mc mX6_note) 19 = .ok (.bipush 13, 2) := by decide +kernel
theorem dX6_note_21 : decode (mc mX6_note) 21 = .ok (.if_icmp .lt 6, 3) := by decide +kernel
theorem dX6_note_24 : decode (mc mX6_note) 24 = .ok (.ldc 61, 2) := by decide +kernel
theorem dX6_note_26 : decode (mc mX6_note) 26 = .ok (.ireturn, 1) := by decide +kernel
theorem dX6_note_27 : decode (mc mX6_note) 27 = .ok (.aload_n 0, 1) := by decide +kernel
theorem dX6_note_28 : decode (mc mX6_note) 28 = .ok (.getfield 10, 3) := by decide +kernel
theorem dX6_note_31 : decode (mc mX6_note) 31 = .ok (.iload_n 1, 1) := by decide +kernel
theorem dX6_note_32 : decode (mc mX6_note) 32 = .ok (.iload_n 2, 1) := by decide +kernel
theorem dX6_note_33 : decode (mc mX6_note) 33 = .ok (.invokevirtual 160, 3) := by decide +kernel
theorem dX6_note_36 : decode (mc mX6_note) 36 = .ok (.ireturn, 1) := by decide +kernel
theorem dX6_retract_0 : decode (mc mX6_retract) 0 = .ok (.aload_n 0, 1) := by decide +kernel
theorem dX6_retract_1 : decode (mc mX6_retract) 1 = .ok (.getfield 10, 3) := by decide +kernel
theorem dX6_retract_4 : decode (mc mX6_retract) 4 = .ok (.iload_n 1, 1) := by decide +kernel
theorem dX6_retract_5 : decode (mc mX6_retract) 5 = .ok (.invokevirtual 95, 3) := by decide +kernel
theorem dX6_retract_8 : decode (mc mX6_retract) 8 = .ok (.ifCond .ne 6, 3) := by decide +kernel
theorem dX6_retract_11 : decode (mc mX6_retract) 11 = .ok (.ldc 60, 2) := by decide +kernel
theorem dX6_retract_13 : decode (mc mX6_retract) 13 = .ok (.ireturn, 1) := by decide +kernel
theorem dX6_retract_14 : decode (mc mX6_retract) 14 = .ok (.aload_n 0, 1) := by decide +kernel
theorem dX6_retract_15 : decode (mc mX6_retract) 15 = .ok (.getfield 10, 3) := by decide +kernel
theorem dX6_retract_18 : decode (mc mX6_retract) 18 = .ok (.iload_n 1, 1) := by decide +kernel
theorem dX6_retract_19 : decode (mc mX6_retract) 19 = .ok (.invokevirtual 102, 3) := by decide +kernel
theorem dX6_retract_22 : decode (mc mX6_retract) 22 = .ok (.ifCond .ne 6, 3) := by decide +kernel
theorem dX6_retract_25 : decode (mc mX6_retract) 25 = .ok (.ldc 105, 2) := by decide +kernel
theorem dX6_retract_27 : decode (mc mX6_retract) 27 = .ok (.ireturn, 1) := by decide +kernel
theorem dX6_retract_28 : decode (mc mX6_retract) 28 = .ok (.aload_n 0, 1) := by decide +kernel
theorem dX6_retract_29 : decode (mc mX6_retract) 29 = .ok (.getfield 19, 3) := by decide +kernel
theorem dX6_retract_32 : decode (mc mX6_retract) 32 = .ok (.aload_n 0, 1) := by decide +kernel
theorem dX6_retract_33 : decode (mc mX6_retract) 33 = .ok (.getfield 10, 3) := by decide +kernel
theorem dX6_retract_36 : decode (mc mX6_retract) 36 = .ok (.invokevirtual 49, 3) := by decide +kernel
theorem dX6_retract_39 : decode (mc mX6_retract) 39 = .ok (.aload_n 0, 1) := by decide +kernel
theorem dX6_retract_40 : decode (mc mX6_retract) 40 = .ok (.getfield 10, 3) := by decide +kernel
theorem dX6_retract_43 : decode (mc mX6_retract) 43 = .ok (.iload_n 1, 1) := by decide +kernel
theorem dX6_retract_44 : decode (mc mX6_retract) 44 = .ok (.invokevirtual 163, 3) := by decide +kernel
theorem dX6_retract_47 : decode (mc mX6_retract) 47 = .ok (.aload_n 0, 1) := by decide +kernel
theorem dX6_retract_48 : decode (mc mX6_retract) 48 = .ok (.getfield 10, 3) := by decide +kernel
theorem dX6_retract_51 : decode (mc mX6_retract) 51 = .ok (.invokevirtual 167, 3) := by decide +kernel
theorem dX6_retract_54 : decode (mc mX6_retract) 54 = .ok (.aload_n 0, 1) := by decide +kernel
theorem dX6_retract_55 : decode (mc mX6_retract) 55 = .ok (.getfield 10, 3) := by decide +kernel
theorem dX6_retract_58 : decode (mc mX6_retract) 58 = .ok (.invokevirtual 170, 3) := by decide +kernel
theorem dX6_retract_61 : decode (mc mX6_retract) 61 = .ok (.ireturn, 1) := by decide +kernel
theorem dX6_wouldPayBack_0 : decode (mc mX6_wouldPayBack) 0 = .ok (.aload_n 0, 1) := by decide +kernel
theorem dX6_wouldPayBack_1 : decode (mc mX6_wouldPayBack) 1 = .ok (.getfield 10, 3) := by decide +kernel
theorem dX6_wouldPayBack_4 : decode (mc mX6_wouldPayBack) 4 = .ok (.iload_n 1, 1) := by decide +kernel
theorem dX6_wouldPayBack_5 : decode (mc mX6_wouldPayBack) 5 = .ok (.invokevirtual 95, 3) := by decide +kernel
theorem dX6_wouldPayBack_8 : decode (mc mX6_wouldPayBack) 8 = .ok (.ifCond .ne 6, 3) := by decide +kernel
theorem dX6_wouldPayBack_11 : decode (mc mX6_wouldPayBack) 11 = .ok (.ldc 60, 2) := by decide +kernel
theorem dX6_wouldPayBack_13 : decode (mc mX6_wouldPayBack) 13 = .ok (.ireturn, 1) := by decide +kernel
theorem dX6_wouldPayBack_14 : decode (mc mX6_wouldPayBack) 14 = .ok (.aload_n 0, 1) := by decide +kernel
theorem dX6_wouldPayBack_15 : decode (mc mX6_wouldPayBack) 15 = .ok (.getfield 10, 3) := by decide +kernel
theorem dX6_wouldPayBack_18 : decode (mc mX6_wouldPayBack) 18 = .ok (.iload_n 1, 1) := by decide +kernel
theorem dX6_wouldPayBack_19 : decode (mc mX6_wouldPayBack) 19 = .ok (.invokevirtual 102, 3) := by decide +kernel
theorem dX6_wouldPayBack_22 : decode (mc mX6_wouldPayBack) 22 = .ok (.ifCond .ne 6, 3) := by decide +kernel
theorem dX6_wouldPayBack_25 : decode (mc mX6_wouldPayBack) 25 = .ok (.ldc 105, 2) := by decide +kernel
theorem dX6_wouldPayBack_27 : decode (mc mX6_wouldPayBack) 27 = .ok (.ireturn, 1) := by decide +kernel
theorem dX6_wouldPayBack_28 : decode (mc mX6_wouldPayBack) 28 = .ok (.aload_n 0, 1) := by decide +kernel
theorem dX6_wouldPayBack_29 : decode (mc mX6_wouldPayBack) 29 = .ok (.getfield 10, 3) := by decide +kernel
theorem dX6_wouldPayBack_32 : decode (mc mX6_wouldPayBack) 32 = .ok (.iload_n 1, 1) := by decide +kernel
theorem dX6_wouldPayBack_33 : decode (mc mX6_wouldPayBack) 33 = .ok (.invokevirtual 163, 3) := by decide +kernel
theorem dX6_wouldPayBack_36 : decode (mc mX6_wouldPayBack) 36 = .ok (.aload_n 0, 1) := by decide +kernel
theorem dX6_wouldPayBack_37 : decode (mc mX6_wouldPayBack) 37 = .ok (.getfield 10, 3) := by decide +kernel
theorem dX6_wouldPayBack_40 : decode (mc mX6_wouldPayBack) 40 = .ok (.invokevirtual 173, 3) := by decide +kernel
theorem dX6_wouldPayBack_43 : decode (mc mX6_wouldPayBack) 43 = .ok (.ireturn, 1) := by decide +kernel
theorem dX6_pass_0 : decode (mc mX6_pass) 0 = .ok (.iload_n 1, 1) := by decide +kernel
theorem dX6_pass_1 : decode (mc mX6_pass) 1 = .ok (.iconst 1, 1) := by decide +kernel
theorem dX6_pass_2 : decode (mc mX6_pass) 2 = .ok (.if_icmp .lt 9, 3) := by decide +kernel
theorem dX6_pass_5 : decode (mc mX6_pass) 5 = .ok (.iload_n 1, 1) := by decide +kernel
theorem dX6_pass_6 : decode (mc mX6_pass) 6 = .ok (.bipush 100, 2) := by decide +kernel
theorem dX6_pass_8 : decode (mc mX6_pass) 8 = .ok (.if_icmp .le 6, 3) := by decide +kernel
theorem dX6_pass_11 : decode (mc mX6_pass) 11 = .ok (.ldc 61, 2) := by decide +kernel
theorem dX6_pass_13 : decode (mc mX6_pass) 13 = .ok (.ireturn, 1) := by decide +kernel
theorem dX6_pass_14 : decode (mc mX6_pass) 14 = .ok (.aload_n 0, 1) := by decide +kernel
theorem dX6_pass_15 : decode (mc mX6_pass) 15 = .ok (.getfield 10, 3) := by decide +kernel
theorem dX6_pass_18 : decode (mc mX6_pass) 18 = .ok (.invokevirtual 176, 3) := by decide +kernel
theorem dX6_pass_21 : decode (mc mX6_pass) 21 = .ok (.iload_n 1, 1) := by decide +kernel
theorem dX6_pass_22 : decode (mc mX6_pass) 22 = .ok (.iadd, 1) := by decide +kernel
theorem dX6_pass_23 : decode (mc mX6_pass) 23 = .ok (.sipush 10000, 3) := by decide +kernel
theorem dX6_pass_26 : decode (mc mX6_pass) 26 = .ok (.if_icmp .le 6, 3) := by decide +kernel
theorem dX6_pass_29 : decode (mc mX6_pass) 29 = .ok (.ldc 48, 2) := by decide +kernel
theorem dX6_pass_31 : decode (mc mX6_pass) 31 = .ok (.ireturn, 1) := by decide +kernel
theorem dX6_pass_32 : decode (mc mX6_pass) 32 = .ok (.aload_n 0, 1) := by decide +kernel
theorem dX6_pass_33 : decode (mc mX6_pass) 33 = .ok (.getfield 19, 3) := by decide +kernel
theorem dX6_pass_36 : decode (mc mX6_pass) 36 = .ok (.aload_n 0, 1) := by decide +kernel
theorem dX6_pass_37 : decode (mc mX6_pass) 37 = .ok (.getfield 10, 3) := by decide +kernel
theorem dX6_pass_40 : decode (mc mX6_pass) 40 = .ok (.invokevirtual 49, 3) := by decide +kernel
theorem dX6_pass_43 : decode (mc mX6_pass) 43 = .ok (.aload_n 0, 1) := by decide +kernel
theorem dX6_pass_44 : decode (mc mX6_pass) 44 = .ok (.getfield 10, 3) := by decide +kernel
theorem dX6_pass_47 : decode (mc mX6_pass) 47 = .ok (.iload_n 1, 1) := by decide +kernel
theorem dX6_pass_48 : decode (mc mX6_pass) 48 = .ok (.invokevirtual 179, 3) := by decide +kernel
theorem dX6_pass_51 : decode (mc mX6_pass) 51 = .ok (.ireturn, 1) := by decide +kernel
theorem dX6_cheapest_0 : decode (mc mX6_cheapest) 0 = .ok (.aload_n 0, 1) := by decide +kernel
theorem dX6_cheapest_1 : decode (mc mX6_cheapest) 1 = .ok (.getfield 10, 3) := by decide +kernel
theorem dX6_cheapest_4 : decode (mc mX6_cheapest) 4 = .ok (.iload_n 1, 1) := by decide +kernel
theorem dX6_cheapest_5 : decode (mc mX6_cheapest) 5 = .ok (.invokevirtual 56, 3) := by decide +kernel
theorem dX6_cheapest_8 : decode (mc mX6_cheapest) 8 = .ok (.ifCond .ne 6, 3) := by decide +kernel
theorem dX6_cheapest_11 : decode (mc mX6_cheapest) 11 = .ok (.ldc 60, 2) := by decide +kernel
theorem dX6_cheapest_13 : decode (mc mX6_cheapest) 13 = .ok (.ireturn, 1) := by decide +kernel
theorem dX6_cheapest_14 : decode (mc mX6_cheapest) 14 = .ok (.aload_n 0, 1) := by decide +kernel
theorem dX6_cheapest_15 : decode (mc mX6_cheapest) 15 = .ok (.getfield 26, 3) := by decide +kernel
theorem dX6_cheapest_18 : decode (mc mX6_cheapest) 18 = .ok (.invokevirtual 98, 3) := by decide +kernel
theorem dX6_cheapest_21 : decode (mc mX6_cheapest) 21 = .ok (.ifCond .eq 6, 3) := by decide +kernel
theorem dX6_cheapest_24 : decode (mc mX6_cheapest) 24 = .ok (.ldc 105, 2) := by decide +kernel
theorem dX6_cheapest_26 : decode (mc mX6_cheapest) 26 = .ok (.ireturn, 1) := by decide +kernel
theorem dX6_cheapest_27 : decode (mc mX6_cheapest) 27 = .ok (.aload_n 0, 1) := by decide +kernel
theorem dX6_cheapest_28 : decode (mc mX6_cheapest) 28 = .ok (.iload_n 1, 1) := by decide +kernel
theorem dX6_cheapest_29 : decode (mc mX6_cheapest) 29 = .ok (.invokevirtual 182, 3) := by decide +kernel
theorem dX6_cheapest_32 : decode (mc mX6_cheapest) 32 = .ok (.aload_n 0, 1) := by decide +kernel
theorem dX6_cheapest_33 : decode (mc mX6_cheapest) 33 = .ok (.getfield 40, 3) := by decide +kernel
theorem dX6_cheapest_36 : decode (mc mX6_cheapest) 36 = .ok (.invokevirtual 185, 3) := by decide +kernel
theorem dX6_cheapest_39 : decode (mc mX6_cheapest) 39 = .ok (.ireturn, 1) := by decide +kernel
theorem dX6_piece_0 : decode (mc mX6_piece) 0 = .ok (.aload_n 0, 1) := by decide +kernel
theorem dX6_piece_1 : decode (mc mX6_piece) 1 = .ok (.getfield 10, 3) := by decide +kernel
theorem dX6_piece_4 : decode (mc mX6_piece) 4 = .ok (.iload_n 1, 1) := by decide +kernel
theorem dX6_piece_5 : decode (mc mX6_piece) 5 = .ok (.invokevirtual 56, 3) := by decide +kernel
theorem dX6_piece_8 : decode (mc mX6_piece) 8 = .ok (.ifCond .ne 6, 3) := by decide +kernel
theorem dX6_piece_11 : decode (mc mX6_piece) 11 = .ok (.ldc 60, 2) := by decide +kernel
theorem dX6_piece_13 : decode (mc mX6_piece) 13 = .ok (.ireturn, 1) := by decide +kernel
theorem dX6_piece_14 : decode (mc mX6_piece) 14 = .ok (.iload_n 2, 1) := by decide +kernel
theorem dX6_piece_15 : decode (mc mX6_piece) 15 = .ok (.ifCond .ge 6, 3) := by decide +kernel
theorem dX6_piece_18 : decode (mc mX6_piece) 18 = .ok (.ldc 61, 2) := by decide +kernel
theorem dX6_piece_20 : decode (mc mX6_piece) 20 = .ok (.ireturn, 1) := by decide +kernel
theorem dX6_piece_21 : decode (mc mX6_piece) 21 = .ok (.aload_n 0, 1) := by decide +kernel
theorem dX6_piece_22 : decode (mc mX6_piece) 22 = .ok (.getfield 26, 3) := by decide +kernel
theorem dX6_piece_25 : decode (mc mX6_piece) 25 = .ok (.invokevirtual 98, 3) := by decide +kernel
theorem dX6_piece_28 : decode (mc mX6_piece) 28 = .ok (.ifCond .eq 6, 3) := by decide +kernel
theorem dX6_piece_31 : decode (mc mX6_piece) 31 = .ok (.ldc 105, 2) := by decide +kernel
theorem dX6_piece_33 : decode (mc mX6_piece) 33 = .ok (.ireturn, 1) := by decide +kernel
theorem dX6_piece_34 : decode (mc mX6_piece) 34 = .ok (.aload_n 0, 1) := by decide +kernel
theorem dX6_piece_35 : decode (mc mX6_piece) 35 = .ok (.iload_n 1, 1) := by decide +kernel
theorem dX6_piece_36 : decode (mc mX6_piece) 36 = .ok (.invokevirtual 182, 3) := by decide +kernel
theorem dX6_piece_39 : decode (mc mX6_piece) 39 = .ok (.aload_n 0, 1) := by decide +kernel
theorem dX6_piece_40 : decode (mc mX6_piece) 40 = .ok (.getfield 40, 3) := by decide +kernel
theorem dX6_piece_43 : decode (mc mX6_piece) 43 = .ok (.iload_n 2, 1) := by decide +kernel
theorem dX6_piece_44 : decode (mc mX6_piece) 44 = .ok (.invokevirtual 188, 3) := by decide +kernel
theorem dX6_piece_47 : decode (mc mX6_piece) 47 = .ok (.ireturn, 1) := by decide +kernel
theorem dX6_type_0 : decode (mc mX6_type) 0 = .ok (.iload_n 1, 1) := by decide +kernel
theorem dX6_type_1 : decode (mc mX6_type) 1 = .ok (.ifCond .lt 10, 3) := by decide +kernel
theorem dX6_type_4 : decode (mc mX6_type) 4 = .ok (.iload_n 1, 1) := by decide +kernel
theorem dX6_type_5 : decode (mc mX6_type) 5 = .ok (.sipush 255, 3) := by decide +kernel
theorem dX6_type_8 : decode (mc mX6_type) 8 = .ok (.if_icmp .le 6, 3) := by decide +kernel
theorem dX6_type_11 : decode (mc mX6_type) 11 = .ok (.ldc 61, 2) := by decide +kernel
theorem dX6_type_13 : decode (mc mX6_type) 13 = .ok (.ireturn, 1) := by decide +kernel
theorem dX6_type_14 : decode (mc mX6_type) 14 = .ok (.aload_n 0, 1) := by decide +kernel
theorem dX6_type_15 : decode (mc mX6_type) 15 = .ok (.getfield 26, 3) := by decide +kernel
theorem dX6_type_18 : decode (mc mX6_type) 18 = .ok (.getfield 83, 3) := by decide +kernel
theorem dX6_type_21 : decode (mc mX6_type) 21 = .ok (.bipush 40, 2) := by decide +kernel
theorem dX6_type_23 : decode (mc mX6_type) 23 = .ok (.if_icmp .lt 6, 3) := by decide +kernel
theorem dX6_type_26 : decode (mc mX6_type) 26 = .ok (.ldc 48, 2) := by decide +kernel
theorem dX6_type_28 : decode (mc mX6_type) 28 = .ok (.ireturn, 1) := by decide +kernel
theorem dX6_type_29 : decode (mc mX6_type) 29 = .ok (.aload_n 0, 1) := by decide +kernel
theorem dX6_type_30 : decode (mc mX6_type) 30 = .ok (.getfield 26, 3) := by decide +kernel
theorem dX6_type_33 : decode (mc mX6_type) 33 = .ok (.iload_n 1, 1) := by decide +kernel
theorem dX6_type_34 : decode (mc mX6_type) 34 = .ok (.invokevirtual 191, 3) := by decide +kernel
theorem dX6_type_37 : decode (mc mX6_type) 37 = .ok (.ireturn, 1) := by decide +kernel
theorem dX6_clearText_0 : decode (mc mX6_clearText) 0 = .ok (.aload_n 0, 1) := by decide +kernel
theorem dX6_clearText_1 : decode (mc mX6_clearText) 1 = .ok (.getfield 26, 3) := by decide +kernel
theorem dX6_clearText_4 : decode (mc mX6_clearText) 4 = .ok (.invokevirtual 194, 3) := by decide +kernel
theorem dX6_clearText_7 : decode (mc mX6_clearText) 7 = .ok (.ireturn, 1) := by decide +kernel
theorem dX6_textFault_0 : decode (mc mX6_textFault) 0 = .ok (.aload_n 0, 1) := by decide +kernel
theorem dX6_textFault_1 : decode (mc mX6_textFault) 1 = .ok (.getfield 26, 3) := by decide +kernel
theorem dX6_textFault_4 : decode (mc mX6_textFault) 4 = .ok (.invokevirtual 197, 3) := by decide +kernel
theorem dX6_textFault_7 : decode (mc mX6_textFault) 7 = .ok (.ireturn, 1) := by decide +kernel
theorem dX6_undo_0 : decode (mc mX6_undo) 0 = .ok (.aload_n 0, 1) := by decide +kernel
theorem dX6_undo_1 : decode (mc mX6_undo) 1 = .ok (.getfield 19, 3) := by decide +kernel
theorem dX6_undo_4 : decode (mc mX6_undo) 4 = .ok (.getfield 200, 3) := by decide +kernel
theorem dX6_undo_7 : decode (mc mX6_undo) 7 = .ok (.ifCond .ne 6, 3) := by decide +kernel
theorem dX6_undo_10 : decode (mc mX6_undo) 10 = .ok (.ldc 105, 2) := by decide +kernel
theorem dX6_undo_12 : decode (mc mX6_undo) 12 = .ok (.ireturn, 1) := by decide +kernel
theorem dX6_undo_13 : decode (mc mX6_undo) 13 = .ok (.aload_n 0, 1) := by decide +kernel
theorem dX6_undo_14 : decode (mc mX6_undo) 14 = .ok (.getfield 19, 3) := by decide +kernel
theorem dX6_undo_17 : decode (mc mX6_undo) 17 = .ok (.aload_n 0, 1) := by decide +kernel
theorem dX6_undo_18 : decode (mc mX6_undo) 18 = .ok (.getfield 10, 3) := by decide +kernel
theorem dX6_undo_21 : decode (mc mX6_undo) 21 = .ok (.invokevirtual 203, 3) := by decide +kernel
theorem dX6_undo_24 : decode (mc mX6_undo) 24 = .ok (.ireturn, 1) := by decide +kernel
theorem dX6_digest_0 : decode (mc mX6_digest) 0 = .ok (.ldc2_w 207, 3) := by decide +kernel
theorem dX6_digest_3 : decode (mc mX6_digest) 3 = .ok (.lstore_n 1, 1) := by decide +kernel
theorem dX6_digest_4 : decode (mc mX6_digest) 4 = .ok (.iconst 0, 1) := by decide +kernel
theorem dX6_digest_5 : decode (mc mX6_digest) 5 = .ok (.istore_n 3, 1) := by decide +kernel
theorem dX6_digest_6 : decode (mc mX6_digest) 6 = .ok (.iload_n 3, 1) := by decide +kernel
theorem dX6_digest_7 : decode (mc mX6_digest) 7 = .ok (.bipush 13, 2) := by decide +kernel
theorem dX6_digest_9 : decode (mc mX6_digest) 9 = .ok (.if_icmp .ge 25, 3) := by decide +kernel
theorem dX6_digest_12 : decode (mc mX6_digest) 12 = .ok (.ldc2_w 209, 3) := by decide +kernel
theorem dX6_digest_15 : decode (mc mX6_digest) 15 = .ok (.lload_n 1, 1) := by decide +kernel
theorem dX6_digest_16 : decode (mc mX6_digest) 16 = .ok (.lmul, 1) := by decide +kernel
theorem dX6_digest_17 : decode (mc mX6_digest) 17 = .ok (.aload_n 0, 1) := by decide +kernel
theorem dX6_digest_18 : decode (mc mX6_digest) 18 = .ok (.getfield 10, 3) := by decide +kernel
theorem dX6_digest_21 : decode (mc mX6_digest) 21 = .ok (.iload_n 3, 1) := by decide +kernel
theorem dX6_digest_22 : decode (mc mX6_digest) 22 = .ok (.invokevirtual 87, 3) := by decide +kernel
theorem dX6_digest_25 : decode (mc mX6_digest) 25 = .ok (.i2l, 1) := by decide +kernel
theorem dX6_digest_26 : decode (mc mX6_digest) 26 = .ok (.ladd, 1) := by decide +kernel
theorem dX6_digest_27 : decode (mc mX6_digest) 27 = .ok (.lstore_n 1, 1) := by decide +kernel
theorem dX6_digest_28 : decode (mc mX6_digest) 28 = .ok (.iinc 3 1, 3) := by decide +kernel
theorem dX6_digest_31 : decode (mc mX6_digest) 31 = .ok (.goto (-25), 3) := by decide +kernel
theorem dX6_digest_34 : decode (mc mX6_digest) 34 = .ok (.iconst 0, 1) := by decide +kernel
theorem dX6_digest_35 : decode (mc mX6_digest) 35 = .ok (.istore_n 3, 1) := by decide +kernel
theorem dX6_digest_36 : decode (mc mX6_digest) 36 = .ok (.iload_n 3, 1) := by decide +kernel
theorem dX6_digest_37 : decode (mc mX6_digest) 37 = .ok (.aload_n 0, 1) := by decide +kernel
theorem dX6_digest_38 : decode (mc mX6_digest) 38 = .ok (.getfield 10, 3) := by decide +kernel
theorem dX6_digest_41 : decode (mc mX6_digest) 41 = .ok (.invokevirtual 44, 3) := by decide +kernel
theorem dX6_digest_44 : decode (mc mX6_digest) 44 = .ok (.if_icmp .ge 42, 3) := by decide +kernel
theorem dX6_digest_47 : decode (mc mX6_digest) 47 = .ok (.iconst 0, 1) := by decide +kernel
theorem dX6_digest_48 : decode (mc mX6_digest) 48 = .ok (.istore 4, 2) := by decide +kernel
theorem dX6_digest_50 : decode (mc mX6_digest) 50 = .ok (.iload 4, 2) := by decide +kernel
theorem dX6_digest_52 : decode (mc mX6_digest) 52 = .ok (.iconst 5, 1) := by decide +kernel
theorem dX6_digest_53 : decode (mc mX6_digest) 53 = .ok (.if_icmp .ge 27, 3) := by decide +kernel
theorem dX6_digest_56 : decode (mc mX6_digest) 56 = .ok (.ldc2_w 209, 3) := by decide +kernel
theorem dX6_digest_59 : decode (mc mX6_digest) 59 = .ok (.lload_n 1, 1) := by decide +kernel
theorem dX6_digest_60 : decode (mc mX6_digest) 60 = .ok (.lmul, 1) := by decide +kernel
theorem dX6_digest_61 : decode (mc mX6_digest) 61 = .ok (.aload_n 0, 1) := by decide +kernel
theorem dX6_digest_62 : decode (mc mX6_digest) 62 = .ok (.getfield 10, 3) := by decide +kernel
theorem dX6_digest_65 : decode (mc mX6_digest) 65 = .ok (.iload_n 3, 1) := by decide +kernel
theorem dX6_digest_66 : decode (mc mX6_digest) 66 = .ok (.iload 4, 2) := by decide +kernel
theorem dX6_digest_68 : decode (mc mX6_digest) 68 = .ok (.invokevirtual 90, 3) := by decide +kernel
theorem dX6_digest_71 : decode (mc mX6_digest) 71 = .ok (.i2l, 1) := by decide +kernel
theorem dX6_digest_72 : decode (mc mX6_digest) 72 = .ok (.ladd, 1) := by decide +kernel
theorem dX6_digest_73 : decode (mc mX6_digest) 73 = .ok (.lstore_n 1, 1) := by decide +kernel
theorem dX6_digest_74 : decode (mc mX6_digest) 74 = .ok (.iinc 4 1, 3) := by decide +kernel
theorem dX6_digest_77 : decode (mc mX6_digest) 77 = .ok (.goto (-27), 3) := by decide +kernel
theorem dX6_digest_80 : decode (mc mX6_digest) 80 = .ok (.iinc 3 1, 3) := by decide +kernel
theorem dX6_digest_83 : decode (mc mX6_digest) 83 = .ok (.goto (-47), 3) := by decide +kernel
theorem dX6_digest_86 : decode (mc mX6_digest) 86 = .ok (.iconst 0, 1) := by decide +kernel
theorem dX6_digest_87 : decode (mc mX6_digest) 87 = .ok (.istore_n 3, 1) := by decide +kernel
theorem dX6_digest_88 : decode (mc mX6_digest) 88 = .ok (.iload_n 3, 1) := by decide +kernel
theorem dX6_digest_89 : decode (mc mX6_digest) 89 = .ok (.aload_n 0, 1) := by decide +kernel
theorem dX6_digest_90 : decode (mc mX6_digest) 90 = .ok (.getfield 10, 3) := by decide +kernel
theorem dX6_digest_93 : decode (mc mX6_digest) 93 = .ok (.invokevirtual 106, 3) := by decide +kernel
theorem dX6_digest_96 : decode (mc mX6_digest) 96 = .ok (.if_icmp .ge 16, 3) := by decide +kernel
theorem dX6_digest_99 : decode (mc mX6_digest) 99 = .ok (.aload_n 0, 1) := by decide +kernel
theorem dX6_digest_100 : decode (mc mX6_digest) 100 = .ok (.lload_n 1, 1) := by decide +kernel
theorem dX6_digest_101 : decode (mc mX6_digest) 101 = .ok (.iload_n 3, 1) := by decide +kernel
theorem dX6_digest_102 : decode (mc mX6_digest) 102 = .ok (.invokevirtual 211, 3) := by decide +kernel
theorem dX6_digest_105 : decode (mc mX6_digest) 105 = .ok (.lstore_n 1, 1) := by decide +kernel
theorem dX6_digest_106 : decode (mc mX6_digest) 106 = .ok (.iinc 3 1, 3) := by decide +kernel
theorem dX6_digest_109 : decode (mc mX6_digest) 109 = .ok (.goto (-21), 3) := by decide +kernel
theorem dX6_digest_112 : decode (mc mX6_digest) 112 = .ok (.iconst 0, 1) := by decide +kernel
theorem dX6_digest_113 : decode (mc mX6_digest) 113 = .ok (.istore_n 3, 1) := by decide +kernel
theorem dX6_digest_114 : decode (mc mX6_digest) 114 = .ok (.iload_n 3, 1) := by decide +kernel
theorem dX6_digest_115 : decode (mc mX6_digest) 115 = .ok (.aload_n 0, 1) := by decide +kernel
theorem dX6_digest_116 : decode (mc mX6_digest) 116 = .ok (.getfield 10, 3) := by decide +kernel
theorem dX6_digest_119 : decode (mc mX6_digest) 119 = .ok (.invokevirtual 151, 3) := by decide +kernel
theorem dX6_digest_122 : decode (mc mX6_digest) 122 = .ok (.if_icmp .ge 43, 3) := by decide +kernel
theorem dX6_digest_125 : decode (mc mX6_digest) 125 = .ok (.iconst 0, 1) := by decide +kernel
theorem dX6_digest_126 : decode (mc mX6_digest) 126 = .ok (.istore 4, 2) := by decide +kernel
theorem dX6_digest_128 : decode (mc mX6_digest) 128 = .ok (.iload 4, 2) := by decide +kernel
theorem dX6_digest_130 : decode (mc mX6_digest) 130 = .ok (.bipush 13, 2) := by decide +kernel
theorem dX6_digest_132 : decode (mc mX6_digest) 132 = .ok (.if_icmp .ge 27, 3) := by decide +kernel
theorem dX6_digest_135 : decode (mc mX6_digest) 135 = .ok (.ldc2_w 209, 3) := by decide +kernel
theorem dX6_digest_138 : decode (mc mX6_digest) 138 = .ok (.lload_n 1, 1) := by decide +kernel
theorem dX6_digest_139 : decode (mc mX6_digest) 139 = .ok (.lmul, 1) := by decide +kernel
theorem dX6_digest_140 : decode (mc mX6_digest) 140 = .ok (.aload_n 0, 1) := by decide +kernel
theorem dX6_digest_141 : decode (mc mX6_digest) 141 = .ok (.getfield 10, 3) := by decide +kernel
theorem dX6_digest_144 : decode (mc mX6_digest) 144 = .ok (.iload_n 3, 1) := by decide +kernel
theorem dX6_digest_145 : decode (mc mX6_digest) 145 = .ok (.iload 4, 2) := by decide +kernel
theorem dX6_digest_147 : decode (mc mX6_digest) 147 = .ok (.invokevirtual 160, 3) := by decide +kernel
theorem dX6_digest_150 : decode (mc mX6_digest) 150 = .ok (.i2l, 1) := by decide +kernel
theorem dX6_digest_151 : decode (mc mX6_digest) 151 = .ok (.ladd, 1) := by decide +kernel
theorem dX6_digest_152 : decode (mc mX6_digest) 152 = .ok (.lstore_n 1, 1) := by decide +kernel
theorem dX6_digest_153 : decode (mc mX6_digest) 153 = .ok (.iinc 4 1, 3) := by decide +kernel
theorem dX6_digest_156 : decode (mc mX6_digest) 156 = .ok (.goto (-28), 3) := by decide +kernel
theorem dX6_digest_159 : decode (mc mX6_digest) 159 = .ok (.iinc 3 1, 3) := by decide +kernel
theorem dX6_digest_162 : decode (mc mX6_digest) 162 = .ok (.goto (-48), 3) := by decide +kernel
theorem dX6_digest_165 : decode (mc mX6_digest) 165 = .ok (.lload_n 1, 1) := by decide +kernel
theorem dX6_digest_166 : decode (mc mX6_digest) 166 = .ok (.lreturn, 1) := by decide +kernel
theorem dX6_hashPhrase_0 : decode (mc mX6_hashPhrase) 0 = .ok (.lload_n 1, 1) := by decide +kernel
theorem dX6_hashPhrase_1 : decode (mc mX6_hashPhrase) 1 = .ok (.lstore 4, 2) := by decide +kernel
theorem dX6_hashPhrase_3 : decode (mc mX6_hashPhrase) 3 = .ok (.iconst 0, 1) := by decide +kernel
theorem dX6_hashPhrase_4 : decode (mc mX6_hashPhrase) 4 = .ok (.istore 6, 2) := by decide +kernel
theorem dX6_hashPhrase_6 : decode (mc mX6_hashPhrase) 6 = .ok (.iload 6, 2) := by decide +kernel
theorem dX6_hashPhrase_8 : decode (mc mX6_hashPhrase) 8 = .ok (.bipush 7, 2) := by decide +kernel
theorem dX6_hashPhrase_10 : decode (mc mX6_hashPhrase) 10 = .ok (.if_icmp .ge 29, 3) := by decide +kernel
theorem dX6_hashPhrase_13 : decode (mc mX6_hashPhrase) 13 = .ok (.ldc2_w 209, 3) := by decide +kernel
theorem dX6_hashPhrase_16 : decode (mc mX6_hashPhrase) 16 = .ok (.lload 4, 2) := by decide +kernel
theorem dX6_hashPhrase_18 : decode (mc mX6_hashPhrase) 18 = .ok (.lmul, 1) := by decide +kernel
theorem dX6_hashPhrase_19 : decode (mc mX6_hashPhrase) 19 = .ok (.aload_n 0, 1) := by decide +kernel
theorem dX6_hashPhrase_20 : decode (mc mX6_hashPhrase) 20 = .ok (.getfield 10, 3) := by decide +kernel
theorem dX6_hashPhrase_23 : decode (mc mX6_hashPhrase) 23 = .ok (.iload_n 3, 1) := by decide +kernel
theorem dX6_hashPhrase_24 : decode (mc mX6_hashPhrase) 24 = .ok (.iload 6, 2) := by decide +kernel
theorem dX6_hashPhrase_26 : decode (mc mX6_hashPhrase) 26 = .ok (.invokevirtual 117, 3) := by decide +kernel
theorem dX6_hashPhrase_29 : decode (mc mX6_hashPhrase) 29 = .ok (.i2l, 1) := by decide +kernel
theorem dX6_hashPhrase_30 : decode (mc mX6_hashPhrase) 30 = .ok (.ladd, 1) := by decide +kernel
theorem dX6_hashPhrase_31 : decode (mc mX6_hashPhrase) 31 = .ok (.lstore 4, 2) := by decide +kernel
theorem dX6_hashPhrase_33 : decode (mc mX6_hashPhrase) 33 = .ok (.iinc 6 1, 3) := by decide +kernel
theorem dX6_hashPhrase_36 : decode (mc mX6_hashPhrase) 36 = .ok (.goto (-30), 3) := by decide +kernel
theorem dX6_hashPhrase_39 : decode (mc mX6_hashPhrase) 39 = .ok (.iconst 0, 1) := by decide +kernel
theorem dX6_hashPhrase_40 : decode (mc mX6_hashPhrase) 40 = .ok (.istore 6, 2) := by decide +kernel
theorem dX6_hashPhrase_42 : decode (mc mX6_hashPhrase) 42 = .ok (.iload 6, 2) := by decide +kernel
theorem dX6_hashPhrase_44 : decode (mc mX6_hashPhrase) 44 = .ok (.aload_n 0, 1) := by decide +kernel
theorem dX6_hashPhrase_45 : decode (mc mX6_hashPhrase) 45 = .ok (.getfield 10, 3) := by decide +kernel
theorem dX6_hashPhrase_48 : decode (mc mX6_hashPhrase) 48 = .ok (.iload_n 3, 1) := by decide +kernel
theorem dX6_hashPhrase_49 : decode (mc mX6_hashPhrase) 49 = .ok (.invokevirtual 120, 3) := by decide +kernel
theorem dX6_hashPhrase_52 : decode (mc mX6_hashPhrase) 52 = .ok (.if_icmp .ge 29, 3) := by decide +kernel
theorem dX6_hashPhrase_55 : decode (mc mX6_hashPhrase) 55 = .ok (.ldc2_w 209, 3) := by decide +kernel
theorem dX6_hashPhrase_58 : decode (mc mX6_hashPhrase) 58 = .ok (.lload 4, 2) := by decide +kernel
theorem dX6_hashPhrase_60 : decode (mc mX6_hashPhrase) 60 = .ok (.lmul, 1) := by decide +kernel
theorem dX6_hashPhrase_61 : decode (mc mX6_hashPhrase) 61 = .ok (.aload_n 0, 1) := by decide +kernel
theorem dX6_hashPhrase_62 : decode (mc mX6_hashPhrase) 62 = .ok (.getfield 10, 3) := by decide +kernel
theorem dX6_hashPhrase_65 : decode (mc mX6_hashPhrase) 65 = .ok (.iload_n 3, 1) := by decide +kernel
theorem dX6_hashPhrase_66 : decode (mc mX6_hashPhrase) 66 = .ok (.iload 6, 2) := by decide +kernel
theorem dX6_hashPhrase_68 : decode (mc mX6_hashPhrase) 68 = .ok (.invokevirtual 123, 3) := by decide +kernel
theorem dX6_hashPhrase_71 : decode (mc mX6_hashPhrase) 71 = .ok (.i2l, 1) := by decide +kernel
theorem dX6_hashPhrase_72 : decode (mc mX6_hashPhrase) 72 = .ok (.ladd, 1) := by decide +kernel
theorem dX6_hashPhrase_73 : decode (mc mX6_hashPhrase) 73 = .ok (.lstore 4, 2) := by decide +kernel
theorem dX6_hashPhrase_75 : decode (mc mX6_hashPhrase) 75 = .ok (.iinc 6 1, 3) := by decide +kernel
theorem dX6_hashPhrase_78 : decode (mc mX6_hashPhrase) 78 = .ok (.goto (-36), 3) := by decide +kernel
theorem dX6_hashPhrase_81 : decode (mc mX6_hashPhrase) 81 = .ok (.lload 4, 2) := by decide +kernel
theorem dX6_hashPhrase_83 : decode (mc mX6_hashPhrase) 83 = .ok (.lreturn, 1) := by decide +kernel
theorem dX6_findMatch_0 : decode (mc mX6_findMatch) 0 = .ok (.aload_n 0, 1) := by decide +kernel
theorem dX6_findMatch_1 : decode (mc mX6_findMatch) 1 = .ok (.getfield 26, 3) := by decide +kernel
theorem dX6_findMatch_4 : decode (mc mX6_findMatch) 4 = .ok (.aload_n 0, 1) := by decide +kernel
theorem dX6_findMatch_5 : decode (mc mX6_findMatch) 5 = .ok (.getfield 33, 3) := by decide +kernel
theorem dX6_findMatch_8 : decode (mc mX6_findMatch) 8 = .ok (.invokevirtual 109, 3) := by decide +kernel
theorem dX6_findMatch_11 : decode (mc mX6_findMatch) 11 = .ok (.ldc 94, 2) := by decide +kernel
theorem dX6_findMatch_13 : decode (mc mX6_findMatch) 13 = .ok (.istore_n 1, 1) := by decide +kernel
theorem dX6_findMatch_14 : decode (mc mX6_findMatch) 14 = .ok (.aload_n 0, 1) := by decide +kernel
theorem dX6_findMatch_15 : decode (mc mX6_findMatch) 15 = .ok (.getfield 10, 3) := by decide +kernel
theorem dX6_findMatch_18 : decode (mc mX6_findMatch) 18 = .ok (.iconst 0, 1) := by decide +kernel
theorem dX6_findMatch_19 : decode (mc mX6_findMatch) 19 = .ok (.invokevirtual 77, 3) := by decide +kernel
theorem dX6_findMatch_22 : decode (mc mX6_findMatch) 22 = .ok (.istore_n 2, 1) := by decide +kernel
theorem dX6_findMatch_23 : decode (mc mX6_findMatch) 23 = .ok (.iconst 0, 1) := by decide +kernel
theorem dX6_findMatch_24 : decode (mc mX6_findMatch) 24 = .ok (.istore_n 3, 1) := by decide +kernel
theorem dX6_findMatch_25 : decode (mc mX6_findMatch) 25 = .ok (.iload_n 3, 1) := by decide +kernel
theorem dX6_findMatch_26 : decode (mc mX6_findMatch) 26 = .ok (.aload_n 0, 1) := by decide +kernel
theorem dX6_findMatch_27 : decode (mc mX6_findMatch) 27 = .ok (.getfield 10, 3) := by decide +kernel
theorem dX6_findMatch_30 : decode (mc mX6_findMatch) 30 = .ok (.invokevirtual 106, 3) := by decide +kernel
theorem dX6_findMatch_33 : decode (mc mX6_findMatch) 33 = .ok (.if_icmp .ge 76, 3) := by decide +kernel
theorem dX6_findMatch_36 : decode (mc mX6_findMatch) 36 = .ok (.aload_n 0, 1) := by decide +kernel
theorem dX6_findMatch_37 : decode (mc mX6_findMatch) 37 = .ok (.getfield 10, 3) := by decide +kernel
theorem dX6_findMatch_40 : decode (mc mX6_findMatch) 40 = .ok (.iload_n 3, 1) := by decide +kernel
theorem dX6_findMatch_41 : decode (mc mX6_findMatch) 41 = .ok (.invokevirtual 102, 3) := by decide +kernel
theorem dX6_findMatch_44 : decode (mc mX6_findMatch) 44 = .ok (.ifCond .eq 59, 3) := by decide +kernel
theorem dX6_findMatch_47 : decode (mc mX6_findMatch) 47 = .ok (.aload_n 0, 1) := by decide +kernel
theorem dX6_findMatch_48 : decode (mc mX6_findMatch) 48 = .ok (.getfield 10, 3) := by decide +kernel
theorem dX6_findMatch_51 : decode (mc mX6_findMatch) 51 = .ok (.aload_n 0, 1) := by decide +kernel
theorem dX6_findMatch_52 : decode (mc mX6_findMatch) 52 = .ok (.getfield 33, 3) := by decide +kernel
theorem dX6_findMatch_55 : decode (mc mX6_findMatch) 55 = .ok (.iload_n 3, 1) := by decide +kernel
theorem dX6_findMatch_56 : decode (mc mX6_findMatch) 56 = .ok (.invokevirtual 143, 3) := by decide +kernel
theorem dX6_findMatch_59 : decode (mc mX6_findMatch) 59 = .ok (.istore 4, 2) := by decide +kernel
theorem dX6_findMatch_61 : decode (mc mX6_findMatch) 61 = .ok (.iload 4, 2) := by decide +kernel
theorem dX6_findMatch_63 : decode (mc mX6_findMatch) 63 = .ok (.iload_n 2, 1) := by decide +kernel
theorem dX6_findMatch_64 : decode (mc mX6_findMatch) 64 = .ok (.if_icmp .gt 34, 3) := by decide +kernel
theorem dX6_findMatch_67 : decode (mc mX6_findMatch) 67 = .ok (.iload 4, 2) := by decide +kernel
theorem dX6_findMatch_69 : decode (mc mX6_findMatch) 69 = .ok (.iload_n 2, 1) := by decide +kernel
theorem dX6_findMatch_70 : decode (mc mX6_findMatch) 70 = .ok (.if_icmp .ne 33, 3) := by decide +kernel
theorem dX6_findMatch_73 : decode (mc mX6_findMatch) 73 = .ok (.iload_n 1, 1) := by decide +kernel
theorem dX6_findMatch_74 : decode (mc mX6_findMatch) 74 = .ok (.ldc 94, 2) := by decide +kernel
theorem dX6_findMatch_76 : decode (mc mX6_findMatch) 76 = .ok (.if_icmp .eq 22, 3) := by decide +kernel
theorem dX6_findMatch_79 : decode (mc mX6_findMatch) 79 = .ok (.aload_n 0, 1) := by decide +kernel
theorem dX6_findMatch_80 : decode (mc mX6_findMatch) 80 = .ok (.getfield 10, 3) := by decide +kernel
theorem dX6_findMatch_83 : decode (mc mX6_findMatch) 83 = .ok (.iload_n 3, 1) := by decide +kernel
theorem dX6_findMatch_84 : decode (mc mX6_findMatch) 84 = .ok (.invokevirtual 215, 3) := by decide +kernel
theorem dX6_findMatch_87 : decode (mc mX6_findMatch) 87 = .ok (.aload_n 0, 1) := by decide +kernel
theorem dX6_findMatch_88 : decode (mc mX6_findMatch) 88 = .ok (.getfield 10, 3) := by decide +kernel
theorem dX6_findMatch_91 : decode (mc mX6_findMatch) 91 = .ok (.iload_n 1, 1) := by decide +kernel
theorem dX6_findMatch_92 : decode (mc mX6_findMatch) 92 = .ok (.invokevirtual 215, 3) := by decide +kernel
theorem dX6_findMatch_95 : decode (mc mX6_findMatch) 95 = .ok (.if_icmp .le 8, 3) := by decide +kernel
theorem dX6_findMatch_98 : decode (mc mX6_findMatch) 98 = .ok (.iload_n 3, 1) := by decide +kernel
theorem dX6_findMatch_99 : decode (mc mX6_findMatch) 99 = .ok (.istore_n 1, 1) := by decide +kernel
theorem dX6_findMatch_100 : decode (mc mX6_findMatch) 100 = .ok (.iload 4, 2) := by decide +kernel
theorem dX6_findMatch_102 : decode (mc mX6_findMatch) 102 = .ok (.istore_n 2, 1) := by decide +kernel
theorem dX6_findMatch_103 : decode (mc mX6_findMatch) 103 = .ok (.iinc 3 1, 3) := by decide +kernel
theorem dX6_findMatch_106 : decode (mc mX6_findMatch) 106 = .ok (.goto (-81), 3) := by decide +kernel
theorem dX6_findMatch_109 : decode (mc mX6_findMatch) 109 = .ok (.iload_n 1, 1) := by decide +kernel
theorem dX6_findMatch_110 : decode (mc mX6_findMatch) 110 = .ok (.ireturn, 1) := by decide +kernel
theorem dX6_findWays_0 : decode (mc mX6_findWays) 0 = .ok (.aload_n 0, 1) := by decide +kernel
theorem dX6_findWays_1 : decode (mc mX6_findWays) 1 = .ok (.getfield 26, 3) := by decide +kernel
theorem dX6_findWays_4 : decode (mc mX6_findWays) 4 = .ok (.aload_n 0, 1) := by decide +kernel
theorem dX6_findWays_5 : decode (mc mX6_findWays) 5 = .ok (.getfield 33, 3) := by decide +kernel
theorem dX6_findWays_8 : decode (mc mX6_findWays) 8 = .ok (.invokevirtual 109, 3) := by decide +kernel
theorem dX6_findWays_11 : decode (mc mX6_findWays) 11 = .ok (.aload_n 0, 1) := by decide +kernel
theorem dX6_findWays_12 : decode (mc mX6_findWays) 12 = .ok (.getfield 40, 3) := by decide +kernel
theorem dX6_findWays_15 : decode (mc mX6_findWays) 15 = .ok (.aload_n 0, 1) := by decide +kernel
theorem dX6_findWays_16 : decode (mc mX6_findWays) 16 = .ok (.getfield 33, 3) := by decide +kernel
theorem dX6_findWays_19 : decode (mc mX6_findWays) 19 = .ok (.getfield 218, 3) := by decide +kernel
theorem dX6_findWays_22 : decode (mc mX6_findWays) 22 = .ok (.invokevirtual 219, 3) := by decide +kernel
theorem dX6_findWays_25 : decode (mc mX6_findWays) 25 = .ok (.aload_n 0, 1) := by decide +kernel
theorem dX6_findWays_26 : decode (mc mX6_findWays) 26 = .ok (.getfield 33, 3) := by decide +kernel
theorem dX6_findWays_29 : decode (mc mX6_findWays) 29 = .ok (.getfield 218, 3) := by decide +kernel
theorem dX6_findWays_32 : decode (mc mX6_findWays) 32 = .ok (.iconst 1, 1) := by decide +kernel
theorem dX6_findWays_33 : decode (mc mX6_findWays) 33 = .ok (.isub, 1) := by decide +kernel
theorem dX6_findWays_34 : decode (mc mX6_findWays) 34 = .ok (.istore_n 2, 1) := by decide +kernel
theorem dX6_findWays_35 : decode (mc mX6_findWays) 35 = .ok (.iload_n 2, 1) := by decide +kernel
theorem dX6_findWays_36 : decode (mc mX6_findWays) 36 = .ok (.ifCond .lt 91, 3) := by decide +kernel
theorem dX6_findWays_39 : decode (mc mX6_findWays) 39 = .ok (.aload_n 0, 1) := by decide +kernel
theorem dX6_findWays_40 : decode (mc mX6_findWays) 40 = .ok (.getfield 40, 3) := by decide +kernel
theorem dX6_findWays_43 : decode (mc mX6_findWays) 43 = .ok (.iload_n 2, 1) := by decide +kernel
theorem dX6_findWays_44 : decode (mc mX6_findWays) 44 = .ok (.invokevirtual 222, 3) := by decide +kernel
theorem dX6_findWays_47 : decode (mc mX6_findWays) 47 = .ok (.iconst 0, 1) := by decide +kernel
theorem dX6_findWays_48 : decode (mc mX6_findWays) 48 = .ok (.istore_n 3, 1) := by decide +kernel
theorem dX6_findWays_49 : decode (mc mX6_findWays) 49 = .ok (.iload_n 3, 1) := by decide +kernel
theorem dX6_findWays_50 : decode (mc mX6_findWays) 50 = .ok (.aload_n 0, 1) := by decide +kernel
theorem dX6_findWays_51 : decode (mc mX6_findWays) 51 = .ok (.getfield 10, 3) := by decide +kernel
theorem dX6_findWays_54 : decode (mc mX6_findWays) 54 = .ok (.invokevirtual 106, 3) := by decide +kernel
theorem dX6_findWays_57 : decode (mc mX6_findWays) 57 = .ok (.if_icmp .ge 64, 3) := by decide +kernel
theorem dX6_findWays_60 : decode (mc mX6_findWays) 60 = .ok (.aload_n 0, 1) := by decide +kernel
theorem dX6_findWays_61 : decode (mc mX6_findWays) 61 = .ok (.getfield 10, 3) := by decide +kernel
theorem dX6_findWays_64 : decode (mc mX6_findWays) 64 = .ok (.iload_n 3, 1) := by decide +kernel
theorem dX6_findWays_65 : decode (mc mX6_findWays) 65 = .ok (.invokevirtual 102, 3) := by decide +kernel
theorem dX6_findWays_68 : decode (mc mX6_findWays) 68 = .ok (.ifCond .eq 47, 3) := by decide +kernel
theorem dX6_findWays_71 : decode (mc mX6_findWays) 71 = .ok (.aload_n 0, 1) := by decide +kernel
theorem dX6_findWays_72 : decode (mc mX6_findWays) 72 = .ok (.getfield 10, 3) := by decide +kernel
theorem dX6_findWays_75 : decode (mc mX6_findWays) 75 = .ok (.iload_n 3, 1) := by decide +kernel
theorem dX6_findWays_76 : decode (mc mX6_findWays) 76 = .ok (.aload_n 0, 1) := by decide +kernel
theorem dX6_findWays_77 : decode (mc mX6_findWays) 77 = .ok (.getfield 33, 3) := by decide +kernel
theorem dX6_findWays_80 : decode (mc mX6_findWays) 80 = .ok (.iload_n 2, 1) := by decide +kernel
theorem dX6_findWays_81 : decode (mc mX6_findWays) 81 = .ok (.invokevirtual 225, 3) := by decide +kernel
theorem dX6_findWays_84 : decode (mc mX6_findWays) 84 = .ok (.ifCond .eq 31, 3) := by decide +kernel
theorem dX6_findWays_87 : decode (mc mX6_findWays) 87 = .ok (.aload_n 0, 1) := by decide +kernel
theorem dX6_findWays_88 : decode (mc mX6_findWays) 88 = .ok (.getfield 40, 3) := by decide +kernel
theorem dX6_findWays_91 : decode (mc mX6_findWays) 91 = .ok (.iload_n 2, 1) := by decide +kernel
theorem dX6_findWays_92 : decode (mc mX6_findWays) 92 = .ok (.iload_n 3, 1) := by decide +kernel
theorem dX6_findWays_93 : decode (mc mX6_findWays) 93 = .ok (.aload_n 0, 1) := by decide +kernel
theorem dX6_findWays_94 : decode (mc mX6_findWays) 94 = .ok (.getfield 10, 3) := by decide +kernel
theorem dX6_findWays_97 : decode (mc mX6_findWays) 97 = .ok (.iload_n 3, 1) := by decide +kernel
theorem dX6_findWays_98 : decode (mc mX6_findWays) 98 = .ok (.invokevirtual 120, 3) := by decide +kernel
theorem dX6_findWays_101 : decode (mc mX6_findWays) 101 = .ok (.aload_n 0, 1) := by decide +kernel
theorem dX6_findWays_102 : decode (mc mX6_findWays) 102 = .ok (.getfield 10, 3) := by decide +kernel
theorem dX6_findWays_105 : decode (mc mX6_findWays) 105 = .ok (.iload_n 1, 1) := by decide +kernel
theorem dX6_findWays_106 : decode (mc mX6_findWays) 106 = .ok (.iload_n 3, 1) := by decide +kernel
theorem dX6_findWays_107 : decode (mc mX6_findWays) 107 = .ok (.bipush 100, 2) := by decide +kernel
theorem dX6_findWays_109 : decode (mc mX6_findWays) 109 = .ok (.invokevirtual 147, 3) := by decide +kernel
theorem dX6_findWays_112 : decode (mc mX6_findWays) 112 = .ok (.invokevirtual 229, 3) := by decide +kernel
theorem dX6_findWays_115 : decode (mc mX6_findWays) 115 = .ok (.iinc 3 1, 3) := by decide +kernel
theorem dX6_findWays_118 : decode (mc mX6_findWays) 118 = .ok (.goto (-69), 3) := by decide +kernel
theorem dX6_findWays_121 : decode (mc mX6_findWays) 121 = .ok (.iinc 2 (-1), 3) := by decide +kernel
theorem dX6_findWays_124 : decode (mc mX6_findWays) 124 = .ok (.goto (-89), 3) := by decide +kernel
theorem dX6_findWays_127 : decode (mc mX6_findWays) 127 = .ok (.return_, 1) := by decide +kernel
theorem dX7_init_0 : decode (mc mX7_init) 0 = .ok (.aload_n 0, 1) := by decide +kernel
theorem dX7_init_1 : decode (mc mX7_init) 1 = .ok (.invokespecial 1, 3) := by decide +kernel
theorem dX7_init_4 : decode (mc mX7_init) 4 = .ok (.aload_n 0, 1) := by decide +kernel
theorem dX7_init_5 : decode (mc mX7_init) 5 = .ok (.sipush 3270, 3) := by decide +kernel
theorem dX7_init_8 : decode (mc mX7_init) 8 = .ok (.newarray .int, 2) := by decide +kernel
theorem dX7_init_10 : decode (mc mX7_init) 10 = .ok (.putfield 7, 3) := by decide +kernel
theorem dX7_init_13 : decode (mc mX7_init) 13 = .ok (.aload_n 0, 1) := by decide +kernel
theorem dX7_init_14 : decode (mc mX7_init) 14 = .ok (.bipush 10, 2) := by decide +kernel
theorem dX7_init_16 : decode (mc mX7_init) 16 = .ok (.newarray .int, 2) := by decide +kernel
theorem dX7_init_18 : decode (mc mX7_init) 18 = .ok (.putfield 13, 3) := by decide +kernel
theorem dX7_init_21 : decode (mc mX7_init) 21 = .ok (.aload_n 0, 1) := by decide +kernel
theorem dX7_init_22 : decode (mc mX7_init) 22 = .ok (.bipush 10, 2) := by decide +kernel
theorem dX7_init_24 : decode (mc mX7_init) 24 = .ok (.newarray .int, 2) := by decide +kernel
theorem dX7_init_26 : decode (mc mX7_init) 26 = .ok (.putfield 16, 3) := by decide +kernel
theorem dX7_init_29 : decode (mc mX7_init) 29 = .ok (.aload_n 0, 1) := by decide +kernel
theorem dX7_init_30 : decode (mc mX7_init) 30 = .ok (.bipush 121, 2) := by decide +kernel
theorem dX7_init_32 : decode (mc mX7_init) 32 = .ok (.newarray .int, 2) := by decide +kernel
theorem dX7_init_34 : decode (mc mX7_init) 34 = .ok (.putfield 19, 3) := by decide +kernel
theorem dX7_init_37 : decode (mc mX7_init) 37 = .ok (.aload_n 0, 1) := by decide +kernel
theorem dX7_init_38 : decode (mc mX7_init) 38 = .ok (.bipush 20, 2) := by decide +kernel
theorem dX7_init_40 : decode (mc mX7_init) 40 = .ok (.newarray .int, 2) := by decide +kernel
theorem dX7_init_42 : decode (mc mX7_init) 42 = .ok (.putfield 22, 3) := by decide +kernel
theorem dX7_init_45 : decode (mc mX7_init) 45 = .ok (.aload_n 0, 1) := by decide +kernel
theorem dX7_init_46 : decode (mc mX7_init) 46 = .ok (.bipush 11, 2) := by decide +kernel
theorem dX7_init_48 : decode (mc mX7_init) 48 = .ok (.newarray .int, 2) := by decide +kernel
theorem dX7_init_50 : decode (mc mX7_init) 50 = .ok (.putfield 25, 3) := by decide +kernel
theorem dX7_init_53 : decode (mc mX7_init) 53 = .ok (.aload_n 0, 1) := by decide +kernel
theorem dX7_init_54 : decode (mc mX7_init) 54 = .ok (.bipush 11, 2) := by decide +kernel
theorem dX7_init_56 : decode (mc mX7_init) 56 = .ok (.newarray .int, 2) := by decide +kernel
theorem dX7_init_58 : decode (mc mX7_init) 58 = .ok (.putfield 28, 3) := by decide +kernel
theorem dX7_init_61 : decode (mc mX7_init) 61 = .ok (.aload_n 0, 1) := by decide +kernel
theorem dX7_init_62 : decode (mc mX7_init) 62 = .ok (.bipush 11, 2) := by decide +kernel
theorem dX7_init_64 : decode (mc mX7_init) 64 = .ok (.newarray .int, 2) := by decide +kernel
theorem dX7_init_66 : decode (mc mX7_init) 66 = .ok (.putfield 31, 3) := by decide +kernel
theorem dX7_init_69 : decode (mc mX7_init) 69 = .ok (.aload_n 0, 1) := by decide +kernel
theorem dX7_init_70 : decode (mc mX7_init) 70 = .ok (.bipush 40, 2) := by decide +kernel
theorem dX7_init_72 : decode (mc mX7_init) 72 = .ok (.newarray .int, 2) := by decide +kernel
theorem dX7_init_74 : decode (mc mX7_init) 74 = .ok (.putfield 34, 3) := by decide +kernel
theorem dX7_init_77 : decode (mc mX7_init) 77 = .ok (.aload_n 0, 1) := by decide +kernel
theorem dX7_init_78 : decode (mc mX7_init) 78 = .ok (.getfield 7, 3) := by decide +kernel
theorem dX7_init_81 : decode (mc mX7_init) 81 = .ok (.iconst 5, 1) := by decide +kernel
theorem dX7_init_82 : decode (mc mX7_init) 82 = .ok (.bipush 70, 2) := by decide +kernel
theorem dX7_init_84 : decode (mc mX7_init) 84 = .ok (.iastore, 1) := by decide +kernel
theorem dX7_init_85 : decode (mc mX7_init) 85 = .ok (.aload_n 0, 1) := by decide +kernel
theorem dX7_init_86 : decode (mc mX7_init) 86 = .ok (.getfield 7, 3) := by decide +kernel
theorem dX7_init_89 : decode (mc mX7_init) 89 = .ok (.bipush 6, 2) := by decide +kernel
theorem dX7_init_91 : decode (mc mX7_init) 91 = .ok (.bipush 10, 2) := by decide +kernel
theorem dX7_init_93 : decode (mc mX7_init) 93 = .ok (.iastore, 1) := by decide +kernel
theorem dX7_init_94 : decode (mc mX7_init) 94 = .ok (.aload_n 0, 1) := by decide +kernel
theorem dX7_init_95 : decode (mc mX7_init) 95 = .ok (.getfield 7, 3) := by decide +kernel
theorem dX7_init_98 : decode (mc mX7_init) 98 = .ok (.bipush 7, 2) := by decide +kernel
theorem dX7_init_100 : decode (mc mX7_init) 100 = .ok (.bipush 30, 2) := by decide +kernel
theorem dX7_init_102 : decode (mc mX7_init) 102 = .ok (.iastore, 1) := by decide +kernel
theorem dX7_init_103 : decode (mc mX7_init) 103 = .ok (.aload_n 0, 1) := by decide +kernel
theorem dX7_init_104 : decode (mc mX7_init) 104 = .ok (.getfield 7, 3) := by decide +kernel
theorem dX7_init_107 : decode (mc mX7_init) 107 = .ok (.bipush 8, 2) := by decide +kernel
theorem dX7_init_109 : decode (mc mX7_init) 109 = .ok (.bipush 10, 2) := by decide +kernel
theorem dX7_init_111 : decode (mc mX7_init) 111 = .ok (.iastore, 1) := by decide +kernel
theorem dX7_init_112 : decode (mc mX7_init) 112 = .ok (.aload_n 0, 1) := by decide +kernel
theorem dX7_init_113 : decode (mc mX7_init) 113 = .ok (.getfield 7, 3) := by decide +kernel
theorem dX7_init_116 : decode (mc mX7_init) 116 = .ok (.bipush 9, 2) := by decide +kernel
theorem dX7_init_118 : decode (mc mX7_init) 118 = .ok (.bipush 80, 2) := by decide +kernel
theorem dX7_init_120 : decode (mc mX7_init) 120 = .ok (.iastore, 1) := by decide +kernel
theorem dX7_init_121 : decode (mc mX7_init) 121 = .ok (.return_, 1) := by decide +kernel
theorem dX7_in_0 : decode (mc mX7_in) 0 = .ok (.iload_n 0, 1) := by decide +kernel
theorem dX7_in_1 : decode (mc mX7_in) 1 = .ok (.iload_n 1, 1) := by decide +kernel
theorem dX7_in_2 : decode (mc mX7_in) 2 = .ok (.if_icmp .lt 12, 3) := by decide +kernel
theorem dX7_in_5 : decode (mc mX7_in) 5 = .ok (.iload_n 0, 1) := by decide +kernel
theorem dX7_in_6 : decode (mc mX7_in) 6 = .ok (.iload_n 2, 1) := by decide +kernel
theorem dX7_in_7 : decode (mc mX7_in) 7 = .ok (.if_icmp .gt 7, 3) := by decide +kernel
theorem dX7_in_10 : decode (mc mX7_in) 10 = .ok (.iconst 1, 1) := by decide +kernel
theorem dX7_in_11 : decode (mc mX7_in) 11 = .ok (.goto 4, 3) := by decide +kernel
theorem dX7_in_14 : decode (mc mX7_in) 14 = .ok (.iconst 0, 1) := by decide +kernel
theorem dX7_in_15 : decode (mc mX7_in) 15 = .ok (.ireturn, 1) := by decide +kernel
theorem dX7_copies_0 : decode (mc mX7_copies) 0 = .ok (.iconst 0, 1) := by decide +kernel
theorem dX7_copies_1 : decode (mc mX7_copies) 1 = .ok (.istore_n 3, 1) := by decide +kernel
theorem dX7_copies_2 : decode (mc mX7_copies) 2 = .ok (.iload_n 3, 1) := by decide +kernel
theorem dX7_copies_3 : decode (mc mX7_copies) 3 = .ok (.sipush 654, 3) := by decide +kernel
theorem dX7_copies_6 : decode (mc mX7_copies) 6 = .ok (.if_icmp .ge 25, 3) := by decide +kernel
theorem dX7_copies_9 : decode (mc mX7_copies) 9 = .ok (.aload_n 0, 1) := by decide +kernel
theorem dX7_copies_10 : decode (mc mX7_copies) 10 = .ok (.getfield 7, 3) := by decide +kernel
theorem dX7_copies_13 : decode (mc mX7_copies) 13 = .ok (.iload_n 2, 1) := by decide +kernel
theorem dX7_copies_14 : decode (mc mX7_copies) 14 = .ok (.iload_n 3, 1) := by decide +kernel
theorem dX7_copies_15 : decode (mc mX7_copies) 15 = .ok (.iadd, 1) := by decide +kernel
theorem dX7_copies_16 : decode (mc mX7_copies) 16 = .ok (.aload_n 0, 1) := by decide +kernel
theorem dX7_copies_17 : decode (mc mX7_copies) 17 = .ok (.getfield 7, 3) := by decide +kernel
theorem dX7_copies_20 : decode (mc mX7_copies) 20 = .ok (.iload_n 1, 1) := by decide +kernel
theorem dX7_copies_21 : decode (mc mX7_copies) 21 = .ok (.iload_n 3, 1) := by decide +kernel
theorem dX7_copies_22 : decode (mc mX7_copies) 22 = .ok (.iadd, 1) := by decide +kernel
theorem dX7_copies_23 : decode (mc mX7_copies) 23 = .ok (.iaload, 1) := by decide +kernel
theorem dX7_copies_24 : decode (mc mX7_copies) 24 = .ok (.iastore, 1) := by decide +kernel
theorem dX7_copies_25 : decode (mc mX7_copies) 25 = .ok (.iinc 3 1, 3) := by decide +kernel
theorem dX7_copies_28 : decode (mc mX7_copies) 28 = .ok (.goto (-26), 3) := by decide +kernel
theorem dX7_copies_31 : decode (mc mX7_copies) 31 = .ok (.return_, 1) := by decide +kernel
theorem dX7_records_0 : decode (mc mX7_records) 0 = .ok (.iconst 1, 1) := by decide +kernel
theorem dX7_records_1 : decode (mc mX7_records) 1 = .ok (.istore_n 1, 1) := by decide +kernel
theorem dX7_records_2 : decode (mc mX7_records) 2 = .ok (.iload_n 1, 1) := by decide +kernel
theorem dX7_records_3 : decode (mc mX7_records) 3 = .ok (.iconst 4, 1) := by decide +kernel
theorem dX7_records_4 : decode (mc mX7_records) 4 = .ok (.if_icmp .ge 33, 3) := by decide +kernel
theorem dX7_records_7 : decode (mc mX7_records) 7 = .ok (.aload_n 0, 1) := by decide +kernel
theorem dX7_records_8 : decode (mc mX7_records) 8 = .ok (.getfield 37, 3) := by decide +kernel
theorem dX7_records_11 : decode (mc mX7_records) 11 = .ok (.iconst 4, 1) := by decide +kernel
theorem dX7_records_12 : decode (mc mX7_records) 12 = .ok (.if_icmp .ne 25, 3) := by decide +kernel
theorem dX7_records_15 : decode (mc mX7_records) 15 = .ok (.aload_n 0, 1) := by decide +kernel
theorem dX7_records_16 : decode (mc mX7_records) 16 = .ok (.sipush 654, 3) := by decide +kernel
theorem dX7_records_19 : decode (mc mX7_records) 19 = .ok (.iload_n 1, 1) := by decide +kernel
theorem dX7_records_20 : decode (mc mX7_records) 20 = .ok (.iconst 1, 1) := by decide +kernel
theorem dX7_records_21 : decode (mc mX7_records) 21 = .ok (.iadd, 1) := by decide +kernel
theorem dX7_records_22 : decode (mc mX7_records) 22 = .ok (.imul, 1) := by decide +kernel
theorem dX7_records_23 : decode (mc mX7_records) 23 = .ok (.sipush 654, 3) := by decide +kernel
theorem dX7_records_26 : decode (mc mX7_records) 26 = .ok (.iload_n 1, 1) := by decide +kernel
theorem dX7_records_27 : decode (mc mX7_records) 27 = .ok (.imul, 1) := by decide +kernel
theorem dX7_records_28 : decode (mc mX7_records) 28 = .ok (.invokevirtual 41, 3) := by decide +kernel
theorem dX7_records_31 : decode (mc mX7_records) 31 = .ok (.iinc 1 1, 3) := by decide +kernel
theorem dX7_records_34 : decode (mc mX7_records) 34 = .ok (.goto (-32), 3) := by decide +kernel
theorem dX7_records_37 : decode (mc mX7_records) 37 = .ok (.aload_n 0, 1) := by decide +kernel
theorem dX7_records_38 : decode (mc mX7_records) 38 = .ok (.dup, 1) := by decide +kernel
theorem dX7_records_39 : decode (mc mX7_records) 39 = .ok (.getfield 37, 3) := by decide +kernel
theorem dX7_records_42 : decode (mc mX7_records) 42 = .ok (.aload_n 0, 1) := by decide +kernel
theorem dX7_records_43 : decode (mc mX7_records) 43 = .ok (.getfield 37, 3) := by decide +kernel
theorem dX7_records_46 : decode (mc mX7_records) 46 = .ok (.iconst 4, 1) := by decide +kernel
theorem dX7_records_47 : decode (mc mX7_records) 47 = .ok (.if_icmp .ne 7, 3) := by decide +kernel
theorem dX7_records_50 : decode (mc mX7_records) 50 = .ok (.iconst 1, 1) := by decide +kernel
theorem dX7_records_51 : decode (mc mX7_records) 51 = .ok (.goto 4, 3) := by decide +kernel
theorem dX7_records_54 : decode (mc mX7_records) 54 = .ok (.iconst 0, 1) := by decide +kernel
theorem dX7_records_55 : decode (mc mX7_records) 55 = .ok (.isub, 1) := by decide +kernel
theorem dX7_records_56 : decode (mc mX7_records) 56 = .ok (.putfield 37, 3) := by decide +kernel
theorem dX7_records_59 : decode (mc mX7_records) 59 = .ok (.aload_n 0, 1) := by decide +kernel
theorem dX7_records_60 : decode (mc mX7_records) 60 = .ok (.dup, 1) := by decide +kernel
theorem dX7_records_61 : decode (mc mX7_records) 61 = .ok (.getfield 37, 3) := by decide +kernel
theorem dX7_records_64 : decode (mc mX7_records) 64 = .ok (.iconst 1, 1) := by decide +kernel
theorem dX7_records_65 : decode (mc mX7_records) 65 = .ok (.iadd, 1) := by decide +kernel
theorem dX7_records_66 : decode (mc mX7_records) 66 = .ok (.putfield 37, 3) := by decide +kernel
theorem dX7_records_69 : decode (mc mX7_records) 69 = .ok (.aload_n 0, 1) := by decide +kernel
theorem dX7_records_70 : decode (mc mX7_records) 70 = .ok (.iconst 0, 1) := by decide +kernel
theorem dX7_records_71 : decode (mc mX7_records) 71 = .ok (.sipush 654, 3) := by decide +kernel
theorem dX7_records_74 : decode (mc mX7_records) 74 = .ok (.aload_n 0, 1) := by decide +kernel
theorem dX7_records_75 : decode (mc mX7_records) 75 = .ok (.getfield 37, 3) := by decide +kernel
theorem dX7_records_78 : decode (mc mX7_records) 78 = .ok (.imul, 1) := by decide +kernel
theorem dX7_records_79 : decode (mc mX7_records) 79 = .ok (.invokevirtual 41, 3) := by decide +kernel
theorem dX7_records_82 : decode (mc mX7_records) 82 = .ok (.return_, 1) := by decide +kernel
theorem dX7_isMember_0 : decode (mc mX7_isMember) 0 = .ok (.iload_n 1, 1) := by decide +kernel
theorem dX7_isMember_1 : decode (mc mX7_isMember) 1 = .ok (.iconst 0, 1) := by decide +kernel
theorem dX7_isMember_2 : decode (mc mX7_isMember) 2 = .ok (.aload_n 0, 1) := by decide +kernel
theorem dX7_isMember_3 : decode (mc mX7_isMember) 3 = .ok (.getfield 7, 3) := by decide +kernel
theorem dX7_isMember_6 : decode (mc mX7_isMember) 6 = .ok (.iconst 0, 1) := by decide +kernel
theorem dX7_isMember_7 : decode (mc mX7_isMember) 7 = .ok (.iaload, 1) := by decide +kernel
theorem dX7_isMember_8 : decode (mc mX7_isMember) 8 = .ok (.iconst 1, 1) := by decide +kernel
theorem dX7_isMember_9 : decode (mc mX7_isMember) 9 = .ok (.isub, 1) := by decide +kernel
theorem dX7_isMember_10 : decode (mc mX7_isMember) 10 = .ok (.invokestatic 45, 3) := by decide +kernel
theorem dX7_isMember_13 : decode (mc mX7_isMember) 13 = .ok (.ireturn, 1) := by decide +kernel
theorem dX7_isPhrase_0 : decode (mc mX7_isPhrase) 0 = .ok (.iload_n 1, 1) := by decide +kernel
theorem dX7_isPhrase_1 : decode (mc mX7_isPhrase) 1 = .ok (.iconst 0, 1) := by decide +kernel
theorem dX7_isPhrase_2 : decode (mc mX7_isPhrase) 2 = .ok (.aload_n 0, 1) := by decide +kernel
theorem dX7_isPhrase_3 : decode (mc mX7_isPhrase) 3 = .ok (.getfield 7, 3) := by decide +kernel
theorem dX7_isPhrase_6 : decode (mc mX7_isPhrase) 6 = .ok (.iconst 1, 1) := by decide +kernel
theorem dX7_isPhrase_7 : decode (mc mX7_isPhrase) 7 = .ok (.iaload, 1) := by decide +kernel
theorem dX7_isPhrase_8 : decode (mc mX7_isPhrase) 8 = .ok (.iconst 1, 1) := by decide +kernel
theorem dX7_isPhrase_9 : decode (mc mX7_isPhrase) 9 = .ok (.isub, 1) := by decide +kernel
theorem dX7_isPhrase_10 : decode (mc mX7_isPhrase) 10 = .ok (.invokestatic 45, 3) := by decide +kernel
theorem dX7_isPhrase_13 : decode (mc mX7_isPhrase) 13 = .ok (.ireturn, 1) := by decide +kernel
theorem dX7_of_0 : decode (mc mX7_of) 0 = .ok (.aload_n 0, 1) := by decide +kernel
theorem dX7_of_1 : decode (mc mX7_of) 1 = .ok (.getfield 7, 3) := by decide +kernel
theorem dX7_of_4 : decode (mc mX7_of) 4 = .ok (.bipush 22, 2) := by decide +kernel
theorem dX7_of_6 : decode (mc mX7_of) 6 = .ok (.bipush 16, 2) := by decide +kernel
theorem dX7_of_8 : decode (mc mX7_of) 8 = .ok (.iload_n 1, 1) := by decide +kernel
theorem dX7_of_9 : decode (mc mX7_of) 9 = .ok (.imul, 1) := by decide +kernel
theorem dX7_of_10 : decode (mc mX7_of) 10 = .ok (.iadd, 1) := by decide +kernel
theorem dX7_of_11 : decode (mc mX7_of) 11 = .ok (.iload_n 2, 1) := by decide +kernel
theorem dX7_of_12 : decode (mc mX7_of) 12 = .ok (.iadd, 1) := by decide +kernel
theorem dX7_of_13 : decode (mc mX7_of) 13 = .ok (.iaload, 1) := by decide +kernel
theorem dX7_of_14 : decode (mc mX7_of) 14 = .ok (.ireturn, 1) := by decide +kernel
theorem dX7_ofNote_0 : decode (mc mX7_ofNote) 0 = .ok (.aload_n 0, 1) := by decide +kernel
theorem dX7_ofNote_1 : decode (mc mX7_ofNote) 1 = .ok (.getfield 7, 3) := by decide +kernel
theorem dX7_ofNote_4 : decode (mc mX7_ofNote) 4 = .ok (.sipush 342, 3) := by decide +kernel
theorem dX7_ofNote_7 : decode (mc mX7_ofNote) 7 = .ok (.bipush 13, 2) := by decide +kernel
theorem dX7_ofNote_9 : decode (mc mX7_ofNote) 9 = .ok (.iload_n 1, 1) := by decide +kernel
theorem dX7_ofNote_10 : decode (mc mX7_ofNote) 10 = .ok (.imul, 1) := by decide +kernel
theorem dX7_ofNote_11 : decode (mc mX7_ofNote) 11 = .ok (.iadd, 1) := by decide +kernel
theorem dX7_ofNote_12 : decode (mc mX7_ofNote) 12 = .ok (.iload_n 2, 1) := by decide +kernel
theorem dX7_ofNote_13 : decode (mc mX7_ofNote) 13 = .ok (.iadd, 1) := by decide +kernel
theorem dX7_ofNote_14 : decode (mc mX7_ofNote) 14 = .ok (.iaload, 1) := by decide +kernel
theorem dX7_ofNote_15 : decode (mc mX7_ofNote) 15 = .ok (.ireturn, 1) := by decide +kernel
theorem dX7_price_0 : decode (mc mX7_price) 0 = .ok (.aload_n 0, 1) := by decide +kernel
theorem dX7_price_1 : decode (mc mX7_price) 1 = .ok (.getfield 7, 3) := by decide +kernel
theorem dX7_price_4 : decode (mc mX7_price) 4 = .ok (.bipush 10, 2) := by decide +kernel
theorem dX7_price_6 : decode (mc mX7_price) 6 = .ok (.iconst 2, 1) := by decide +kernel
theorem dX7_price_7 : decode (mc mX7_price) 7 = .ok (.iload_n 1, 1) := by decide +kernel
theorem dX7_price_8 : decode (mc mX7_price) 8 = .ok (.imul, 1) := by decide +kernel
theorem dX7_price_9 : decode (mc mX7_price) 9 = .ok (.iadd, 1) := by decide +kernel
theorem dX7_price_10 : decode (mc mX7_price) 10 = .ok (.iaload, 1) := by decide +kernel
theorem dX7_price_11 : decode (mc mX7_price) 11 = .ok (.ireturn, 1) := by decide +kernel
theorem dX7_pays_0 : decode (mc mX7_pays) 0 = .ok (.aload_n 0, 1) := by decide +kernel
theorem dX7_pays_1 : decode (mc mX7_pays) 1 = .ok (.getfield 7, 3) := by decide +kernel
theorem dX7_pays_4 : decode (mc mX7_pays) 4 = .ok (.bipush 10, 2) := by decide +kernel
theorem dX7_pays_6 : decode (mc mX7_pays) 6 = .ok (.iconst 2, 1) := by decide +kernel
theorem dX7_pays_7 : decode (mc mX7_pays) 7 = .ok (.iload_n 1, 1) := by decide +kernel
theorem dX7_pays_8 : decode (mc mX7_pays) 8 = .ok (.imul, 1) := by decide +kernel
theorem dX7_pays_9 : decode (mc mX7_pays) 9 = .ok (.iadd, 1) := by decide +kernel
theorem dX7_pays_10 : decode (mc mX7_pays) 10 = .ok (.iconst 1, 1) := by decide +kernel
theorem dX7_pays_11 : decode (mc mX7_pays) 11 = .ok (.iadd, 1) := by decide +kernel
theorem dX7_pays_12 : decode (mc mX7_pays) 12 = .ok (.dup2, 1) := by decide +kernel
theorem dX7_pays_13 : decode (mc mX7_pays) 13 = .ok (.iaload, 1) := by decide +kernel
theorem dX7_pays_14 : decode (mc mX7_pays) 14 = .ok (.iload_n 2, 1) := by decide +kernel
theorem dX7_pays_15 : decode (mc mX7_pays) 15 = .ok (.iadd, 1) := by decide +kernel
theorem dX7_pays_16 : decode (mc mX7_pays) 16 = .ok (.iastore, 1) := by decide +kernel
theorem dX7_pays_17 : decode (mc mX7_pays) 17 = .ok (.return_, 1) := by decide +kernel
theorem dX7_setsOne_0 : decode (mc mX7_setsOne) 0 = .ok (.aload_n 0, 1) := by decide +kernel
theorem dX7_setsOne_1 : decode (mc mX7_setsOne) 1 = .ok (.aload_n 0, 1) := by decide +kernel
theorem dX7_setsOne_2 : decode (mc mX7_setsOne) 2 = .ok (.iload_n 1, 1) := by decide +kernel
theorem dX7_setsOne_3 : decode (mc mX7_setsOne) 3 = .ok (.iconst 1, 1) := by decide +kernel
theorem dX7_setsOne_4 : decode (mc mX7_setsOne) 4 = .ok (.invokevirtual 49, 3) := by decide +kernel
theorem dX7_setsOne_7 : decode (mc mX7_setsOne) 7 = .ok (.putfield 53, 3) := by decide +kernel
theorem dX7_setsOne_10 : decode (mc mX7_setsOne) 10 = .ok (.iconst 0, 1) := by decide +kernel
theorem dX7_setsOne_11 : decode (mc mX7_setsOne) 11 = .ok (.istore_n 2, 1) := by decide +kernel
theorem dX7_setsOne_12 : decode (mc mX7_setsOne) 12 = .ok (.iload_n 2, 1) := by decide +kernel
theorem dX7_setsOne_13 : decode (mc mX7_setsOne) 13 = .ok (.aload_n 0, 1) := by decide +kernel
theorem dX7_setsOne_14 : decode (mc mX7_setsOne) 14 = .ok (.getfield 53, 3) := by decide +kernel
theorem dX7_setsOne_17 : decode (mc mX7_setsOne) 17 = .ok (.if_icmp .ge 24, 3) := by decide +kernel
theorem dX7_setsOne_20 : decode (mc mX7_setsOne) 20 = .ok (.aload_n 0, 1) := by decide +kernel
theorem dX7_setsOne_21 : decode (mc mX7_setsOne) 21 = .ok (.getfield 13, 3) := by decide +kernel
theorem dX7_setsOne_24 : decode (mc mX7_setsOne) 24 = .ok (.iload_n 2, 1) := by decide +kernel
theorem dX7_setsOne_25 : decode (mc mX7_setsOne) 25 = .ok (.aload_n 0, 1) := by decide +kernel
theorem dX7_setsOne_26 : decode (mc mX7_setsOne) 26 = .ok (.iload_n 1, 1) := by decide +kernel
theorem dX7_setsOne_27 : decode (mc mX7_setsOne) 27 = .ok (.bipush 6, 2) := by decide +kernel
theorem dX7_setsOne_29 : decode (mc mX7_setsOne) 29 = .ok (.iload_n 2, 1) := by decide +kernel
theorem dX7_setsOne_30 : decode (mc mX7_setsOne) 30 = .ok (.iadd, 1) := by decide +kernel
theorem dX7_setsOne_31 : decode (mc mX7_setsOne) 31 = .ok (.invokevirtual 49, 3) := by decide +kernel
theorem dX7_setsOne_34 : decode (mc mX7_setsOne) 34 = .ok (.iastore, 1) := by decide +kernel
theorem dX7_setsOne_35 : decode (mc mX7_setsOne) 35 = .ok (.iinc 2 1, 3) := by decide +kernel
theorem dX7_setsOne_38 : decode (mc mX7_setsOne) 38 = .ok (.goto (-26), 3) := by decide +kernel
theorem dX7_setsOne_41 : decode (mc mX7_setsOne) 41 = .ok (.return_, 1) := by decide +kernel
theorem dX7_setsOther_0 : decode (mc mX7_setsOther) 0 = .ok (.aload_n 0, 1) := by decide +kernel
theorem dX7_setsOther_1 : decode (mc mX7_setsOther) 1 = .ok (.aload_n 0, 1) := by decide +kernel
theorem dX7_setsOther_2 : decode (mc mX7_setsOther) 2 = .ok (.iload_n 1, 1) := by decide +kernel
theorem dX7_setsOther_3 : decode (mc mX7_setsOther) 3 = .ok (.iconst 1, 1) := by decide +kernel
theorem dX7_setsOther_4 : decode (mc mX7_setsOther) 4 = .ok (.invokevirtual 49, 3) := by decide +kernel
theorem dX7_setsOther_7 : decode (mc mX7_setsOther) 7 = .ok (.putfield 56, 3) := by decide +kernel
theorem dX7_setsOther_10 : decode (mc mX7_setsOther) 10 = .ok (.iconst 0, 1) := by decide +kernel
theorem dX7_setsOther_11 : decode (mc mX7_setsOther) 11 = .ok (.istore_n 2, 1) := by decide +kernel
theorem dX7_setsOther_12 : decode (mc mX7_setsOther) 12 = .ok (.iload_n 2, 1) := by decide +kernel
theorem dX7_setsOther_13 : decode (mc mX7_setsOther) 13 = .ok (.aload_n 0, 1) := by decide +kernel
theorem dX7_setsOther_14 : decode (mc mX7_setsOther) 14 = .ok (.getfield 56, 3) := by decide +kernel
theorem dX7_setsOther_17 : decode (mc mX7_setsOther) 17 = .ok (.if_icmp .ge 24, 3) := by decide +kernel
theorem dX7_setsOther_20 : decode (mc mX7_setsOther) 20 = .ok (.aload_n 0, 1) := by decide +kernel
theorem dX7_setsOther_21 : decode (mc mX7_setsOther) 21 = .ok (.getfield 16, 3) := by decide +kernel
theorem dX7_setsOther_24 : decode (mc mX7_setsOther) 24 = .ok (.iload_n 2, 1) := by decide +kernel
theorem dX7_setsOther_25 : decode (mc mX7_setsOther) 25 = .ok (.aload_n 0, 1) := by decide +kernel
theorem dX7_setsOther_26 : decode (mc mX7_setsOther) 26 = .ok (.iload_n 1, 1) := by decide +kernel
theorem dX7_setsOther_27 : decode (mc mX7_setsOther) 27 = .ok (.bipush 6, 2) := by decide +kernel
theorem dX7_setsOther_29 : decode (mc mX7_setsOther) 29 = .ok (.iload_n 2, 1) := by decide +kernel
theorem dX7_setsOther_30 : decode (mc mX7_setsOther) 30 = .ok (.iadd, 1) := by decide +kernel
theorem dX7_setsOther_31 : decode (mc mX7_setsOther) 31 = .ok (.invokevirtual 49, 3) := by decide +kernel
theorem dX7_setsOther_34 : decode (mc mX7_setsOther) 34 = .ok (.iastore, 1) := by decide +kernel
theorem dX7_setsOther_35 : decode (mc mX7_setsOther) 35 = .ok (.iinc 2 1, 3) := by decide +kernel
theorem dX7_setsOther_38 : decode (mc mX7_setsOther) 38 = .ok (.goto (-26), 3) := by decide +kernel
theorem dX7_setsOther_41 : decode (mc mX7_setsOther) 41 = .ok (.return_, 1) := by decide +kernel
theorem dX7_setsText_0 : decode (mc mX7_setsText) 0 = .ok (.aload_n 0, 1) := by decide +kernel
theorem dX7_setsText_1 : decode (mc mX7_setsText) 1 = .ok (.iconst 0, 1) := by decide +kernel
theorem dX7_setsText_2 : decode (mc mX7_setsText) 2 = .ok (.putfield 53, 3) := by decide +kernel
theorem dX7_setsText_5 : decode (mc mX7_setsText) 5 = .ok (.iconst 0, 1) := by decide +kernel
theorem dX7_setsText_6 : decode (mc mX7_setsText) 6 = .ok (.istore_n 1, 1) := by decide +kernel
theorem dX7_setsText_7 : decode (mc mX7_setsText) 7 = .ok (.iload_n 1, 1) := by decide +kernel
theorem dX7_setsText_8 : decode (mc mX7_setsText) 8 = .ok (.aload_n 0, 1) := by decide +kernel
theorem dX7_setsText_9 : decode (mc mX7_setsText) 9 = .ok (.getfield 59, 3) := by decide +kernel
theorem dX7_setsText_12 : decode (mc mX7_setsText) 12 = .ok (.if_icmp .ge 48, 3) := by decide +kernel
theorem dX7_setsText_15 : decode (mc mX7_setsText) 15 = .ok (.aload_n 0, 1) := by decide +kernel
theorem dX7_setsText_16 : decode (mc mX7_setsText) 16 = .ok (.getfield 34, 3) := by decide +kernel
theorem dX7_setsText_19 : decode (mc mX7_setsText) 19 = .ok (.iload_n 1, 1) := by decide +kernel
theorem dX7_setsText_20 : decode (mc mX7_setsText) 20 = .ok (.iaload, 1) := by decide +kernel
theorem dX7_setsText_21 : decode (mc mX7_setsText) 21 = .ok (.bipush 32, 2) := by decide +kernel
theorem dX7_setsText_23 : decode (mc mX7_setsText) 23 = .ok (.if_icmp .eq 31, 3) := by decide +kernel
theorem dX7_setsText_26 : decode (mc mX7_setsText) 26 = .ok (.aload_n 0, 1) := by decide +kernel
theorem dX7_setsText_27 : decode (mc mX7_setsText) 27 = .ok (.getfield 13, 3) := by decide +kernel
theorem dX7_setsText_30 : decode (mc mX7_setsText) 30 = .ok (.aload_n 0, 1) := by decide +kernel
theorem dX7_setsText_31 : decode (mc mX7_setsText) 31 = .ok (.getfield 53, 3) := by decide +kernel
theorem dX7_setsText_34 : decode (mc mX7_setsText) 34 = .ok (.aload_n 0, 1) := by decide +kernel
theorem dX7_setsText_35 : decode (mc mX7_setsText) 35 = .ok (.getfield 34, 3) := by decide +kernel
theorem dX7_setsText_38 : decode (mc mX7_setsText) 38 = .ok (.iload_n 1, 1) := by decide +kernel
theorem dX7_setsText_39 : decode (mc mX7_setsText) 39 = .ok (.iaload, 1) := by decide +kernel
theorem dX7_setsText_40 : decode (mc mX7_setsText) 40 = .ok (.bipush 97, 2) := by decide +kernel
theorem dX7_setsText_42 : decode (mc mX7_setsText) 42 = .ok (.isub, 1) := by decide +kernel
theorem dX7_setsText_43 : decode (mc mX7_setsText) 43 = .ok (.iastore, 1) := by decide +kernel
theorem dX7_setsText_44 : decode (mc mX7_setsText) 44 = .ok (.aload_n 0, 1) := by decide +kernel
theorem dX7_setsText_45 : decode (mc mX7_setsText) 45 = .ok (.dup, 1) := by decide +kernel
theorem dX7_setsText_46 : decode (mc mX7_setsText) 46 = .ok (.getfield 53, 3) := by decide +kernel
theorem dX7_setsText_49 : decode (mc mX7_setsText) 49 = .ok (.iconst 1, 1) := by decide +kernel
theorem dX7_setsText_50 : decode (mc mX7_setsText) 50 = .ok (.iadd, 1) := by decide +kernel
theorem dX7_setsText_51 : decode (mc mX7_setsText) 51 = .ok (.putfield 53, 3) := by decide +kernel
theorem dX7_setsText_54 : decode (mc mX7_setsText) 54 = .ok (.iinc 1 1, 3) := by decide +kernel
theorem dX7_setsText_57 : decode (mc mX7_setsText) 57 = .ok (.goto (-50), 3) := by decide +kernel
theorem dX7_setsText_60 : decode (mc mX7_setsText) 60 = .ok (.return_, 1) := by decide +kernel
theorem dX7_least_0 : decode (mc mX7_least) 0 = .ok (.iload_n 0, 1) := by decide +kernel
theorem dX7_least_1 : decode (mc mX7_least) 1 = .ok (.iload_n 1, 1) := by decide +kernel
theorem dX7_least_2 : decode (mc mX7_least) 2 = .ok (.if_icmp .ge 7, 3) := by decide +kernel
theorem dX7_least_5 : decode (mc mX7_least) 5 = .ok (.iload_n 0, 1) := by decide +kernel
theorem dX7_least_6 : decode (mc mX7_least) 6 = .ok (.goto 4, 3) := by decide +kernel
theorem dX7_least_9 : decode (mc mX7_least) 9 = .ok (.iload_n 1, 1) := by decide +kernel
theorem dX7_least_10 : decode (mc mX7_least) 10 = .ok (.ireturn, 1) := by decide +kernel
theorem dX7_scoreNow_0 : decode (mc mX7_scoreNow) 0 = .ok (.iconst 0, 1) := by decide +kernel
theorem dX7_scoreNow_1 : decode (mc mX7_scoreNow) 1 = .ok (.istore_n 1, 1) := by decide +kernel
theorem dX7_scoreNow_2 : decode (mc mX7_scoreNow) 2 = .ok (.iload_n 1, 1) := by decide +kernel
theorem dX7_scoreNow_3 : decode (mc mX7_scoreNow) 3 = .ok (.aload_n 0, 1) := by decide +kernel
theorem dX7_scoreNow_4 : decode (mc mX7_scoreNow) 4 = .ok (.getfield 53, 3) := by decide +kernel
theorem dX7_scoreNow_7 : decode (mc mX7_scoreNow) 7 = .ok (.if_icmp .gt 143, 3) := by decide +kernel
theorem dX7_scoreNow_10 : decode (mc mX7_scoreNow) 10 = .ok (.iconst 0, 1) := by decide +kernel
theorem dX7_scoreNow_11 : decode (mc mX7_scoreNow) 11 = .ok (.istore_n 2, 1) := by decide +kernel
theorem dX7_scoreNow_12 : decode (mc mX7_scoreNow) 12 = .ok (.iload_n 2, 1) := by decide +kernel
theorem dX7_scoreNow_13 : decode (mc mX7_scoreNow) 13 = .ok (.aload_n 0, 1) := by decide +kernel
theorem dX7_scoreNow_14 : decode (mc mX7_scoreNow) 14 = .ok (.getfield 56, 3) := by decide +kernel
theorem dX7_scoreNow_17 : decode (mc mX7_scoreNow) 17 = .ok (.if_icmp .gt 127, 3) := by decide +kernel
theorem dX7_scoreNow_20 : decode (mc mX7_scoreNow) 20 = .ok (.iload_n 1, 1) := by decide +kernel
theorem dX7_scoreNow_21 : decode (mc mX7_scoreNow) 21 = .ok (.ifCond .ne 7, 3) := by decide +kernel
theorem dX7_scoreNow_24 : decode (mc mX7_scoreNow) 24 = .ok (.iload_n 2, 1) := by decide +kernel
theorem dX7_scoreNow_25 : decode (mc mX7_scoreNow) 25 = .ok (.goto 13, 3) := by decide +kernel
theorem dX7_scoreNow_28 : decode (mc mX7_scoreNow) 28 = .ok (.iload_n 2, 1) := by decide +kernel
theorem dX7_scoreNow_29 : decode (mc mX7_scoreNow) 29 = .ok (.ifCond .ne 7, 3) := by decide +kernel
theorem dX7_scoreNow_32 : decode (mc mX7_scoreNow) 32 = .ok (.iload_n 1, 1) := by decide +kernel
theorem dX7_scoreNow_33 : decode (mc mX7_scoreNow) 33 = .ok (.goto 5, 3) := by decide +kernel
theorem dX7_scoreNow_36 : decode (mc mX7_scoreNow) 36 = .ok (.bipush 99, 2) := by decide +kernel
theorem dX7_scoreNow_38 : decode (mc mX7_scoreNow) 38 = .ok (.istore_n 3, 1) := by decide +kernel
theorem dX7_scoreNow_39 : decode (mc mX7_scoreNow) 39 = .ok (.iload_n 1, 1) := by decide +kernel
theorem dX7_scoreNow_40 : decode (mc mX7_scoreNow) 40 = .ok (.ifCond .le 86, 3) := by decide +kernel
theorem dX7_scoreNow_43 : decode (mc mX7_scoreNow) 43 = .ok (.iload_n 2, 1) := by decide +kernel
theorem dX7_scoreNow_44 : decode (mc mX7_scoreNow) 44 = .ok (.ifCond .le 82, 3) := by decide +kernel
theorem dX7_scoreNow_47 : decode (mc mX7_scoreNow) 47 = .ok (.aload_n 0, 1) := by decide +kernel
theorem dX7_scoreNow_48 : decode (mc mX7_scoreNow) 48 = .ok (.getfield 19, 3) := by decide +kernel
theorem dX7_scoreNow_51 : decode (mc mX7_scoreNow) 51 = .ok (.bipush 11, 2) := by decide +kernel
theorem dX7_scoreNow_53 : decode (mc mX7_scoreNow) 53 = .ok (.iload_n 1, 1) := by decide +kernel
theorem dX7_scoreNow_54 : decode (mc mX7_scoreNow) 54 = .ok (.iconst 1, 1) := by decide +kernel
theorem dX7_scoreNow_55 : decode (mc mX7_scoreNow) 55 = .ok (.isub, 1) := by decide +kernel
theorem dX7_scoreNow_56 : decode (mc mX7_scoreNow) 56 = .ok (.imul, 1) := by decide +kernel
theorem dX7_scoreNow_57 : decode (mc mX7_scoreNow) 57 = .ok (.iload_n 2, 1) := by decide +kernel
theorem dX7_scoreNow_58 : decode (mc mX7_scoreNow) 58 = .ok (.iadd, 1) := by decide +kernel
theorem dX7_scoreNow_59 : decode (mc mX7_scoreNow) 59 = .ok (.iconst 1, 1) := by decide +kernel
theorem dX7_scoreNow_60 : decode (mc mX7_scoreNow) 60 = .ok (.isub, 1) := by decide +kernel
theorem dX7_scoreNow_61 : decode (mc mX7_scoreNow) 61 = .ok (.iaload, 1) := by decide +kernel
theorem dX7_scoreNow_62 : decode (mc mX7_scoreNow) 62 = .ok (.aload_n 0, 1) := by decide +kernel
theorem dX7_scoreNow_63 : decode (mc mX7_scoreNow) 63 = .ok (.getfield 13, 3) := by decide +kernel
theorem dX7_scoreNow_66 : decode (mc mX7_scoreNow) 66 = .ok (.iload_n 1, 1) := by decide +kernel
theorem dX7_scoreNow_67 : decode (mc mX7_scoreNow) 67 = .ok (.iconst 1, 1) := by decide +kernel
theorem dX7_scoreNow_68 : decode (mc mX7_scoreNow) 68 = .ok (.isub, 1) := by decide +kernel
theorem dX7_scoreNow_69 : decode (mc mX7_scoreNow) 69 = .ok (.iaload, 1) := by decide +kernel
theorem dX7_scoreNow_70 : decode (mc mX7_scoreNow) 70 = .ok (.aload_n 0, 1) := by decide +kernel
theorem dX7_scoreNow_71 : decode (mc mX7_scoreNow) 71 = .ok (.getfield 16, 3) := by decide +kernel
theorem dX7_scoreNow_74 : decode (mc mX7_scoreNow) 74 = .ok (.iload_n 2, 1) := by decide +kernel
theorem dX7_scoreNow_75 : decode (mc mX7_scoreNow) 75 = .ok (.iconst 1, 1) := by decide +kernel
theorem dX7_scoreNow_76 : decode (mc mX7_scoreNow) 76 = .ok (.isub, 1) := by decide +kernel
theorem dX7_scoreNow_77 : decode (mc mX7_scoreNow) 77 = .ok (.iaload, 1) := by decide +kernel
theorem dX7_scoreNow_78 : decode (mc mX7_scoreNow) 78 = .ok (.if_icmp .ne 7, 3) := by decide +kernel
theorem dX7_scoreNow_81 : decode (mc mX7_scoreNow) 81 = .ok (.iconst 0, 1) := by decide +kernel
theorem dX7_scoreNow_82 : decode (mc mX7_scoreNow) 82 = .ok (.goto 4, 3) := by decide +kernel
theorem dX7_scoreNow_85 : decode (mc mX7_scoreNow) 85 = .ok (.iconst 1, 1) := by decide +kernel
theorem dX7_scoreNow_86 : decode (mc mX7_scoreNow) 86 = .ok (.iadd, 1) := by decide +kernel
theorem dX7_scoreNow_87 : decode (mc mX7_scoreNow) 87 = .ok (.istore 4, 2) := by decide +kernel
theorem dX7_scoreNow_89 : decode (mc mX7_scoreNow) 89 = .ok (.iload 4, 2) := by decide +kernel
theorem dX7_scoreNow_91 : decode (mc mX7_scoreNow) 91 = .ok (.iconst 1, 1) := by decide +kernel
theorem dX7_scoreNow_92 : decode (mc mX7_scoreNow) 92 = .ok (.aload_n 0, 1) := by decide +kernel
theorem dX7_scoreNow_93 : decode (mc mX7_scoreNow) 93 = .ok (.getfield 19, 3) := by decide +kernel
theorem dX7_scoreNow_96 : decode (mc mX7_scoreNow) 96 = .ok (.bipush 11, 2) := by decide +kernel
theorem dX7_scoreNow_98 : decode (mc mX7_scoreNow) 98 = .ok (.iload_n 1, 1) := by decide +kernel
theorem dX7_scoreNow_99 : decode (mc mX7_scoreNow) 99 = .ok (.iconst 1, 1) := by decide +kernel
theorem dX7_scoreNow_100 : decode (mc mX7_scoreNow) 100 = .ok (.isub, 1) := by decide +kernel
theorem dX7_scoreNow_101 : decode (mc mX7_scoreNow) 101 = .ok (.imul, 1) := by decide +kernel
theorem dX7_scoreNow_102 : decode (mc mX7_scoreNow) 102 = .ok (.iload_n 2, 1) := by decide +kernel
theorem dX7_scoreNow_103 : decode (mc mX7_scoreNow) 103 = .ok (.iadd, 1) := by decide +kernel
theorem dX7_scoreNow_104 : decode (mc mX7_scoreNow) 104 = .ok (.iaload, 1) := by decide +kernel
theorem dX7_scoreNow_105 : decode (mc mX7_scoreNow) 105 = .ok (.aload_n 0, 1) := by decide +kernel
theorem dX7_scoreNow_106 : decode (mc mX7_scoreNow) 106 = .ok (.getfield 19, 3) := by decide +kernel
theorem dX7_scoreNow_109 : decode (mc mX7_scoreNow) 109 = .ok (.bipush 11, 2) := by decide +kernel
theorem dX7_scoreNow_111 : decode (mc mX7_scoreNow) 111 = .ok (.iload_n 1, 1) := by decide +kernel
theorem dX7_scoreNow_112 : decode (mc mX7_scoreNow) 112 = .ok (.imul, 1) := by decide +kernel
theorem dX7_scoreNow_113 : decode (mc mX7_scoreNow) 113 = .ok (.iload_n 2, 1) := by decide +kernel
theorem dX7_scoreNow_114 : decode (mc mX7_scoreNow) 114 = .ok (.iadd, 1) := by decide +kernel
theorem dX7_scoreNow_115 : decode (mc mX7_scoreNow) 115 = .ok (.iconst 1, 1) := by decide +kernel
theorem dX7_scoreNow_116 : decode (mc mX7_scoreNow) 116 = .ok (.isub, 1) := by decide +kernel
theorem dX7_scoreNow_117 : decode (mc mX7_scoreNow) 117 = .ok (.iaload, 1) := by decide +kernel
theorem dX7_scoreNow_118 : decode (mc mX7_scoreNow) 118 = .ok (.invokestatic 62, 3) := by decide +kernel
theorem dX7_scoreNow_121 : decode (mc mX7_scoreNow) 121 = .ok (.iadd, 1) := by decide +kernel
theorem dX7_scoreNow_122 : decode (mc mX7_scoreNow) 122 = .ok (.invokestatic 62, 3) := by decide +kernel
theorem dX7_scoreNow_125 : decode (mc mX7_scoreNow) 125 = .ok (.istore_n 3, 1) := by decide +kernel
theorem dX7_scoreNow_126 : decode (mc mX7_scoreNow) 126 = .ok (.aload_n 0, 1) := by decide +kernel
theorem dX7_scoreNow_127 : decode (mc mX7_scoreNow) 127 = .ok (.getfield 19, 3) := by decide +kernel
theorem dX7_scoreNow_130 : decode (mc mX7_scoreNow) 130 = .ok (.bipush 11, 2) := by decide +kernel
theorem dX7_scoreNow_132 : decode (mc mX7_scoreNow) 132 = .ok (.iload_n 1, 1) := by decide +kernel
theorem dX7_scoreNow_133 : decode (mc mX7_scoreNow) 133 = .ok (.imul, 1) := by decide +kernel
theorem dX7_scoreNow_134 : decode (mc mX7_scoreNow) 134 = .ok (.iload_n 2, 1) := by decide +kernel
theorem dX7_scoreNow_135 : decode (mc mX7_scoreNow) 135 = .ok (.iadd, 1) := by decide +kernel
theorem dX7_scoreNow_136 : decode (mc mX7_scoreNow) 136 = .ok (.iload_n 3, 1) := by decide +kernel
theorem dX7_scoreNow_137 : decode (mc mX7_scoreNow) 137 = .ok (.iastore, 1) := by decide +kernel
theorem dX7_scoreNow_138 : decode (mc mX7_scoreNow) 138 = .ok (.iinc 2 1, 3) := by decide +kernel
theorem dX7_scoreNow_141 : decode (mc mX7_scoreNow) 141 = .ok (.goto (-129), 3) := by decide +kernel
theorem dX7_scoreNow_144 : decode (mc mX7_scoreNow) 144 = .ok (.iinc 1 1, 3) := by decide +kernel
theorem dX7_scoreNow_147 : decode (mc mX7_scoreNow) 147 = .ok (.goto (-145), 3) := by decide +kernel
theorem dX7_scoreNow_150 : decode (mc mX7_scoreNow) 150 = .ok (.aload_n 0, 1) := by decide +kernel
theorem dX7_scoreNow_151 : decode (mc mX7_scoreNow) 151 = .ok (.getfield 53, 3) := by decide +kernel
theorem dX7_scoreNow_154 : decode (mc mX7_scoreNow) 154 = .ok (.aload_n 0, 1) := by decide +kernel
theorem dX7_scoreNow_155 : decode (mc mX7_scoreNow) 155 = .ok (.getfield 56, 3) := by decide +kernel
theorem dX7_scoreNow_158 : decode (mc mX7_scoreNow) 158 = .ok (.if_icmp .le 10, 3) := by decide +kernel
theorem dX7_scoreNow_161 : decode (mc mX7_scoreNow) 161 = .ok (.aload_n 0, 1) := by decide +kernel
theorem dX7_scoreNow_162 : decode (mc mX7_scoreNow) 162 = .ok (.getfield 53, 3) := by decide +kernel
theorem dX7_scoreNow_165 : decode (mc mX7_scoreNow) 165 = .ok (.goto 7, 3) := by decide +kernel
theorem dX7_scoreNow_168 : decode (mc mX7_scoreNow) 168 = .ok (.aload_n 0, 1) := by decide +kernel
theorem dX7_scoreNow_169 : decode (mc mX7_scoreNow) 169 = .ok (.getfield 56, 3) := by decide +kernel
theorem dX7_scoreNow_172 : decode (mc mX7_scoreNow) 172 = .ok (.istore_n 1, 1) := by decide +kernel
theorem dX7_scoreNow_173 : decode (mc mX7_scoreNow) 173 = .ok (.bipush 100, 2) := by decide +kernel
theorem dX7_scoreNow_175 : decode (mc mX7_scoreNow) 175 = .ok (.iload_n 1, 1) := by decide +kernel
theorem dX7_scoreNow_176 : decode (mc mX7_scoreNow) 176 = .ok (.aload_n 0, 1) := by decide +kernel
theorem dX7_scoreNow_177 : decode (mc mX7_scoreNow) 177 = .ok (.getfield 19, 3) := by decide +kernel
theorem dX7_scoreNow_180 : decode (mc mX7_scoreNow) 180 = .ok (.bipush 11, 2) := by decide +kernel
theorem dX7_scoreNow_182 : decode (mc mX7_scoreNow) 182 = .ok (.aload_n 0, 1) := by decide +kernel
theorem dX7_scoreNow_183 : decode (mc mX7_scoreNow) 183 = .ok (.getfield 53, 3) := by decide +kernel
theorem dX7_scoreNow_186 : decode (mc mX7_scoreNow) 186 = .ok (.imul, 1) := by decide +kernel
theorem dX7_scoreNow_187 : decode (mc mX7_scoreNow) 187 = .ok (.aload_n 0, 1) := by decide +kernel
theorem dX7_scoreNow_188 : decode (mc mX7_scoreNow) 188 = .ok (.getfield 56, 3) := by decide +kernel
theorem dX7_scoreNow_191 : decode (mc mX7_scoreNow) 191 = .ok (.iadd, 1) := by decide +kernel
theorem dX7_scoreNow_192 : decode (mc mX7_scoreNow) 192 = .ok (.iaload, 1) := by decide +kernel
theorem dX7_scoreNow_193 : decode (mc mX7_scoreNow) 193 = .ok (.isub, 1) := by decide +kernel
theorem dX7_scoreNow_194 : decode (mc mX7_scoreNow) 194 = .ok (.imul, 1) := by decide +kernel
theorem dX7_scoreNow_195 : decode (mc mX7_scoreNow) 195 = .ok (.iload_n 1, 1) := by decide +kernel
theorem dX7_scoreNow_196 : decode (mc mX7_scoreNow) 196 = .ok (.idiv, 1) := by decide +kernel
theorem dX7_scoreNow_197 : decode (mc mX7_scoreNow) 197 = .ok (.ireturn, 1) := by decide +kernel
theorem dX7_scoreOf_0 : decode (mc mX7_scoreOf) 0 = .ok (.aload_n 0, 1) := by decide +kernel
theorem dX7_scoreOf_1 : decode (mc mX7_scoreOf) 1 = .ok (.iload_n 1, 1) := by decide +kernel
theorem dX7_scoreOf_2 : decode (mc mX7_scoreOf) 2 = .ok (.invokevirtual 65, 3) := by decide +kernel
theorem dX7_scoreOf_5 : decode (mc mX7_scoreOf) 5 = .ok (.aload_n 0, 1) := by decide +kernel
theorem dX7_scoreOf_6 : decode (mc mX7_scoreOf) 6 = .ok (.iload_n 2, 1) := by decide +kernel
theorem dX7_scoreOf_7 : decode (mc mX7_scoreOf) 7 = .ok (.invokevirtual 69, 3) := by decide +kernel
theorem dX7_scoreOf_10 : decode (mc mX7_scoreOf) 10 = .ok (.aload_n 0, 1) := by decide +kernel
theorem dX7_scoreOf_11 : decode (mc mX7_scoreOf) 11 = .ok (.invokevirtual 72, 3) := by decide +kernel
theorem dX7_scoreOf_14 : decode (mc mX7_scoreOf) 14 = .ok (.ireturn, 1) := by decide +kernel
theorem dX7_textScore_0 : decode (mc mX7_textScore) 0 = .ok (.aload_n 0, 1) := by decide +kernel
theorem dX7_textScore_1 : decode (mc mX7_textScore) 1 = .ok (.invokevirtual 76, 3) := by decide +kernel
theorem dX7_textScore_4 : decode (mc mX7_textScore) 4 = .ok (.aload_n 0, 1) := by decide +kernel
theorem dX7_textScore_5 : decode (mc mX7_textScore) 5 = .ok (.iload_n 1, 1) := by decide +kernel
theorem dX7_textScore_6 : decode (mc mX7_textScore) 6 = .ok (.invokevirtual 69, 3) := by decide +kernel
theorem dX7_textScore_9 : decode (mc mX7_textScore) 9 = .ok (.aload_n 0, 1) := by decide +kernel
theorem dX7_textScore_10 : decode (mc mX7_textScore) 10 = .ok (.invokevirtual 72, 3) := by decide +kernel
theorem dX7_textScore_13 : decode (mc mX7_textScore) 13 = .ok (.ireturn, 1) := by decide +kernel
theorem dX7_addMember_0 : decode (mc mX7_addMember) 0 = .ok (.aload_n 0, 1) := by decide +kernel
theorem dX7_addMember_1 : decode (mc mX7_addMember) 1 = .ok (.getfield 7, 3) := by decide +kernel
theorem dX7_addMember_4 : decode (mc mX7_addMember) 4 = .ok (.iconst 0, 1) := by decide +kernel
theorem dX7_addMember_5 : decode (mc mX7_addMember) 5 = .ok (.iaload, 1) := by decide +kernel
theorem dX7_addMember_6 : decode (mc mX7_addMember) 6 = .ok (.bipush 6, 2) := by decide +kernel
theorem dX7_addMember_8 : decode (mc mX7_addMember) 8 = .ok (.if_icmp .ne 6, 3) := by decide +kernel
theorem dX7_addMember_11 : decode (mc mX7_addMember) 11 = .ok (.ldc 79, 2) := by decide +kernel
theorem dX7_addMember_13 : decode (mc mX7_addMember) 13 = .ok (.ireturn, 1) := by decide +kernel
theorem dX7_addMember_14 : decode (mc mX7_addMember) 14 = .ok (.aload_n 0, 1) := by decide +kernel
theorem dX7_addMember_15 : decode (mc mX7_addMember) 15 = .ok (.invokevirtual 80, 3) := by decide +kernel
theorem dX7_addMember_18 : decode (mc mX7_addMember) 18 = .ok (.aload_n 0, 1) := by decide +kernel
theorem dX7_addMember_19 : decode (mc mX7_addMember) 19 = .ok (.getfield 7, 3) := by decide +kernel
theorem dX7_addMember_22 : decode (mc mX7_addMember) 22 = .ok (.bipush 10, 2) := by decide +kernel
theorem dX7_addMember_24 : decode (mc mX7_addMember) 24 = .ok (.iconst 2, 1) := by decide +kernel
theorem dX7_addMember_25 : decode (mc mX7_addMember) 25 = .ok (.aload_n 0, 1) := by decide +kernel
theorem dX7_addMember_26 : decode (mc mX7_addMember) 26 = .ok (.getfield 7, 3) := by decide +kernel
theorem dX7_addMember_29 : decode (mc mX7_addMember) 29 = .ok (.iconst 0, 1) := by decide +kernel
theorem dX7_addMember_30 : decode (mc mX7_addMember) 30 = .ok (.iaload, 1) := by decide +kernel
theorem dX7_addMember_31 : decode (mc mX7_addMember) 31 = .ok (.imul, 1) := by decide +kernel
theorem dX7_addMember_32 : decode (mc mX7_addMember) 32 = .ok (.iadd, 1) := by decide +kernel
theorem dX7_addMember_33 : decode (mc mX7_addMember) 33 = .ok (.bipush 40, 2) := by decide +kernel
theorem dX7_addMember_35 : decode (mc mX7_addMember) 35 = .ok (.iastore, 1) := by decide +kernel
theorem dX7_addMember_36 : decode (mc mX7_addMember) 36 = .ok (.aload_n 0, 1) := by decide +kernel
theorem dX7_addMember_37 : decode (mc mX7_addMember) 37 = .ok (.getfield 7, 3) := by decide +kernel
theorem dX7_addMember_40 : decode (mc mX7_addMember) 40 = .ok (.bipush 10, 2) := by decide +kernel
theorem dX7_addMember_42 : decode (mc mX7_addMember) 42 = .ok (.iconst 2, 1) := by decide +kernel
theorem dX7_addMember_43 : decode (mc mX7_addMember) 43 = .ok (.aload_n 0, 1) := by decide +kernel
theorem dX7_addMember_44 : decode (mc mX7_addMember) 44 = .ok (.getfield 7, 3) := by decide +kernel
theorem dX7_addMember_47 : decode (mc mX7_addMember) 47 = .ok (.iconst 0, 1) := by decide +kernel
theorem dX7_addMember_48 : decode (mc mX7_addMember) 48 = .ok (.iaload, 1) := by decide +kernel
theorem dX7_addMember_49 : decode (mc mX7_addMember) 49 = .ok (.imul, 1) := by decide +kernel
theorem dX7_addMember_50 : decode (mc mX7_addMember) 50 = .ok (.iadd, 1) := by decide +kernel
theorem dX7_addMember_51 : decode (mc mX7_addMember) 51 = .ok (.iconst 1, 1) := by decide +kernel
theorem dX7_addMember_52 : decode (mc mX7_addMember) 52 = .ok (.iadd, 1) := by decide +kernel
theorem dX7_addMember_53 : decode (mc mX7_addMember) 53 = .ok (.iconst 0, 1) := by decide +kernel
theorem dX7_addMember_54 : decode (mc mX7_addMember) 54 = .ok (.iastore, 1) := by decide +kernel
theorem dX7_addMember_55 : decode (mc mX7_addMember) 55 = .ok (.aload_n 0, 1) := by decide +kernel
theorem dX7_addMember_56 : decode (mc mX7_addMember) 56 = .ok (.getfield 7, 3) := by decide +kernel
theorem dX7_addMember_59 : decode (mc mX7_addMember) 59 = .ok (.iconst 0, 1) := by decide +kernel
theorem dX7_addMember_60 : decode (mc mX7_addMember) 60 = .ok (.dup2, 1) := by decide +kernel
theorem dX7_addMember_61 : decode (mc mX7_addMember) 61 = .ok (.iaload, 1) := by decide +kernel
theorem dX7_addMember_62 : decode (mc mX7_addMember) 62 = .ok (.iconst 1, 1) := by decide +kernel
theorem dX7_addMember_63 : decode (mc mX7_addMember) 63 = .ok (.iadd, 1) := by decide +kernel
theorem dX7_addMember_64 : decode (mc mX7_addMember) 64 = .ok (.iastore, 1) := by decide +kernel
theorem dX7_addMember_65 : decode (mc mX7_addMember) 65 = .ok (.aload_n 0, 1) := by decide +kernel
theorem dX7_addMember_66 : decode (mc mX7_addMember) 66 = .ok (.getfield 7, 3) := by decide +kernel
theorem dX7_addMember_69 : decode (mc mX7_addMember) 69 = .ok (.iconst 0, 1) := by decide +kernel
theorem dX7_addMember_70 : decode (mc mX7_addMember) 70 = .ok (.iaload, 1) := by decide +kernel
theorem dX7_addMember_71 : decode (mc mX7_addMember) 71 = .ok (.iconst 1, 1) := by decide +kernel
theorem dX7_addMember_72 : decode (mc mX7_addMember) 72 = .ok (.isub, 1) := by decide +kernel
theorem dX7_addMember_73 : decode (mc mX7_addMember) 73 = .ok (.ireturn, 1) := by decide +kernel
theorem dX7_setPrice_0 : decode (mc mX7_setPrice) 0 = .ok (.aload_n 0, 1) := by decide +kernel
theorem dX7_setPrice_1 : decode (mc mX7_setPrice) 1 = .ok (.iload_n 1, 1) := by decide +kernel
theorem dX7_setPrice_2 : decode (mc mX7_setPrice) 2 = .ok (.invokevirtual 83, 3) := by decide +kernel
theorem dX7_setPrice_5 : decode (mc mX7_setPrice) 5 = .ok (.ifCond .ne 6, 3) := by decide +kernel
theorem dX7_setPrice_8 : decode (mc mX7_setPrice) 8 = .ok (.ldc 87, 2) := by decide +kernel
theorem dX7_setPrice_10 : decode (mc mX7_setPrice) 10 = .ok (.ireturn, 1) := by decide +kernel
theorem dX7_setPrice_11 : decode (mc mX7_setPrice) 11 = .ok (.iload_n 2, 1) := by decide +kernel
theorem dX7_setPrice_12 : decode (mc mX7_setPrice) 12 = .ok (.iconst 0, 1) := by decide +kernel
theorem dX7_setPrice_13 : decode (mc mX7_setPrice) 13 = .ok (.sipush 200, 3) := by decide +kernel
theorem dX7_setPrice_16 : decode (mc mX7_setPrice) 16 = .ok (.invokestatic 45, 3) := by decide +kernel
theorem dX7_setPrice_19 : decode (mc mX7_setPrice) 19 = .ok (.ifCond .ne 6, 3) := by decide +kernel
theorem dX7_setPrice_22 : decode (mc mX7_setPrice) 22 = .ok (.ldc 88, 2) := by decide +kernel
theorem dX7_setPrice_24 : decode (mc mX7_setPrice) 24 = .ok (.ireturn, 1) := by decide +kernel
theorem dX7_setPrice_25 : decode (mc mX7_setPrice) 25 = .ok (.aload_n 0, 1) := by decide +kernel
theorem dX7_setPrice_26 : decode (mc mX7_setPrice) 26 = .ok (.invokevirtual 80, 3) := by decide +kernel
theorem dX7_setPrice_29 : decode (mc mX7_setPrice) 29 = .ok (.aload_n 0, 1) := by decide +kernel
theorem dX7_setPrice_30 : decode (mc mX7_setPrice) 30 = .ok (.iload_n 1, 1) := by decide +kernel
theorem dX7_setPrice_31 : decode (mc mX7_setPrice) 31 = .ok (.invokevirtual 89, 3) := by decide +kernel
theorem dX7_setPrice_34 : decode (mc mX7_setPrice) 34 = .ok (.istore_n 3, 1) := by decide +kernel
theorem dX7_setPrice_35 : decode (mc mX7_setPrice) 35 = .ok (.aload_n 0, 1) := by decide +kernel
theorem dX7_setPrice_36 : decode (mc mX7_setPrice) 36 = .ok (.getfield 7, 3) := by decide +kernel
theorem dX7_setPrice_39 : decode (mc mX7_setPrice) 39 = .ok (.bipush 10, 2) := by decide +kernel
theorem dX7_setPrice_41 : decode (mc mX7_setPrice) 41 = .ok (.iconst 2, 1) := by decide +kernel
theorem dX7_setPrice_42 : decode (mc mX7_setPrice) 42 = .ok (.iload_n 1, 1) := by decide +kernel
theorem dX7_setPrice_43 : decode (mc mX7_setPrice) 43 = .ok (.imul, 1) := by decide +kernel
theorem dX7_setPrice_44 : decode (mc mX7_setPrice) 44 = .ok (.iadd, 1) := by decide +kernel
theorem dX7_setPrice_45 : decode (mc mX7_setPrice) 45 = .ok (.iload_n 2, 1) := by decide +kernel
theorem dX7_setPrice_46 : decode (mc mX7_setPrice) 46 = .ok (.iastore, 1) := by decide +kernel
theorem dX7_setPrice_47 : decode (mc mX7_setPrice) 47 = .ok (.iload_n 3, 1) := by decide +kernel
theorem dX7_setPrice_48 : decode (mc mX7_setPrice) 48 = .ok (.ireturn, 1) := by decide +kernel
theorem dX7_set_0 : decode (mc mX7_set) 0 = .ok (.iload_n 1, 1) := by decide +kernel
theorem dX7_set_1 : decode (mc mX7_set) 1 = .ok (.iconst 0, 1) := by decide +kernel
theorem dX7_set_2 : decode (mc mX7_set) 2 = .ok (.iconst 4, 1) := by decide +kernel
theorem dX7_set_3 : decode (mc mX7_set) 3 = .ok (.invokestatic 45, 3) := by decide +kernel
theorem dX7_set_6 : decode (mc mX7_set) 6 = .ok (.ifCond .ne 6, 3) := by decide +kernel
theorem dX7_set_9 : decode (mc mX7_set) 9 = .ok (.ldc 87, 2) := by decide +kernel
theorem dX7_set_11 : decode (mc mX7_set) 11 = .ok (.ireturn, 1) := by decide +kernel
theorem dX7_set_12 : decode (mc mX7_set) 12 = .ok (.iload_n 1, 1) := by decide +kernel
theorem dX7_set_13 : decode (mc mX7_set) 13 = .ok (.iconst 1, 1) := by decide +kernel
theorem dX7_set_14 : decode (mc mX7_set) 14 = .ok (.if_icmp .ne 8, 3) := by decide +kernel
theorem dX7_set_17 : decode (mc mX7_set) 17 = .ok (.bipush 50, 2) := by decide +kernel
theorem dX7_set_19 : decode (mc mX7_set) 19 = .ok (.goto 15, 3) := by decide +kernel
theorem dX7_set_22 : decode (mc mX7_set) 22 = .ok (.iload_n 1, 1) := by decide +kernel
theorem dX7_set_23 : decode (mc mX7_set) 23 = .ok (.iconst 2, 1) := by decide +kernel
theorem dX7_set_24 : decode (mc mX7_set) 24 = .ok (.if_icmp .ne 8, 3) := by decide +kernel
theorem dX7_set_27 : decode (mc mX7_set) 27 = .ok (.bipush 80, 2) := by decide +kernel
theorem dX7_set_29 : decode (mc mX7_set) 29 = .ok (.goto 5, 3) := by decide +kernel
theorem dX7_set_32 : decode (mc mX7_set) 32 = .ok (.bipush 100, 2) := by decide +kernel
theorem dX7_set_34 : decode (mc mX7_set) 34 = .ok (.istore_n 3, 1) := by decide +kernel
theorem dX7_set_35 : decode (mc mX7_set) 35 = .ok (.iload_n 2, 1) := by decide +kernel
theorem dX7_set_36 : decode (mc mX7_set) 36 = .ok (.iload_n 1, 1) := by decide +kernel
theorem dX7_set_37 : decode (mc mX7_set) 37 = .ok (.ifCond .eq 8, 3) := by decide +kernel
theorem dX7_set_40 : decode (mc mX7_set) 40 = .ok (.iload_n 1, 1) := by decide +kernel
theorem dX7_set_41 : decode (mc mX7_set) 41 = .ok (.iconst 4, 1) := by decide +kernel
theorem dX7_set_42 : decode (mc mX7_set) 42 = .ok (.if_icmp .ne 7, 3) := by decide +kernel
theorem dX7_set_45 : decode (mc mX7_set) 45 = .ok (.iconst 1, 1) := by decide +kernel
theorem dX7_set_46 : decode (mc mX7_set) 46 = .ok (.goto 4, 3) := by decide +kernel
theorem dX7_set_49 : decode (mc mX7_set) 49 = .ok (.iconst 0, 1) := by decide +kernel
theorem dX7_set_50 : decode (mc mX7_set) 50 = .ok (.iload_n 3, 1) := by decide +kernel
theorem dX7_set_51 : decode (mc mX7_set) 51 = .ok (.invokestatic 45, 3) := by decide +kernel
theorem dX7_set_54 : decode (mc mX7_set) 54 = .ok (.ifCond .ne 6, 3) := by decide +kernel
theorem dX7_set_57 : decode (mc mX7_set) 57 = .ok (.ldc 88, 2) := by decide +kernel
theorem dX7_set_59 : decode (mc mX7_set) 59 = .ok (.ireturn, 1) := by decide +kernel
theorem dX7_set_60 : decode (mc mX7_set) 60 = .ok (.aload_n 0, 1) := by decide +kernel
theorem dX7_set_61 : decode (mc mX7_set) 61 = .ok (.invokevirtual 80, 3) := by decide +kernel
theorem dX7_set_64 : decode (mc mX7_set) 64 = .ok (.aload_n 0, 1) := by decide +kernel
theorem dX7_set_65 : decode (mc mX7_set) 65 = .ok (.getfield 7, 3) := by decide +kernel
theorem dX7_set_68 : decode (mc mX7_set) 68 = .ok (.iconst 5, 1) := by decide +kernel
theorem dX7_set_69 : decode (mc mX7_set) 69 = .ok (.iload_n 1, 1) := by decide +kernel
theorem dX7_set_70 : decode (mc mX7_set) 70 = .ok (.iadd, 1) := by decide +kernel
theorem dX7_set_71 : decode (mc mX7_set) 71 = .ok (.iaload, 1) := by decide +kernel
theorem dX7_set_72 : decode (mc mX7_set) 72 = .ok (.istore 4, 2) := by decide +kernel
theorem dX7_set_74 : decode (mc mX7_set) 74 = .ok (.aload_n 0, 1) := by decide +kernel
theorem dX7_set_75 : decode (mc mX7_set) 75 = .ok (.getfield 7, 3) := by decide +kernel
theorem dX7_set_78 : decode (mc mX7_set) 78 = .ok (.iconst 5, 1) := by decide +kernel
theorem dX7_set_79 : decode (mc mX7_set) 79 = .ok (.iload_n 1, 1) := by decide +kernel
theorem dX7_set_80 : decode (mc mX7_set) 80 = .ok (.iadd, 1) := by decide +kernel
theorem dX7_set_81 : decode (mc mX7_set) 81 = .ok (.iload_n 2, 1) := by decide +kernel
theorem dX7_set_82 : decode (mc mX7_set) 82 = .ok (.iastore, 1) := by decide +kernel
theorem dX7_set_83 : decode (mc mX7_set) 83 = .ok (.iload 4, 2) := by decide +kernel
theorem dX7_set_85 : decode (mc mX7_set) 85 = .ok (.ireturn, 1) := by decide +kernel
theorem dX7_areInConflict_0 : decode (mc mX7_areInConflict) 0 = .ok (.iload_n 1, 1) := by decide +kernel
theorem dX7_areInConflict_1 : decode (mc mX7_areInConflict) 1 = .ok (.iload_n 2, 1) := by decide +kernel
theorem dX7_areInConflict_2 : decode (mc mX7_areInConflict) 2 = .ok (.if_icmp .eq 53, 3) := by decide +kernel
theorem dX7_areInConflict_5 : decode (mc mX7_areInConflict) 5 = .ok (.aload_n 0, 1) := by decide +kernel
theorem dX7_areInConflict_6 : decode (mc mX7_areInConflict) 6 = .ok (.iload_n 1, 1) := by decide +kernel
theorem dX7_areInConflict_7 : decode (mc mX7_areInConflict) 7 = .ok (.iconst 4, 1) := by decide +kernel
theorem dX7_areInConflict_8 : decode (mc mX7_areInConflict) 8 = .ok (.invokevirtual 49, 3) := by decide +kernel
theorem dX7_areInConflict_11 : decode (mc mX7_areInConflict) 11 = .ok (.iconst 1, 1) := by decide +kernel
theorem dX7_areInConflict_12 : decode (mc mX7_areInConflict) 12 = .ok (.if_icmp .ne 43, 3) := by decide +kernel
theorem dX7_areInConflict_15 : decode (mc mX7_areInConflict) 15 = .ok (.aload_n 0, 1) := by decide +kernel
theorem dX7_areInConflict_16 : decode (mc mX7_areInConflict) 16 = .ok (.iload_n 2, 1) := by decide +kernel
theorem dX7_areInConflict_17 : decode (mc mX7_areInConflict) 17 = .ok (.iconst 4, 1) := by decide +kernel
theorem dX7_areInConflict_18 : decode (mc mX7_areInConflict) 18 = .ok (.invokevirtual 49, 3) := by decide +kernel
theorem dX7_areInConflict_21 : decode (mc mX7_areInConflict) 21 = .ok (.iconst 1, 1) := by decide +kernel
theorem dX7_areInConflict_22 : decode (mc mX7_areInConflict) 22 = .ok (.if_icmp .ne 33, 3) := by decide +kernel
theorem dX7_areInConflict_25 : decode (mc mX7_areInConflict) 25 = .ok (.aload_n 0, 1) := by decide +kernel
theorem dX7_areInConflict_26 : decode (mc mX7_areInConflict) 26 = .ok (.iload_n 1, 1) := by decide +kernel
theorem dX7_areInConflict_27 : decode (mc mX7_areInConflict) 27 = .ok (.iconst 2, 1) := by decide +kernel
theorem dX7_areInConflict_28 : decode (mc mX7_areInConflict) 28 = .ok (.invokevirtual 49, 3) := by decide +kernel
theorem dX7_areInConflict_31 : decode (mc mX7_areInConflict) 31 = .ok (.aload_n 0, 1) := by decide +kernel
theorem dX7_areInConflict_32 : decode (mc mX7_areInConflict) 32 = .ok (.iload_n 2, 1) := by decide +kernel
theorem dX7_areInConflict_33 : decode (mc mX7_areInConflict) 33 = .ok (.iconst 2, 1) := by decide +kernel
theorem dX7_areInConflict_34 : decode (mc mX7_areInConflict) 34 = .ok (.invokevirtual 49, 3) := by decide +kernel
theorem dX7_areInConflict_37 : decode (mc mX7_areInConflict) 37 = .ok (.if_icmp .eq 18, 3) := by decide +kernel
theorem dX7_areInConflict_40 : decode (mc mX7_areInConflict) 40 = .ok (.aload_n 0, 1) := by decide +kernel
theorem dX7_areInConflict_41 : decode (mc mX7_areInConflict) 41 = .ok (.iload_n 1, 1) := by decide +kernel
theorem dX7_areInConflict_42 : decode (mc mX7_areInConflict) 42 = .ok (.iload_n 2, 1) := by decide +kernel
theorem dX7_areInConflict_43 : decode (mc mX7_areInConflict) 43 = .ok (.invokevirtual 93, 3) := by decide +kernel
theorem dX7_areInConflict_46 : decode (mc mX7_areInConflict) 46 = .ok (.bipush 100, 2) := by decide +kernel
theorem dX7_areInConflict_48 : decode (mc mX7_areInConflict) 48 = .ok (.if_icmp .ne 7, 3) := by decide +kernel
theorem dX7_areInConflict_51 : decode (mc mX7_areInConflict) 51 = .ok (.iconst 1, 1) := by decide +kernel
theorem dX7_areInConflict_52 : decode (mc mX7_areInConflict) 52 = .ok (.goto 4, 3) := by decide +kernel
theorem dX7_areInConflict_55 : decode (mc mX7_areInConflict) 55 = .ok (.iconst 0, 1) := by decide +kernel
theorem dX7_areInConflict_56 : decode (mc mX7_areInConflict) 56 = .ok (.ireturn, 1) := by decide +kernel
theorem dX7_conflicts_0 : decode (mc mX7_conflicts) 0 = .ok (.iconst 0, 1) := by decide +kernel
theorem dX7_conflicts_1 : decode (mc mX7_conflicts) 1 = .ok (.istore_n 2, 1) := by decide +kernel
theorem dX7_conflicts_2 : decode (mc mX7_conflicts) 2 = .ok (.iconst 0, 1) := by decide +kernel
theorem dX7_conflicts_3 : decode (mc mX7_conflicts) 3 = .ok (.istore_n 3, 1) := by decide +kernel
theorem dX7_conflicts_4 : decode (mc mX7_conflicts) 4 = .ok (.iload_n 3, 1) := by decide +kernel
theorem dX7_conflicts_5 : decode (mc mX7_conflicts) 5 = .ok (.aload_n 0, 1) := by decide +kernel
theorem dX7_conflicts_6 : decode (mc mX7_conflicts) 6 = .ok (.getfield 7, 3) := by decide +kernel
theorem dX7_conflicts_9 : decode (mc mX7_conflicts) 9 = .ok (.iconst 1, 1) := by decide +kernel
theorem dX7_conflicts_10 : decode (mc mX7_conflicts) 10 = .ok (.iaload, 1) := by decide +kernel
theorem dX7_conflicts_11 : decode (mc mX7_conflicts) 11 = .ok (.if_icmp .ge 26, 3) := by decide +kernel
theorem dX7_conflicts_14 : decode (mc mX7_conflicts) 14 = .ok (.iload_n 2, 1) := by decide +kernel
theorem dX7_conflicts_15 : decode (mc mX7_conflicts) 15 = .ok (.aload_n 0, 1) := by decide +kernel
theorem dX7_conflicts_16 : decode (mc mX7_conflicts) 16 = .ok (.iload_n 1, 1) := by decide +kernel
theorem dX7_conflicts_17 : decode (mc mX7_conflicts) 17 = .ok (.iload_n 3, 1) := by decide +kernel
theorem dX7_conflicts_18 : decode (mc mX7_conflicts) 18 = .ok (.invokevirtual 96, 3) := by decide +kernel
theorem dX7_conflicts_21 : decode (mc mX7_conflicts) 21 = .ok (.ifCond .eq 7, 3) := by decide +kernel
theorem dX7_conflicts_24 : decode (mc mX7_conflicts) 24 = .ok (.iconst 1, 1) := by decide +kernel
theorem dX7_conflicts_25 : decode (mc mX7_conflicts) 25 = .ok (.goto 4, 3) := by decide +kernel
theorem dX7_conflicts_28 : decode (mc mX7_conflicts) 28 = .ok (.iconst 0, 1) := by decide +kernel
theorem dX7_conflicts_29 : decode (mc mX7_conflicts) 29 = .ok (.iadd, 1) := by decide +kernel
theorem dX7_conflicts_30 : decode (mc mX7_conflicts) 30 = .ok (.istore_n 2, 1) := by decide +kernel
theorem dX7_conflicts_31 : decode (mc mX7_conflicts) 31 = .ok (.iinc 3 1, 3) := by decide +kernel
theorem dX7_conflicts_34 : decode (mc mX7_conflicts) 34 = .ok (.goto (-30), 3) := by decide +kernel
theorem dX7_conflicts_37 : decode (mc mX7_conflicts) 37 = .ok (.iload_n 2, 1) := by decide +kernel
theorem dX7_conflicts_38 : decode (mc mX7_conflicts) 38 = .ok (.ireturn, 1) := by decide +kernel
theorem dX7_live_0 : decode (mc mX7_live) 0 = .ok (.iconst 0, 1) := by decide +kernel
theorem dX7_live_1 : decode (mc mX7_live) 1 = .ok (.istore_n 1, 1) := by decide +kernel
theorem dX7_live_2 : decode (mc mX7_live) 2 = .ok (.iconst 0, 1) := by decide +kernel
theorem dX7_live_3 : decode (mc mX7_live) 3 = .ok (.istore_n 2, 1) := by decide +kernel
theorem dX7_live_4 : decode (mc mX7_live) 4 = .ok (.iload_n 2, 1) := by decide +kernel
theorem dX7_live_5 : decode (mc mX7_live) 5 = .ok (.aload_n 0, 1) := by decide +kernel
theorem dX7_live_6 : decode (mc mX7_live) 6 = .ok (.getfield 7, 3) := by decide +kernel
theorem dX7_live_9 : decode (mc mX7_live) 9 = .ok (.iconst 1, 1) := by decide +kernel
theorem dX7_live_10 : decode (mc mX7_live) 10 = .ok (.iaload, 1) := by decide +kernel
theorem dX7_live_11 : decode (mc mX7_live) 11 = .ok (.if_icmp .ge 18, 3) := by decide +kernel
theorem dX7_live_14 : decode (mc mX7_live) 14 = .ok (.iload_n 1, 1) := by decide +kernel
theorem dX7_live_15 : decode (mc mX7_live) 15 = .ok (.aload_n 0, 1) := by decide +kernel
theorem dX7_live_16 : decode (mc mX7_live) 16 = .ok (.iload_n 2, 1) := by decide +kernel
theorem dX7_live_17 : decode (mc mX7_live) 17 = .ok (.iconst 4, 1) := by decide +kernel
theorem dX7_live_18 : decode (mc mX7_live) 18 = .ok (.invokevirtual 49, 3) := by decide +kernel
theorem dX7_live_21 : decode (mc mX7_live) 21 = .ok (.iadd, 1) := by decide +kernel
theorem dX7_live_22 : decode (mc mX7_live) 22 = .ok (.istore_n 1, 1) := by decide +kernel
theorem dX7_live_23 : decode (mc mX7_live) 23 = .ok (.iinc 2 1, 3) := by decide +kernel
theorem dX7_live_26 : decode (mc mX7_live) 26 = .ok (.goto (-22), 3) := by decide +kernel
theorem dX7_live_29 : decode (mc mX7_live) 29 = .ok (.iload_n 1, 1) := by decide +kernel
theorem dX7_live_30 : decode (mc mX7_live) 30 = .ok (.ireturn, 1) := by decide +kernel
theorem dX7_paidBack_0 : decode (mc mX7_paidBack) 0 = .ok (.iconst 0, 1) := by decide +kernel
theorem dX7_paidBack_1 : decode (mc mX7_paidBack) 1 = .ok (.istore_n 1, 1) := by decide +kernel
theorem dX7_paidBack_2 : decode (mc mX7_paidBack) 2 = .ok (.iconst 0, 1) := by decide +kernel
theorem dX7_paidBack_3 : decode (mc mX7_paidBack) 3 = .ok (.istore_n 2, 1) := by decide +kernel
theorem dX7_paidBack_4 : decode (mc mX7_paidBack) 4 = .ok (.iload_n 2, 1) := by decide +kernel
theorem dX7_paidBack_5 : decode (mc mX7_paidBack) 5 = .ok (.aload_n 0, 1) := by decide +kernel
theorem dX7_paidBack_6 : decode (mc mX7_paidBack) 6 = .ok (.getfield 7, 3) := by decide +kernel
theorem dX7_paidBack_9 : decode (mc mX7_paidBack) 9 = .ok (.iconst 2, 1) := by decide +kernel
theorem dX7_paidBack_10 : decode (mc mX7_paidBack) 10 = .ok (.iaload, 1) := by decide +kernel
theorem dX7_paidBack_11 : decode (mc mX7_paidBack) 11 = .ok (.if_icmp .ge 18, 3) := by decide +kernel
theorem dX7_paidBack_14 : decode (mc mX7_paidBack) 14 = .ok (.iload_n 1, 1) := by decide +kernel
theorem dX7_paidBack_15 : decode (mc mX7_paidBack) 15 = .ok (.aload_n 0, 1) := by decide +kernel
theorem dX7_paidBack_16 : decode (mc mX7_paidBack) 16 = .ok (.iload_n 2, 1) := by decide +kernel
theorem dX7_paidBack_17 : decode (mc mX7_paidBack) 17 = .ok (.iconst 5, 1) := by decide +kernel
theorem dX7_paidBack_18 : decode (mc mX7_paidBack) 18 = .ok (.invokevirtual 100, 3) := by decide +kernel
theorem dX7_paidBack_21 : decode (mc mX7_paidBack) 21 = .ok (.iadd, 1) := by decide +kernel
theorem dX7_paidBack_22 : decode (mc mX7_paidBack) 22 = .ok (.istore_n 1, 1) := by decide +kernel
theorem dX7_paidBack_23 : decode (mc mX7_paidBack) 23 = .ok (.iinc 2 1, 3) := by decide +kernel
theorem dX7_paidBack_26 : decode (mc mX7_paidBack) 26 = .ok (.goto (-22), 3) := by decide +kernel
theorem dX7_paidBack_29 : decode (mc mX7_paidBack) 29 = .ok (.iload_n 1, 1) := by decide +kernel
theorem dX7_paidBack_30 : decode (mc mX7_paidBack) 30 = .ok (.ireturn, 1) := by decide +kernel
theorem dX7_allConflicts_0 : decode (mc mX7_allConflicts) 0 = .ok (.iconst 0, 1) := by decide +kernel
theorem dX7_allConflicts_1 : decode (mc mX7_allConflicts) 1 = .ok (.istore_n 1, 1) := by decide +kernel
theorem dX7_allConflicts_2 : decode (mc mX7_allConflicts) 2 = .ok (.iconst 0, 1) := by decide +kernel
theorem dX7_allConflicts_3 : decode (mc mX7_allConflicts) 3 = .ok (.istore_n 2, 1) := by decide +kernel
theorem dX7_allConflicts_4 : decode (mc mX7_allConflicts) 4 = .ok (.iload_n 2, 1) := by decide +kernel
theorem dX7_allConflicts_5 : decode (mc mX7_allConflicts) 5 = .ok (.aload_n 0, 1) := by decide +kernel
theorem dX7_allConflicts_6 : decode (mc mX7_allConflicts) 6 = .ok (.getfield 7, 3) := by decide +kernel
theorem dX7_allConflicts_9 : decode (mc mX7_allConflicts) 9 = .ok (.iconst 1, 1) := by decide +kernel
theorem dX7_allConflicts_10 : decode (mc mX7_allConflicts) 10 = .ok (.iaload, 1) := by decide +kernel
theorem dX7_allConflicts_11 : decode (mc mX7_allConflicts) 11 = .ok (.if_icmp .ge 17, 3) := by decide +kernel
theorem dX7_allConflicts_14 : decode (mc mX7_allConflicts) 14 = .ok (.iload_n 1, 1) := by decide +kernel
theorem dX7_allConflicts_15 : decode (mc mX7_allConflicts) 15 = .ok (.aload_n 0, 1) := by decide +kernel
theorem dX7_allConflicts_16 : decode (mc mX7_allConflicts) 16 = .ok (.iload_n 2, 1) := by decide +kernel
theorem dX7_allConflicts_17 : decode (mc mX7_allConflicts) 17 = .ok (.invokevirtual 103, 3) := by decide +kernel
theorem dX7_allConflicts_20 : decode (mc mX7_allConflicts) 20 = .ok (.iadd, 1) := by decide +kernel
theorem dX7_allConflicts_21 : decode (mc mX7_allConflicts) 21 = .ok (.istore_n 1, 1) := by decide +kernel
theorem dX7_allConflicts_22 : decode (mc mX7_allConflicts) 22 = .ok (.iinc 2 1, 3) := by decide +kernel
theorem dX7_allConflicts_25 : decode (mc mX7_allConflicts) 25 = .ok (.goto (-21), 3) := by decide +kernel
theorem dX7_allConflicts_28 : decode (mc mX7_allConflicts) 28 = .ok (.iload_n 1, 1) := by decide +kernel
theorem dX7_allConflicts_29 : decode (mc mX7_allConflicts) 29 = .ok (.iconst 2, 1) := by decide +kernel
theorem dX7_allConflicts_30 : decode (mc mX7_allConflicts) 30 = .ok (.idiv, 1) := by decide +kernel
theorem dX7_allConflicts_31 : decode (mc mX7_allConflicts) 31 = .ok (.ireturn, 1) := by decide +kernel
theorem dX7_counted_0 : decode (mc mX7_counted) 0 = .ok (.iload_n 1, 1) := by decide +kernel
theorem dX7_counted_1 : decode (mc mX7_counted) 1 = .ok (.iconst 2, 1) := by decide +kernel
theorem dX7_counted_2 : decode (mc mX7_counted) 2 = .ok (.if_icmp .ge 12, 3) := by decide +kernel
theorem dX7_counted_5 : decode (mc mX7_counted) 5 = .ok (.aload_n 0, 1) := by decide +kernel
theorem dX7_counted_6 : decode (mc mX7_counted) 6 = .ok (.getfield 7, 3) := by decide +kernel
theorem dX7_counted_9 : decode (mc mX7_counted) 9 = .ok (.iload_n 1, 1) := by decide +kernel
theorem dX7_counted_10 : decode (mc mX7_counted) 10 = .ok (.iaload, 1) := by decide +kernel
theorem dX7_counted_11 : decode (mc mX7_counted) 11 = .ok (.goto 107, 3) := by decide +kernel
theorem dX7_counted_14 : decode (mc mX7_counted) 14 = .ok (.iload_n 1, 1) := by decide +kernel
theorem dX7_counted_15 : decode (mc mX7_counted) 15 = .ok (.iconst 2, 1) := by decide +kernel
theorem dX7_counted_16 : decode (mc mX7_counted) 16 = .ok (.if_icmp .ne 10, 3) := by decide +kernel
theorem dX7_counted_19 : decode (mc mX7_counted) 19 = .ok (.aload_n 0, 1) := by decide +kernel
theorem dX7_counted_20 : decode (mc mX7_counted) 20 = .ok (.invokevirtual 106, 3) := by decide +kernel
theorem dX7_counted_23 : decode (mc mX7_counted) 23 = .ok (.goto 95, 3) := by decide +kernel
theorem dX7_counted_26 : decode (mc mX7_counted) 26 = .ok (.iload_n 1, 1) := by decide +kernel
theorem dX7_counted_27 : decode (mc mX7_counted) 27 = .ok (.iconst 3, 1) := by decide +kernel
theorem dX7_counted_28 : decode (mc mX7_counted) 28 = .ok (.if_icmp .ne 12, 3) := by decide +kernel
theorem dX7_counted_31 : decode (mc mX7_counted) 31 = .ok (.aload_n 0, 1) := by decide +kernel
theorem dX7_counted_32 : decode (mc mX7_counted) 32 = .ok (.getfield 7, 3) := by decide +kernel
theorem dX7_counted_35 : decode (mc mX7_counted) 35 = .ok (.iconst 2, 1) := by decide +kernel
theorem dX7_counted_36 : decode (mc mX7_counted) 36 = .ok (.iaload, 1) := by decide +kernel
theorem dX7_counted_37 : decode (mc mX7_counted) 37 = .ok (.goto 81, 3) := by decide +kernel
theorem dX7_counted_40 : decode (mc mX7_counted) 40 = .ok (.iload_n 1, 1) := by decide +kernel
theorem dX7_counted_41 : decode (mc mX7_counted) 41 = .ok (.iconst 4, 1) := by decide +kernel
theorem dX7_counted_42 : decode (mc mX7_counted) 42 = .ok (.if_icmp .ne 10, 3) := by decide +kernel
theorem dX7_counted_45 : decode (mc mX7_counted) 45 = .ok (.aload_n 0, 1) := by decide +kernel
theorem dX7_counted_46 : decode (mc mX7_counted) 46 = .ok (.invokevirtual 109, 3) := by decide +kernel
theorem dX7_counted_49 : decode (mc mX7_counted) 49 = .ok (.goto 69, 3) := by decide +kernel
theorem dX7_counted_52 : decode (mc mX7_counted) 52 = .ok (.iload_n 1, 1) := by decide +kernel
theorem dX7_counted_53 : decode (mc mX7_counted) 53 = .ok (.iconst 5, 1) := by decide +kernel
theorem dX7_counted_54 : decode (mc mX7_counted) 54 = .ok (.if_icmp .ne 12, 3) := by decide +kernel
theorem dX7_counted_57 : decode (mc mX7_counted) 57 = .ok (.aload_n 0, 1) := by decide +kernel
theorem dX7_counted_58 : decode (mc mX7_counted) 58 = .ok (.getfield 7, 3) := by decide +kernel
theorem dX7_counted_61 : decode (mc mX7_counted) 61 = .ok (.iconst 3, 1) := by decide +kernel
theorem dX7_counted_62 : decode (mc mX7_counted) 62 = .ok (.iaload, 1) := by decide +kernel
theorem dX7_counted_63 : decode (mc mX7_counted) 63 = .ok (.goto 55, 3) := by decide +kernel
theorem dX7_counted_66 : decode (mc mX7_counted) 66 = .ok (.iload_n 1, 1) := by decide +kernel
theorem dX7_counted_67 : decode (mc mX7_counted) 67 = .ok (.bipush 6, 2) := by decide +kernel
theorem dX7_counted_69 : decode (mc mX7_counted) 69 = .ok (.if_icmp .ne 12, 3) := by decide +kernel
theorem dX7_counted_72 : decode (mc mX7_counted) 72 = .ok (.aload_n 0, 1) := by decide +kernel
theorem dX7_counted_73 : decode (mc mX7_counted) 73 = .ok (.getfield 7, 3) := by decide +kernel
theorem dX7_counted_76 : decode (mc mX7_counted) 76 = .ok (.iconst 4, 1) := by decide +kernel
theorem dX7_counted_77 : decode (mc mX7_counted) 77 = .ok (.iaload, 1) := by decide +kernel
theorem dX7_counted_78 : decode (mc mX7_counted) 78 = .ok (.goto 40, 3) := by decide +kernel
theorem dX7_counted_81 : decode (mc mX7_counted) 81 = .ok (.iload_n 1, 1) := by decide +kernel
theorem dX7_counted_82 : decode (mc mX7_counted) 82 = .ok (.bipush 7, 2) := by decide +kernel
theorem dX7_counted_84 : decode (mc mX7_counted) 84 = .ok (.if_icmp .ne 10, 3) := by decide +kernel
theorem dX7_counted_87 : decode (mc mX7_counted) 87 = .ok (.aload_n 0, 1) := by decide +kernel
theorem dX7_counted_88 : decode (mc mX7_counted) 88 = .ok (.invokevirtual 112, 3) := by decide +kernel
theorem dX7_counted_91 : decode (mc mX7_counted) 91 = .ok (.goto 27, 3) := by decide +kernel
theorem dX7_counted_94 : decode (mc mX7_counted) 94 = .ok (.iload_n 1, 1) := by decide +kernel
theorem dX7_counted_95 : decode (mc mX7_counted) 95 = .ok (.bipush 13, 2) := by decide +kernel
theorem dX7_counted_97 : decode (mc mX7_counted) 97 = .ok (.if_icmp .ne 10, 3) := by decide +kernel
theorem dX7_counted_100 : decode (mc mX7_counted) 100 = .ok (.aload_n 0, 1) := by decide +kernel
theorem dX7_counted_101 : decode (mc mX7_counted) 101 = .ok (.getfield 59, 3) := by decide +kernel
theorem dX7_counted_104 : decode (mc mX7_counted) 104 = .ok (.goto 14, 3) := by decide +kernel
theorem dX7_counted_107 : decode (mc mX7_counted) 107 = .ok (.aload_n 0, 1) := by decide +kernel
theorem dX7_counted_108 : decode (mc mX7_counted) 108 = .ok (.getfield 7, 3) := by decide +kernel
theorem dX7_counted_111 : decode (mc mX7_counted) 111 = .ok (.iconst 5, 1) := by decide +kernel
theorem dX7_counted_112 : decode (mc mX7_counted) 112 = .ok (.iload_n 1, 1) := by decide +kernel
theorem dX7_counted_113 : decode (mc mX7_counted) 113 = .ok (.iadd, 1) := by decide +kernel
theorem dX7_counted_114 : decode (mc mX7_counted) 114 = .ok (.bipush 8, 2) := by decide +kernel
theorem dX7_counted_116 : decode (mc mX7_counted) 116 = .ok (.isub, 1) := by decide +kernel
theorem dX7_counted_117 : decode (mc mX7_counted) 117 = .ok (.iaload, 1) := by decide +kernel
theorem dX7_counted_118 : decode (mc mX7_counted) 118 = .ok (.ireturn, 1) := by decide +kernel
theorem dX7_count_0 : decode (mc mX7_count) 0 = .ok (.iload_n 1, 1) := by decide +kernel
theorem dX7_count_1 : decode (mc mX7_count) 1 = .ok (.iconst 0, 1) := by decide +kernel
theorem dX7_count_2 : decode (mc mX7_count) 2 = .ok (.bipush 13, 2) := by decide +kernel
theorem dX7_count_4 : decode (mc mX7_count) 4 = .ok (.invokestatic 45, 3) := by decide +kernel
theorem dX7_count_7 : decode (mc mX7_count) 7 = .ok (.ifCond .eq 11, 3) := by decide +kernel
theorem dX7_count_10 : decode (mc mX7_count) 10 = .ok (.aload_n 0, 1) := by decide +kernel
theorem dX7_count_11 : decode (mc mX7_count) 11 = .ok (.iload_n 1, 1) := by decide +kernel
theorem dX7_count_12 : decode (mc mX7_count) 12 = .ok (.invokevirtual 115, 3) := by decide +kernel
theorem dX7_count_15 : decode (mc mX7_count) 15 = .ok (.goto 5, 3) := by decide +kernel
theorem dX7_count_18 : decode (mc mX7_count) 18 = .ok (.ldc 88, 2) := by decide +kernel
theorem dX7_count_20 : decode (mc mX7_count) 20 = .ok (.ireturn, 1) := by decide +kernel
theorem dX7_memberNow_0 : decode (mc mX7_memberNow) 0 = .ok (.iload_n 2, 1) := by decide +kernel
theorem dX7_memberNow_1 : decode (mc mX7_memberNow) 1 = .ok (.iconst 2, 1) := by decide +kernel
theorem dX7_memberNow_2 : decode (mc mX7_memberNow) 2 = .ok (.if_icmp .ge 17, 3) := by decide +kernel
theorem dX7_memberNow_5 : decode (mc mX7_memberNow) 5 = .ok (.aload_n 0, 1) := by decide +kernel
theorem dX7_memberNow_6 : decode (mc mX7_memberNow) 6 = .ok (.getfield 7, 3) := by decide +kernel
theorem dX7_memberNow_9 : decode (mc mX7_memberNow) 9 = .ok (.bipush 10, 2) := by decide +kernel
theorem dX7_memberNow_11 : decode (mc mX7_memberNow) 11 = .ok (.iconst 2, 1) := by decide +kernel
theorem dX7_memberNow_12 : decode (mc mX7_memberNow) 12 = .ok (.iload_n 1, 1) := by decide +kernel
theorem dX7_memberNow_13 : decode (mc mX7_memberNow) 13 = .ok (.imul, 1) := by decide +kernel
theorem dX7_memberNow_14 : decode (mc mX7_memberNow) 14 = .ok (.iadd, 1) := by decide +kernel
theorem dX7_memberNow_15 : decode (mc mX7_memberNow) 15 = .ok (.iload_n 2, 1) := by decide +kernel
theorem dX7_memberNow_16 : decode (mc mX7_memberNow) 16 = .ok (.iadd, 1) := by decide +kernel
theorem dX7_memberNow_17 : decode (mc mX7_memberNow) 17 = .ok (.iaload, 1) := by decide +kernel
theorem dX7_memberNow_18 : decode (mc mX7_memberNow) 18 = .ok (.ireturn, 1) := by decide +kernel
theorem dX7_memberNow_19 : decode (mc mX7_memberNow) 19 = .ok (.iconst 0, 1) := by decide +kernel
theorem dX7_memberNow_20 : decode (mc mX7_memberNow) 20 = .ok (.istore_n 3, 1) := by decide +kernel
theorem dX7_memberNow_21 : decode (mc mX7_memberNow) 21 = .ok (.iconst 0, 1) := by decide +kernel
theorem dX7_memberNow_22 : decode (mc mX7_memberNow) 22 = .ok (.istore 4, 2) := by decide +kernel
theorem dX7_memberNow_24 : decode (mc mX7_memberNow) 24 = .ok (.iload 4, 2) := by decide +kernel
theorem dX7_memberNow_26 : decode (mc mX7_memberNow) 26 = .ok (.aload_n 0, 1) := by decide +kernel
theorem dX7_memberNow_27 : decode (mc mX7_memberNow) 27 = .ok (.getfield 7, 3) := by decide +kernel
theorem dX7_memberNow_30 : decode (mc mX7_memberNow) 30 = .ok (.iconst 1, 1) := by decide +kernel
theorem dX7_memberNow_31 : decode (mc mX7_memberNow) 31 = .ok (.iaload, 1) := by decide +kernel
theorem dX7_memberNow_32 : decode (mc mX7_memberNow) 32 = .ok (.if_icmp .ge 39, 3) := by decide +kernel
theorem dX7_memberNow_35 : decode (mc mX7_memberNow) 35 = .ok (.iload_n 2, 1) := by decide +kernel
theorem dX7_memberNow_36 : decode (mc mX7_memberNow) 36 = .ok (.iconst 2, 1) := by decide +kernel
theorem dX7_memberNow_37 : decode (mc mX7_memberNow) 37 = .ok (.if_icmp .ne 34, 3) := by decide +kernel
theorem dX7_memberNow_40 : decode (mc mX7_memberNow) 40 = .ok (.iload_n 3, 1) := by decide +kernel
theorem dX7_memberNow_41 : decode (mc mX7_memberNow) 41 = .ok (.aload_n 0, 1) := by decide +kernel
theorem dX7_memberNow_42 : decode (mc mX7_memberNow) 42 = .ok (.iload 4, 2) := by decide +kernel
theorem dX7_memberNow_44 : decode (mc mX7_memberNow) 44 = .ok (.iconst 0, 1) := by decide +kernel
theorem dX7_memberNow_45 : decode (mc mX7_memberNow) 45 = .ok (.invokevirtual 49, 3) := by decide +kernel
theorem dX7_memberNow_48 : decode (mc mX7_memberNow) 48 = .ok (.iload_n 1, 1) := by decide +kernel
theorem dX7_memberNow_49 : decode (mc mX7_memberNow) 49 = .ok (.if_icmp .ne 13, 3) := by decide +kernel
theorem dX7_memberNow_52 : decode (mc mX7_memberNow) 52 = .ok (.aload_n 0, 1) := by decide +kernel
theorem dX7_memberNow_53 : decode (mc mX7_memberNow) 53 = .ok (.iload 4, 2) := by decide +kernel
theorem dX7_memberNow_55 : decode (mc mX7_memberNow) 55 = .ok (.iconst 4, 1) := by decide +kernel
theorem dX7_memberNow_56 : decode (mc mX7_memberNow) 56 = .ok (.invokevirtual 49, 3) := by decide +kernel
theorem dX7_memberNow_59 : decode (mc mX7_memberNow) 59 = .ok (.goto 4, 3) := by decide +kernel
theorem dX7_memberNow_62 : decode (mc mX7_memberNow) 62 = .ok (.iconst 0, 1) := by decide +kernel
theorem dX7_memberNow_63 : decode (mc mX7_memberNow) 63 = .ok (.iadd, 1) := by decide +kernel
theorem dX7_memberNow_64 : decode (mc mX7_memberNow) 64 = .ok (.istore_n 3, 1) := by decide +kernel
theorem dX7_memberNow_65 : decode (mc mX7_memberNow) 65 = .ok (.iinc 4 1, 3) := by decide +kernel
theorem dX7_memberNow_68 : decode (mc mX7_memberNow) 68 = .ok (.goto (-44), 3) := by decide +kernel
theorem dX7_memberNow_71 : decode (mc mX7_memberNow) 71 = .ok (.iconst 0, 1) := by decide +kernel
theorem dX7_memberNow_72 : decode (mc mX7_memberNow) 72 = .ok (.istore 4, 2) := by decide +kernel
theorem dX7_memberNow_74 : decode (mc mX7_memberNow) 74 = .ok (.iload 4, 2) := by decide +kernel
theorem dX7_memberNow_76 : decode (mc mX7_memberNow) 76 = .ok (.aload_n 0, 1) := by decide +kernel
theorem dX7_memberNow_77 : decode (mc mX7_memberNow) 77 = .ok (.getfield 7, 3) := by decide +kernel
theorem dX7_memberNow_80 : decode (mc mX7_memberNow) 80 = .ok (.iconst 2, 1) := by decide +kernel
theorem dX7_memberNow_81 : decode (mc mX7_memberNow) 81 = .ok (.iaload, 1) := by decide +kernel
theorem dX7_memberNow_82 : decode (mc mX7_memberNow) 82 = .ok (.if_icmp .ge 65, 3) := by decide +kernel
theorem dX7_memberNow_85 : decode (mc mX7_memberNow) 85 = .ok (.iload_n 2, 1) := by decide +kernel
theorem dX7_memberNow_86 : decode (mc mX7_memberNow) 86 = .ok (.iconst 2, 1) := by decide +kernel
theorem dX7_memberNow_87 : decode (mc mX7_memberNow) 87 = .ok (.if_icmp .le 60, 3) := by decide +kernel
theorem dX7_memberNow_90 : decode (mc mX7_memberNow) 90 = .ok (.iload_n 3, 1) := by decide +kernel
theorem dX7_memberNow_91 : decode (mc mX7_memberNow) 91 = .ok (.iload_n 2, 1) := by decide +kernel
theorem dX7_memberNow_92 : decode (mc mX7_memberNow) 92 = .ok (.iconst 3, 1) := by decide +kernel
theorem dX7_memberNow_93 : decode (mc mX7_memberNow) 93 = .ok (.if_icmp .ne 22, 3) := by decide +kernel
theorem dX7_memberNow_96 : decode (mc mX7_memberNow) 96 = .ok (.aload_n 0, 1) := by decide +kernel
theorem dX7_memberNow_97 : decode (mc mX7_memberNow) 97 = .ok (.iload 4, 2) := by decide +kernel
theorem dX7_memberNow_99 : decode (mc mX7_memberNow) 99 = .ok (.iconst 0, 1) := by decide +kernel
theorem dX7_memberNow_100 : decode (mc mX7_memberNow) 100 = .ok (.invokevirtual 100, 3) := by decide +kernel
theorem dX7_memberNow_103 : decode (mc mX7_memberNow) 103 = .ok (.iload_n 1, 1) := by decide +kernel
theorem dX7_memberNow_104 : decode (mc mX7_memberNow) 104 = .ok (.if_icmp .ne 7, 3) := by decide +kernel
theorem dX7_memberNow_107 : decode (mc mX7_memberNow) 107 = .ok (.iconst 1, 1) := by decide +kernel
theorem dX7_memberNow_108 : decode (mc mX7_memberNow) 108 = .ok (.goto 31, 3) := by decide +kernel
theorem dX7_memberNow_111 : decode (mc mX7_memberNow) 111 = .ok (.iconst 0, 1) := by decide +kernel
theorem dX7_memberNow_112 : decode (mc mX7_memberNow) 112 = .ok (.goto 27, 3) := by decide +kernel
theorem dX7_memberNow_115 : decode (mc mX7_memberNow) 115 = .ok (.aload_n 0, 1) := by decide +kernel
theorem dX7_memberNow_116 : decode (mc mX7_memberNow) 116 = .ok (.iload 4, 2) := by decide +kernel
theorem dX7_memberNow_118 : decode (mc mX7_memberNow) 118 = .ok (.iconst 5, 1) := by decide +kernel
theorem dX7_memberNow_119 : decode (mc mX7_memberNow) 119 = .ok (.invokevirtual 100, 3) := by decide +kernel
theorem dX7_memberNow_122 : decode (mc mX7_memberNow) 122 = .ok (.ifCond .ne 16, 3) := by decide +kernel
theorem dX7_memberNow_125 : decode (mc mX7_memberNow) 125 = .ok (.aload_n 0, 1) := by decide +kernel
theorem dX7_memberNow_126 : decode (mc mX7_memberNow) 126 = .ok (.iload 4, 2) := by decide +kernel
theorem dX7_memberNow_128 : decode (mc mX7_memberNow) 128 = .ok (.bipush 7, 2) := by decide +kernel
theorem dX7_memberNow_130 : decode (mc mX7_memberNow) 130 = .ok (.iload_n 1, 1) := by decide +kernel
theorem dX7_memberNow_131 : decode (mc mX7_memberNow) 131 = .ok (.iadd, 1) := by decide +kernel
theorem dX7_memberNow_132 : decode (mc mX7_memberNow) 132 = .ok (.invokevirtual 100, 3) := by decide +kernel
theorem dX7_memberNow_135 : decode (mc mX7_memberNow) 135 = .ok (.goto 4, 3) := by decide +kernel
theorem dX7_memberNow_138 : decode (mc mX7_memberNow) 138 = .ok (.iconst 0, 1) := by decide +kernel
theorem dX7_memberNow_139 : decode (mc mX7_memberNow) 139 = .ok (.iadd, 1) := by decide +kernel
theorem dX7_memberNow_140 : decode (mc mX7_memberNow) 140 = .ok (.istore_n 3, 1) := by decide +kernel
theorem dX7_memberNow_141 : decode (mc mX7_memberNow) 141 = .ok (.iinc 4 1, 3) := by decide +kernel
theorem dX7_memberNow_144 : decode (mc mX7_memberNow) 144 = .ok (.goto (-70), 3) := by decide +kernel
theorem dX7_memberNow_147 : decode (mc mX7_memberNow) 147 = .ok (.iload_n 3, 1) := by decide +kernel
theorem dX7_memberNow_148 : decode (mc mX7_memberNow) 148 = .ok (.ireturn, 1) := by decide +kernel
theorem dX7_member_0 : decode (mc mX7_member) 0 = .ok (.aload_n 0, 1) := by decide +kernel
theorem dX7_member_1 : decode (mc mX7_member) 1 = .ok (.iload_n 1, 1) := by decide +kernel
theorem dX7_member_2 : decode (mc mX7_member) 2 = .ok (.invokevirtual 83, 3) := by decide +kernel
theorem dX7_member_5 : decode (mc mX7_member) 5 = .ok (.ifCond .ne 6, 3) := by decide +kernel
theorem dX7_member_8 : decode (mc mX7_member) 8 = .ok (.ldc 87, 2) := by decide +kernel
theorem dX7_member_10 : decode (mc mX7_member) 10 = .ok (.ireturn, 1) := by decide +kernel
theorem dX7_member_11 : decode (mc mX7_member) 11 = .ok (.iload_n 2, 1) := by decide +kernel
theorem dX7_member_12 : decode (mc mX7_member) 12 = .ok (.iconst 0, 1) := by decide +kernel
theorem dX7_member_13 : decode (mc mX7_member) 13 = .ok (.iconst 4, 1) := by decide +kernel
theorem dX7_member_14 : decode (mc mX7_member) 14 = .ok (.invokestatic 45, 3) := by decide +kernel
theorem dX7_member_17 : decode (mc mX7_member) 17 = .ok (.ifCond .eq 12, 3) := by decide +kernel
theorem dX7_member_20 : decode (mc mX7_member) 20 = .ok (.aload_n 0, 1) := by decide +kernel
theorem dX7_member_21 : decode (mc mX7_member) 21 = .ok (.iload_n 1, 1) := by decide +kernel
theorem dX7_member_22 : decode (mc mX7_member) 22 = .ok (.iload_n 2, 1) := by decide +kernel
theorem dX7_member_23 : decode (mc mX7_member) 23 = .ok (.invokevirtual 118, 3) := by decide +kernel
theorem dX7_member_26 : decode (mc mX7_member) 26 = .ok (.goto 5, 3) := by decide +kernel
theorem dX7_member_29 : decode (mc mX7_member) 29 = .ok (.ldc 88, 2) := by decide +kernel
theorem dX7_member_31 : decode (mc mX7_member) 31 = .ok (.ireturn, 1) := by decide +kernel
theorem dX7_addPhrase_0 : decode (mc mX7_addPhrase) 0 = .ok (.aload_n 0, 1) := by decide +kernel
theorem dX7_addPhrase_1 : decode (mc mX7_addPhrase) 1 = .ok (.iload_n 1, 1) := by decide +kernel
theorem dX7_addPhrase_2 : decode (mc mX7_addPhrase) 2 = .ok (.invokevirtual 83, 3) := by decide +kernel
theorem dX7_addPhrase_5 : decode (mc mX7_addPhrase) 5 = .ok (.ifCond .eq 17, 3) := by decide +kernel
theorem dX7_addPhrase_8 : decode (mc mX7_addPhrase) 8 = .ok (.iload_n 3, 1) := by decide +kernel
theorem dX7_addPhrase_9 : decode (mc mX7_addPhrase) 9 = .ok (.ldc 121, 2) := by decide +kernel
theorem dX7_addPhrase_11 : decode (mc mX7_addPhrase) 11 = .ok (.if_icmp .eq 14, 3) := by decide +kernel
theorem dX7_addPhrase_14 : decode (mc mX7_addPhrase) 14 = .ok (.aload_n 0, 1) := by decide +kernel
theorem dX7_addPhrase_15 : decode (mc mX7_addPhrase) 15 = .ok (.iload_n 3, 1) := by decide +kernel
theorem dX7_addPhrase_16 : decode (mc mX7_addPhrase) 16 = .ok (.invokevirtual 122, 3) := by decide +kernel
theorem dX7_addPhrase_19 : decode (mc mX7_addPhrase) 19 = .ok (.ifCond .ne 6, 3) := by decide +kernel
theorem dX7_addPhrase_22 : decode (mc mX7_addPhrase) 22 = .ok (.ldc 87, 2) := by decide +kernel
theorem dX7_addPhrase_24 : decode (mc mX7_addPhrase) 24 = .ok (.ireturn, 1) := by decide +kernel
theorem dX7_addPhrase_25 : decode (mc mX7_addPhrase) 25 = .ok (.iload_n 2, 1) := by decide +kernel
theorem dX7_addPhrase_26 : decode (mc mX7_addPhrase) 26 = .ok (.iconst 0, 1) := by decide +kernel
theorem dX7_addPhrase_27 : decode (mc mX7_addPhrase) 27 = .ok (.sipush 999, 3) := by decide +kernel
theorem dX7_addPhrase_30 : decode (mc mX7_addPhrase) 30 = .ok (.invokestatic 45, 3) := by decide +kernel
theorem dX7_addPhrase_33 : decode (mc mX7_addPhrase) 33 = .ok (.ifCond .ne 6, 3) := by decide +kernel
theorem dX7_addPhrase_36 : decode (mc mX7_addPhrase) 36 = .ok (.ldc 88, 2) := by decide +kernel
theorem dX7_addPhrase_38 : decode (mc mX7_addPhrase) 38 = .ok (.ireturn, 1) := by decide +kernel
theorem dX7_addPhrase_39 : decode (mc mX7_addPhrase) 39 = .ok (.aload_n 0, 1) := by decide +kernel
theorem dX7_addPhrase_40 : decode (mc mX7_addPhrase) 40 = .ok (.invokevirtual 125, 3) := by decide +kernel
theorem dX7_addPhrase_43 : decode (mc mX7_addPhrase) 43 = .ok (.ldc 121, 2) := by decide +kernel
theorem dX7_addPhrase_45 : decode (mc mX7_addPhrase) 45 = .ok (.if_icmp .ne 18, 3) := by decide +kernel
theorem dX7_addPhrase_48 : decode (mc mX7_addPhrase) 48 = .ok (.iload_n 3, 1) := by decide +kernel
theorem dX7_addPhrase_49 : decode (mc mX7_addPhrase) 49 = .ok (.ldc 121, 2) := by decide +kernel
theorem dX7_addPhrase_51 : decode (mc mX7_addPhrase) 51 = .ok (.if_icmp .eq 15, 3) := by decide +kernel
theorem dX7_addPhrase_54 : decode (mc mX7_addPhrase) 54 = .ok (.aload_n 0, 1) := by decide +kernel
theorem dX7_addPhrase_55 : decode (mc mX7_addPhrase) 55 = .ok (.iload_n 3, 1) := by decide +kernel
theorem dX7_addPhrase_56 : decode (mc mX7_addPhrase) 56 = .ok (.iconst 4, 1) := by decide +kernel
theorem dX7_addPhrase_57 : decode (mc mX7_addPhrase) 57 = .ok (.invokevirtual 49, 3) := by decide +kernel
theorem dX7_addPhrase_60 : decode (mc mX7_addPhrase) 60 = .ok (.ifCond .ne 6, 3) := by decide +kernel
theorem dX7_addPhrase_63 : decode (mc mX7_addPhrase) 63 = .ok (.ldc 128, 2) := by decide +kernel
theorem dX7_addPhrase_65 : decode (mc mX7_addPhrase) 65 = .ok (.ireturn, 1) := by decide +kernel
theorem dX7_addPhrase_66 : decode (mc mX7_addPhrase) 66 = .ok (.aload_n 0, 1) := by decide +kernel
theorem dX7_addPhrase_67 : decode (mc mX7_addPhrase) 67 = .ok (.getfield 7, 3) := by decide +kernel
theorem dX7_addPhrase_70 : decode (mc mX7_addPhrase) 70 = .ok (.iconst 1, 1) := by decide +kernel
theorem dX7_addPhrase_71 : decode (mc mX7_addPhrase) 71 = .ok (.iaload, 1) := by decide +kernel
theorem dX7_addPhrase_72 : decode (mc mX7_addPhrase) 72 = .ok (.bipush 20, 2) := by decide +kernel
theorem dX7_addPhrase_74 : decode (mc mX7_addPhrase) 74 = .ok (.if_icmp .ne 6, 3) := by decide +kernel
theorem dX7_addPhrase_77 : decode (mc mX7_addPhrase) 77 = .ok (.ldc 79, 2) := by decide +kernel
theorem dX7_addPhrase_79 : decode (mc mX7_addPhrase) 79 = .ok (.ireturn, 1) := by decide +kernel
theorem dX7_addPhrase_80 : decode (mc mX7_addPhrase) 80 = .ok (.aload_n 0, 1) := by decide +kernel
theorem dX7_addPhrase_81 : decode (mc mX7_addPhrase) 81 = .ok (.invokevirtual 80, 3) := by decide +kernel
theorem dX7_addPhrase_84 : decode (mc mX7_addPhrase) 84 = .ok (.bipush 22, 2) := by decide +kernel
theorem dX7_addPhrase_86 : decode (mc mX7_addPhrase) 86 = .ok (.bipush 16, 2) := by decide +kernel
theorem dX7_addPhrase_88 : decode (mc mX7_addPhrase) 88 = .ok (.aload_n 0, 1) := by decide +kernel
theorem dX7_addPhrase_89 : decode (mc mX7_addPhrase) 89 = .ok (.getfield 7, 3) := by decide +kernel
theorem dX7_addPhrase_92 : decode (mc mX7_addPhrase) 92 = .ok (.iconst 1, 1) := by decide +kernel
theorem dX7_addPhrase_93 : decode (mc mX7_addPhrase) 93 = .ok (.iaload, 1) := by decide +kernel
theorem dX7_addPhrase_94 : decode (mc mX7_addPhrase) 94 = .ok (.imul, 1) := by decide +kernel
theorem dX7_addPhrase_95 : decode (mc mX7_addPhrase) 95 = .ok (.iadd, 1) := by decide +kernel
theorem dX7_addPhrase_96 : decode (mc mX7_addPhrase) 96 = .ok (.istore 4, 2) := by decide +kernel
theorem dX7_addPhrase_98 : decode (mc mX7_addPhrase) 98 = .ok (.aload_n 0, 1) := by decide +kernel
theorem dX7_addPhrase_99 : decode (mc mX7_addPhrase) 99 = .ok (.invokevirtual 76, 3) := by decide +kernel
theorem dX7_addPhrase_102 : decode (mc mX7_addPhrase) 102 = .ok (.aload_n 0, 1) := by decide +kernel
theorem dX7_addPhrase_103 : decode (mc mX7_addPhrase) 103 = .ok (.getfield 7, 3) := by decide +kernel
theorem dX7_addPhrase_106 : decode (mc mX7_addPhrase) 106 = .ok (.iload 4, 2) := by decide +kernel
theorem dX7_addPhrase_108 : decode (mc mX7_addPhrase) 108 = .ok (.iconst 0, 1) := by decide +kernel
theorem dX7_addPhrase_109 : decode (mc mX7_addPhrase) 109 = .ok (.iadd, 1) := by decide +kernel
theorem dX7_addPhrase_110 : decode (mc mX7_addPhrase) 110 = .ok (.iload_n 1, 1) := by decide +kernel
theorem dX7_addPhrase_111 : decode (mc mX7_addPhrase) 111 = .ok (.iastore, 1) := by decide +kernel
theorem dX7_addPhrase_112 : decode (mc mX7_addPhrase) 112 = .ok (.aload_n 0, 1) := by decide +kernel
theorem dX7_addPhrase_113 : decode (mc mX7_addPhrase) 113 = .ok (.getfield 7, 3) := by decide +kernel
theorem dX7_addPhrase_116 : decode (mc mX7_addPhrase) 116 = .ok (.iload 4, 2) := by decide +kernel
theorem dX7_addPhrase_118 : decode (mc mX7_addPhrase) 118 = .ok (.iconst 1, 1) := by decide +kernel
theorem dX7_addPhrase_119 : decode (mc mX7_addPhrase) 119 = .ok (.iadd, 1) := by decide +kernel
theorem dX7_addPhrase_120 : decode (mc mX7_addPhrase) 120 = .ok (.aload_n 0, 1) := by decide +kernel
theorem dX7_addPhrase_121 : decode (mc mX7_addPhrase) 121 = .ok (.getfield 53, 3) := by decide +kernel
theorem dX7_addPhrase_124 : decode (mc mX7_addPhrase) 124 = .ok (.iastore, 1) := by decide +kernel
theorem dX7_addPhrase_125 : decode (mc mX7_addPhrase) 125 = .ok (.aload_n 0, 1) := by decide +kernel
theorem dX7_addPhrase_126 : decode (mc mX7_addPhrase) 126 = .ok (.getfield 7, 3) := by decide +kernel
theorem dX7_addPhrase_129 : decode (mc mX7_addPhrase) 129 = .ok (.iload 4, 2) := by decide +kernel
theorem dX7_addPhrase_131 : decode (mc mX7_addPhrase) 131 = .ok (.iconst 2, 1) := by decide +kernel
theorem dX7_addPhrase_132 : decode (mc mX7_addPhrase) 132 = .ok (.iadd, 1) := by decide +kernel
theorem dX7_addPhrase_133 : decode (mc mX7_addPhrase) 133 = .ok (.iload_n 2, 1) := by decide +kernel
theorem dX7_addPhrase_134 : decode (mc mX7_addPhrase) 134 = .ok (.iastore, 1) := by decide +kernel
theorem dX7_addPhrase_135 : decode (mc mX7_addPhrase) 135 = .ok (.aload_n 0, 1) := by decide +kernel
theorem dX7_addPhrase_136 : decode (mc mX7_addPhrase) 136 = .ok (.getfield 7, 3) := by decide +kernel
theorem dX7_addPhrase_139 : decode (mc mX7_addPhrase) 139 = .ok (.iload 4, 2) := by decide +kernel
theorem dX7_addPhrase_141 : decode (mc mX7_addPhrase) 141 = .ok (.iconst 3, 1) := by decide +kernel
theorem dX7_addPhrase_142 : decode (mc mX7_addPhrase) 142 = .ok (.iadd, 1) := by decide +kernel
theorem dX7_addPhrase_143 : decode (mc mX7_addPhrase) 143 = .ok (.iload_n 3, 1) := by decide +kernel
theorem dX7_addPhrase_144 : decode (mc mX7_addPhrase) 144 = .ok (.iastore, 1) := by decide +kernel
theorem dX7_addPhrase_145 : decode (mc mX7_addPhrase) 145 = .ok (.aload_n 0, 1) := by decide +kernel
theorem dX7_addPhrase_146 : decode (mc mX7_addPhrase) 146 = .ok (.getfield 7, 3) := by decide +kernel
theorem dX7_addPhrase_149 : decode (mc mX7_addPhrase) 149 = .ok (.iload 4, 2) := by decide +kernel
theorem dX7_addPhrase_151 : decode (mc mX7_addPhrase) 151 = .ok (.iconst 4, 1) := by decide +kernel
theorem dX7_addPhrase_152 : decode (mc mX7_addPhrase) 152 = .ok (.iadd, 1) := by decide +kernel
theorem dX7_addPhrase_153 : decode (mc mX7_addPhrase) 153 = .ok (.iconst 1, 1) := by decide +kernel
theorem dX7_addPhrase_154 : decode (mc mX7_addPhrase) 154 = .ok (.iastore, 1) := by decide +kernel
theorem dX7_addPhrase_155 : decode (mc mX7_addPhrase) 155 = .ok (.aload_n 0, 1) := by decide +kernel
theorem dX7_addPhrase_156 : decode (mc mX7_addPhrase) 156 = .ok (.getfield 7, 3) := by decide +kernel
theorem dX7_addPhrase_159 : decode (mc mX7_addPhrase) 159 = .ok (.iload 4, 2) := by decide +kernel
theorem dX7_addPhrase_161 : decode (mc mX7_addPhrase) 161 = .ok (.iconst 5, 1) := by decide +kernel
theorem dX7_addPhrase_162 : decode (mc mX7_addPhrase) 162 = .ok (.iadd, 1) := by decide +kernel
theorem dX7_addPhrase_163 : decode (mc mX7_addPhrase) 163 = .ok (.iconst 0, 1) := by decide +kernel
theorem dX7_addPhrase_164 : decode (mc mX7_addPhrase) 164 = .ok (.iastore, 1) := by decide +kernel
theorem dX7_addPhrase_165 : decode (mc mX7_addPhrase) 165 = .ok (.iconst 0, 1) := by decide +kernel
theorem dX7_addPhrase_166 : decode (mc mX7_addPhrase) 166 = .ok (.istore 5, 2) := by decide +kernel
theorem dX7_addPhrase_168 : decode (mc mX7_addPhrase) 168 = .ok (.iload 5, 2) := by decide +kernel
theorem dX7_addPhrase_170 : decode (mc mX7_addPhrase) 170 = .ok (.aload_n 0, 1) := by decide +kernel
theorem dX7_addPhrase_171 : decode (mc mX7_addPhrase) 171 = .ok (.getfield 53, 3) := by decide +kernel
theorem dX7_addPhrase_174 : decode (mc mX7_addPhrase) 174 = .ok (.if_icmp .ge 29, 3) := by decide +kernel
theorem dX7_addPhrase_177 : decode (mc mX7_addPhrase) 177 = .ok (.aload_n 0, 1) := by decide +kernel
theorem dX7_addPhrase_178 : decode (mc mX7_addPhrase) 178 = .ok (.getfield 7, 3) := by decide +kernel
theorem dX7_addPhrase_181 : decode (mc mX7_addPhrase) 181 = .ok (.iload 4, 2) := by decide +kernel
theorem dX7_addPhrase_183 : decode (mc mX7_addPhrase) 183 = .ok (.bipush 6, 2) := by decide +kernel
theorem dX7_addPhrase_185 : decode (mc mX7_addPhrase) 185 = .ok (.iadd, 1) := by decide +kernel
theorem dX7_addPhrase_186 : decode (mc mX7_addPhrase) 186 = .ok (.iload 5, 2) := by decide +kernel
theorem dX7_addPhrase_188 : decode (mc mX7_addPhrase) 188 = .ok (.iadd, 1) := by decide +kernel
theorem dX7_addPhrase_189 : decode (mc mX7_addPhrase) 189 = .ok (.aload_n 0, 1) := by decide +kernel
theorem dX7_addPhrase_190 : decode (mc mX7_addPhrase) 190 = .ok (.getfield 13, 3) := by decide +kernel
theorem dX7_addPhrase_193 : decode (mc mX7_addPhrase) 193 = .ok (.iload 5, 2) := by decide +kernel
theorem dX7_addPhrase_195 : decode (mc mX7_addPhrase) 195 = .ok (.iaload, 1) := by decide +kernel
theorem dX7_addPhrase_196 : decode (mc mX7_addPhrase) 196 = .ok (.iastore, 1) := by decide +kernel
theorem dX7_addPhrase_197 : decode (mc mX7_addPhrase) 197 = .ok (.iinc 5 1, 3) := by decide +kernel
theorem dX7_addPhrase_200 : decode (mc mX7_addPhrase) 200 = .ok (.goto (-32), 3) := by decide +kernel
theorem dX7_addPhrase_203 : decode (mc mX7_addPhrase) 203 = .ok (.aload_n 0, 1) := by decide +kernel
theorem dX7_addPhrase_204 : decode (mc mX7_addPhrase) 204 = .ok (.getfield 7, 3) := by decide +kernel
theorem dX7_addPhrase_207 : decode (mc mX7_addPhrase) 207 = .ok (.iconst 1, 1) := by decide +kernel
theorem dX7_addPhrase_208 : decode (mc mX7_addPhrase) 208 = .ok (.dup2, 1) := by decide +kernel
theorem dX7_addPhrase_209 : decode (mc mX7_addPhrase) 209 = .ok (.iaload, 1) := by decide +kernel
theorem dX7_addPhrase_210 : decode (mc mX7_addPhrase) 210 = .ok (.iconst 1, 1) := by decide +kernel
theorem dX7_addPhrase_211 : decode (mc mX7_addPhrase) 211 = .ok (.iadd, 1) := by decide +kernel
theorem dX7_addPhrase_212 : decode (mc mX7_addPhrase) 212 = .ok (.iastore, 1) := by decide +kernel
theorem dX7_addPhrase_213 : decode (mc mX7_addPhrase) 213 = .ok (.aload_n 0, 1) := by decide +kernel
theorem dX7_addPhrase_214 : decode (mc mX7_addPhrase) 214 = .ok (.getfield 7, 3) := by decide +kernel
theorem dX7_addPhrase_217 : decode (mc mX7_addPhrase) 217 = .ok (.iconst 1, 1) := by decide +kernel
theorem dX7_addPhrase_218 : decode (mc mX7_addPhrase) 218 = .ok (.iaload, 1) := by decide +kernel
theorem dX7_addPhrase_219 : decode (mc mX7_addPhrase) 219 = .ok (.iconst 1, 1) := by decide +kernel
theorem dX7_addPhrase_220 : decode (mc mX7_addPhrase) 220 = .ok (.isub, 1) := by decide +kernel
theorem dX7_addPhrase_221 : decode (mc mX7_addPhrase) 221 = .ok (.ireturn, 1) := by decide +kernel
theorem dX7_phrase_0 : decode (mc mX7_phrase) 0 = .ok (.aload_n 0, 1) := by decide +kernel
theorem dX7_phrase_1 : decode (mc mX7_phrase) 1 = .ok (.iload_n 1, 1) := by decide +kernel
theorem dX7_phrase_2 : decode (mc mX7_phrase) 2 = .ok (.invokevirtual 122, 3) := by decide +kernel
theorem dX7_phrase_5 : decode (mc mX7_phrase) 5 = .ok (.ifCond .ne 6, 3) := by decide +kernel
theorem dX7_phrase_8 : decode (mc mX7_phrase) 8 = .ok (.ldc 87, 2) := by decide +kernel
theorem dX7_phrase_10 : decode (mc mX7_phrase) 10 = .ok (.ireturn, 1) := by decide +kernel
theorem dX7_phrase_11 : decode (mc mX7_phrase) 11 = .ok (.iload_n 2, 1) := by decide +kernel
theorem dX7_phrase_12 : decode (mc mX7_phrase) 12 = .ok (.iconst 0, 1) := by decide +kernel
theorem dX7_phrase_13 : decode (mc mX7_phrase) 13 = .ok (.bipush 6, 2) := by decide +kernel
theorem dX7_phrase_15 : decode (mc mX7_phrase) 15 = .ok (.invokestatic 45, 3) := by decide +kernel
theorem dX7_phrase_18 : decode (mc mX7_phrase) 18 = .ok (.ifCond .ne 6, 3) := by decide +kernel
theorem dX7_phrase_21 : decode (mc mX7_phrase) 21 = .ok (.ldc 88, 2) := by decide +kernel
theorem dX7_phrase_23 : decode (mc mX7_phrase) 23 = .ok (.ireturn, 1) := by decide +kernel
theorem dX7_phrase_24 : decode (mc mX7_phrase) 24 = .ok (.iload_n 2, 1) := by decide +kernel
theorem dX7_phrase_25 : decode (mc mX7_phrase) 25 = .ok (.bipush 6, 2) := by decide +kernel
theorem dX7_phrase_27 : decode (mc mX7_phrase) 27 = .ok (.if_icmp .ge 12, 3) := by decide +kernel
theorem dX7_phrase_30 : decode (mc mX7_phrase) 30 = .ok (.aload_n 0, 1) := by decide +kernel
theorem dX7_phrase_31 : decode (mc mX7_phrase) 31 = .ok (.iload_n 1, 1) := by decide +kernel
theorem dX7_phrase_32 : decode (mc mX7_phrase) 32 = .ok (.iload_n 2, 1) := by decide +kernel
theorem dX7_phrase_33 : decode (mc mX7_phrase) 33 = .ok (.invokevirtual 49, 3) := by decide +kernel
theorem dX7_phrase_36 : decode (mc mX7_phrase) 36 = .ok (.goto 8, 3) := by decide +kernel
theorem dX7_phrase_39 : decode (mc mX7_phrase) 39 = .ok (.aload_n 0, 1) := by decide +kernel
theorem dX7_phrase_40 : decode (mc mX7_phrase) 40 = .ok (.iload_n 1, 1) := by decide +kernel
theorem dX7_phrase_41 : decode (mc mX7_phrase) 41 = .ok (.invokevirtual 103, 3) := by decide +kernel
theorem dX7_phrase_44 : decode (mc mX7_phrase) 44 = .ok (.ireturn, 1) := by decide +kernel
theorem dX7_word_0 : decode (mc mX7_word) 0 = .ok (.aload_n 0, 1) := by decide +kernel
theorem dX7_word_1 : decode (mc mX7_word) 1 = .ok (.iload_n 1, 1) := by decide +kernel
theorem dX7_word_2 : decode (mc mX7_word) 2 = .ok (.invokevirtual 122, 3) := by decide +kernel
theorem dX7_word_5 : decode (mc mX7_word) 5 = .ok (.ifCond .ne 6, 3) := by decide +kernel
theorem dX7_word_8 : decode (mc mX7_word) 8 = .ok (.ldc 87, 2) := by decide +kernel
theorem dX7_word_10 : decode (mc mX7_word) 10 = .ok (.ireturn, 1) := by decide +kernel
theorem dX7_word_11 : decode (mc mX7_word) 11 = .ok (.iload_n 2, 1) := by decide +kernel
theorem dX7_word_12 : decode (mc mX7_word) 12 = .ok (.ifCond .ge 6, 3) := by decide +kernel
theorem dX7_word_15 : decode (mc mX7_word) 15 = .ok (.ldc 88, 2) := by decide +kernel
theorem dX7_word_17 : decode (mc mX7_word) 17 = .ok (.ireturn, 1) := by decide +kernel
theorem dX7_word_18 : decode (mc mX7_word) 18 = .ok (.iload_n 2, 1) := by decide +kernel
theorem dX7_word_19 : decode (mc mX7_word) 19 = .ok (.aload_n 0, 1) := by decide +kernel
theorem dX7_word_20 : decode (mc mX7_word) 20 = .ok (.iload_n 1, 1) := by decide +kernel
theorem dX7_word_21 : decode (mc mX7_word) 21 = .ok (.iconst 1, 1) := by decide +kernel
theorem dX7_word_22 : decode (mc mX7_word) 22 = .ok (.invokevirtual 49, 3) := by decide +kernel
theorem dX7_word_25 : decode (mc mX7_word) 25 = .ok (.if_icmp .ge 15, 3) := by decide +kernel
theorem dX7_word_28 : decode (mc mX7_word) 28 = .ok (.aload_n 0, 1) := by decide +kernel
theorem dX7_word_29 : decode (mc mX7_word) 29 = .ok (.iload_n 1, 1) := by decide +kernel
theorem dX7_word_30 : decode (mc mX7_word) 30 = .ok (.bipush 6, 2) := by decide +kernel
theorem dX7_word_32 : decode (mc mX7_word) 32 = .ok (.iload_n 2, 1) := by decide +kernel
theorem dX7_word_33 : decode (mc mX7_word) 33 = .ok (.iadd, 1) := by decide +kernel
theorem dX7_word_34 : decode (mc mX7_word) 34 = .ok (.invokevirtual 49, 3) := by decide +kernel
theorem dX7_word_37 : decode (mc mX7_word) 37 = .ok (.goto 5, 3) := by decide +kernel
theorem dX7_word_40 : decode (mc mX7_word) 40 = .ok (.ldc 121, 2) := by decide +kernel
theorem dX7_word_42 : decode (mc mX7_word) 42 = .ok (.ireturn, 1) := by decide +kernel
theorem dX7_score_0 : decode (mc mX7_score) 0 = .ok (.aload_n 0, 1) := by decide +kernel
theorem dX7_score_1 : decode (mc mX7_score) 1 = .ok (.iload_n 1, 1) := by decide +kernel
theorem dX7_score_2 : decode (mc mX7_score) 2 = .ok (.invokevirtual 122, 3) := by decide +kernel
theorem dX7_score_5 : decode (mc mX7_score) 5 = .ok (.ifCond .eq 20, 3) := by decide +kernel
theorem dX7_score_8 : decode (mc mX7_score) 8 = .ok (.aload_n 0, 1) := by decide +kernel
theorem dX7_score_9 : decode (mc mX7_score) 9 = .ok (.iload_n 2, 1) := by decide +kernel
theorem dX7_score_10 : decode (mc mX7_score) 10 = .ok (.invokevirtual 122, 3) := by decide +kernel
theorem dX7_score_13 : decode (mc mX7_score) 13 = .ok (.ifCond .eq 12, 3) := by decide +kernel
theorem dX7_score_16 : decode (mc mX7_score) 16 = .ok (.aload_n 0, 1) := by decide +kernel
theorem dX7_score_17 : decode (mc mX7_score) 17 = .ok (.iload_n 1, 1) := by decide +kernel
theorem dX7_score_18 : decode (mc mX7_score) 18 = .ok (.iload_n 2, 1) := by decide +kernel
theorem dX7_score_19 : decode (mc mX7_score) 19 = .ok (.invokevirtual 93, 3) := by decide +kernel
theorem dX7_score_22 : decode (mc mX7_score) 22 = .ok (.goto 5, 3) := by decide +kernel
theorem dX7_score_25 : decode (mc mX7_score) 25 = .ok (.ldc 87, 2) := by decide +kernel
theorem dX7_score_27 : decode (mc mX7_score) 27 = .ok (.ireturn, 1) := by decide +kernel
theorem dX7_gives_0 : decode (mc mX7_gives) 0 = .ok (.aload_n 0, 1) := by decide +kernel
theorem dX7_gives_1 : decode (mc mX7_gives) 1 = .ok (.iload_n 1, 1) := by decide +kernel
theorem dX7_gives_2 : decode (mc mX7_gives) 2 = .ok (.iconst 4, 1) := by decide +kernel
theorem dX7_gives_3 : decode (mc mX7_gives) 3 = .ok (.invokevirtual 49, 3) := by decide +kernel
theorem dX7_gives_6 : decode (mc mX7_gives) 6 = .ok (.iconst 1, 1) := by decide +kernel
theorem dX7_gives_7 : decode (mc mX7_gives) 7 = .ok (.if_icmp .ne 27, 3) := by decide +kernel
theorem dX7_gives_10 : decode (mc mX7_gives) 10 = .ok (.aload_n 0, 1) := by decide +kernel
theorem dX7_gives_11 : decode (mc mX7_gives) 11 = .ok (.iload_n 1, 1) := by decide +kernel
theorem dX7_gives_12 : decode (mc mX7_gives) 12 = .ok (.iconst 2, 1) := by decide +kernel
theorem dX7_gives_13 : decode (mc mX7_gives) 13 = .ok (.invokevirtual 49, 3) := by decide +kernel
theorem dX7_gives_16 : decode (mc mX7_gives) 16 = .ok (.iload_n 2, 1) := by decide +kernel
theorem dX7_gives_17 : decode (mc mX7_gives) 17 = .ok (.if_icmp .ne 17, 3) := by decide +kernel
theorem dX7_gives_20 : decode (mc mX7_gives) 20 = .ok (.aload_n 0, 1) := by decide +kernel
theorem dX7_gives_21 : decode (mc mX7_gives) 21 = .ok (.iload_n 1, 1) := by decide +kernel
theorem dX7_gives_22 : decode (mc mX7_gives) 22 = .ok (.invokevirtual 129, 3) := by decide +kernel
theorem dX7_gives_25 : decode (mc mX7_gives) 25 = .ok (.bipush 100, 2) := by decide +kernel
theorem dX7_gives_27 : decode (mc mX7_gives) 27 = .ok (.if_icmp .ne 7, 3) := by decide +kernel
theorem dX7_gives_30 : decode (mc mX7_gives) 30 = .ok (.iconst 1, 1) := by decide +kernel
theorem dX7_gives_31 : decode (mc mX7_gives) 31 = .ok (.goto 4, 3) := by decide +kernel
theorem dX7_gives_34 : decode (mc mX7_gives) 34 = .ok (.iconst 0, 1) := by decide +kernel
theorem dX7_gives_35 : decode (mc mX7_gives) 35 = .ok (.ireturn, 1) := by decide +kernel
theorem dX7_agreed_0 : decode (mc mX7_agreed) 0 = .ok (.aload_n 0, 1) := by decide +kernel
theorem dX7_agreed_1 : decode (mc mX7_agreed) 1 = .ok (.invokevirtual 125, 3) := by decide +kernel
theorem dX7_agreed_4 : decode (mc mX7_agreed) 4 = .ok (.ldc 121, 2) := by decide +kernel
theorem dX7_agreed_6 : decode (mc mX7_agreed) 6 = .ok (.if_icmp .eq 6, 3) := by decide +kernel
theorem dX7_agreed_9 : decode (mc mX7_agreed) 9 = .ok (.ldc 128, 2) := by decide +kernel
theorem dX7_agreed_11 : decode (mc mX7_agreed) 11 = .ok (.ireturn, 1) := by decide +kernel
theorem dX7_agreed_12 : decode (mc mX7_agreed) 12 = .ok (.ldc 121, 2) := by decide +kernel
theorem dX7_agreed_14 : decode (mc mX7_agreed) 14 = .ok (.istore_n 1, 1) := by decide +kernel
theorem dX7_agreed_15 : decode (mc mX7_agreed) 15 = .ok (.iconst 0, 1) := by decide +kernel
theorem dX7_agreed_16 : decode (mc mX7_agreed) 16 = .ok (.istore_n 2, 1) := by decide +kernel
theorem dX7_agreed_17 : decode (mc mX7_agreed) 17 = .ok (.iconst 0, 1) := by decide +kernel
theorem dX7_agreed_18 : decode (mc mX7_agreed) 18 = .ok (.istore_n 3, 1) := by decide +kernel
theorem dX7_agreed_19 : decode (mc mX7_agreed) 19 = .ok (.iload_n 3, 1) := by decide +kernel
theorem dX7_agreed_20 : decode (mc mX7_agreed) 20 = .ok (.aload_n 0, 1) := by decide +kernel
theorem dX7_agreed_21 : decode (mc mX7_agreed) 21 = .ok (.getfield 7, 3) := by decide +kernel
theorem dX7_agreed_24 : decode (mc mX7_agreed) 24 = .ok (.iconst 1, 1) := by decide +kernel
theorem dX7_agreed_25 : decode (mc mX7_agreed) 25 = .ok (.iaload, 1) := by decide +kernel
theorem dX7_agreed_26 : decode (mc mX7_agreed) 26 = .ok (.if_icmp .ge 143, 3) := by decide +kernel
theorem dX7_agreed_29 : decode (mc mX7_agreed) 29 = .ok (.aload_n 0, 1) := by decide +kernel
theorem dX7_agreed_30 : decode (mc mX7_agreed) 30 = .ok (.iload_n 3, 1) := by decide +kernel
theorem dX7_agreed_31 : decode (mc mX7_agreed) 31 = .ok (.iconst 2, 1) := by decide +kernel
theorem dX7_agreed_32 : decode (mc mX7_agreed) 32 = .ok (.invokevirtual 49, 3) := by decide +kernel
theorem dX7_agreed_35 : decode (mc mX7_agreed) 35 = .ok (.istore 4, 2) := by decide +kernel
theorem dX7_agreed_37 : decode (mc mX7_agreed) 37 = .ok (.iconst 0, 1) := by decide +kernel
theorem dX7_agreed_38 : decode (mc mX7_agreed) 38 = .ok (.istore 5, 2) := by decide +kernel
theorem dX7_agreed_40 : decode (mc mX7_agreed) 40 = .ok (.iconst 0, 1) := by decide +kernel
theorem dX7_agreed_41 : decode (mc mX7_agreed) 41 = .ok (.istore 6, 2) := by decide +kernel
theorem dX7_agreed_43 : decode (mc mX7_agreed) 43 = .ok (.iconst 0, 1) := by decide +kernel
theorem dX7_agreed_44 : decode (mc mX7_agreed) 44 = .ok (.istore 7, 2) := by decide +kernel
theorem dX7_agreed_46 : decode (mc mX7_agreed) 46 = .ok (.iload 7, 2) := by decide +kernel
theorem dX7_agreed_48 : decode (mc mX7_agreed) 48 = .ok (.aload_n 0, 1) := by decide +kernel
theorem dX7_agreed_49 : decode (mc mX7_agreed) 49 = .ok (.getfield 7, 3) := by decide +kernel
theorem dX7_agreed_52 : decode (mc mX7_agreed) 52 = .ok (.iconst 1, 1) := by decide +kernel
theorem dX7_agreed_53 : decode (mc mX7_agreed) 53 = .ok (.iaload, 1) := by decide +kernel
theorem dX7_agreed_54 : decode (mc mX7_agreed) 54 = .ok (.if_icmp .ge 80, 3) := by decide +kernel
theorem dX7_agreed_57 : decode (mc mX7_agreed) 57 = .ok (.aload_n 0, 1) := by decide +kernel
theorem dX7_agreed_58 : decode (mc mX7_agreed) 58 = .ok (.iload 7, 2) := by decide +kernel
theorem dX7_agreed_60 : decode (mc mX7_agreed) 60 = .ok (.iload 4, 2) := by decide +kernel
theorem dX7_agreed_62 : decode (mc mX7_agreed) 62 = .ok (.invokevirtual 132, 3) := by decide +kernel
theorem dX7_agreed_65 : decode (mc mX7_agreed) 65 = .ok (.ifCond .eq 22, 3) := by decide +kernel
theorem dX7_agreed_68 : decode (mc mX7_agreed) 68 = .ok (.iload 5, 2) := by decide +kernel
theorem dX7_agreed_70 : decode (mc mX7_agreed) 70 = .ok (.aload_n 0, 1) := by decide +kernel
theorem dX7_agreed_71 : decode (mc mX7_agreed) 71 = .ok (.iload 7, 2) := by decide +kernel
theorem dX7_agreed_73 : decode (mc mX7_agreed) 73 = .ok (.iconst 0, 1) := by decide +kernel
theorem dX7_agreed_74 : decode (mc mX7_agreed) 74 = .ok (.invokevirtual 49, 3) := by decide +kernel
theorem dX7_agreed_77 : decode (mc mX7_agreed) 77 = .ok (.ishr, 1) := by decide +kernel
theorem dX7_agreed_78 : decode (mc mX7_agreed) 78 = .ok (.iconst 1, 1) := by decide +kernel
theorem dX7_agreed_79 : decode (mc mX7_agreed) 79 = .ok (.iand, 1) := by decide +kernel
theorem dX7_agreed_80 : decode (mc mX7_agreed) 80 = .ok (.ifCond .ne 7, 3) := by decide +kernel
theorem dX7_agreed_83 : decode (mc mX7_agreed) 83 = .ok (.iconst 1, 1) := by decide +kernel
theorem dX7_agreed_84 : decode (mc mX7_agreed) 84 = .ok (.goto 4, 3) := by decide +kernel
theorem dX7_agreed_87 : decode (mc mX7_agreed) 87 = .ok (.iconst 0, 1) := by decide +kernel
theorem dX7_agreed_88 : decode (mc mX7_agreed) 88 = .ok (.istore 8, 2) := by decide +kernel
theorem dX7_agreed_90 : decode (mc mX7_agreed) 90 = .ok (.iload 5, 2) := by decide +kernel
theorem dX7_agreed_92 : decode (mc mX7_agreed) 92 = .ok (.iload 8, 2) := by decide +kernel
theorem dX7_agreed_94 : decode (mc mX7_agreed) 94 = .ok (.ifCond .eq 15, 3) := by decide +kernel
theorem dX7_agreed_97 : decode (mc mX7_agreed) 97 = .ok (.iconst 1, 1) := by decide +kernel
theorem dX7_agreed_98 : decode (mc mX7_agreed) 98 = .ok (.aload_n 0, 1) := by decide +kernel
theorem dX7_agreed_99 : decode (mc mX7_agreed) 99 = .ok (.iload 7, 2) := by decide +kernel
theorem dX7_agreed_101 : decode (mc mX7_agreed) 101 = .ok (.iconst 0, 1) := by decide +kernel
theorem dX7_agreed_102 : decode (mc mX7_agreed) 102 = .ok (.invokevirtual 49, 3) := by decide +kernel
theorem dX7_agreed_105 : decode (mc mX7_agreed) 105 = .ok (.ishl, 1) := by decide +kernel
theorem dX7_agreed_106 : decode (mc mX7_agreed) 106 = .ok (.goto 4, 3) := by decide +kernel
theorem dX7_agreed_109 : decode (mc mX7_agreed) 109 = .ok (.iconst 0, 1) := by decide +kernel
theorem dX7_agreed_110 : decode (mc mX7_agreed) 110 = .ok (.ior, 1) := by decide +kernel
theorem dX7_agreed_111 : decode (mc mX7_agreed) 111 = .ok (.istore 5, 2) := by decide +kernel
theorem dX7_agreed_113 : decode (mc mX7_agreed) 113 = .ok (.iload 6, 2) := by decide +kernel
theorem dX7_agreed_115 : decode (mc mX7_agreed) 115 = .ok (.iload 8, 2) := by decide +kernel
theorem dX7_agreed_117 : decode (mc mX7_agreed) 117 = .ok (.ifCond .eq 7, 3) := by decide +kernel
theorem dX7_agreed_120 : decode (mc mX7_agreed) 120 = .ok (.iconst 1, 1) := by decide +kernel
theorem dX7_agreed_121 : decode (mc mX7_agreed) 121 = .ok (.goto 4, 3) := by decide +kernel
theorem dX7_agreed_124 : decode (mc mX7_agreed) 124 = .ok (.iconst 0, 1) := by decide +kernel
theorem dX7_agreed_125 : decode (mc mX7_agreed) 125 = .ok (.iadd, 1) := by decide +kernel
theorem dX7_agreed_126 : decode (mc mX7_agreed) 126 = .ok (.istore 6, 2) := by decide +kernel
theorem dX7_agreed_128 : decode (mc mX7_agreed) 128 = .ok (.iinc 7 1, 3) := by decide +kernel
theorem dX7_agreed_131 : decode (mc mX7_agreed) 131 = .ok (.goto (-85), 3) := by decide +kernel
theorem dX7_agreed_134 : decode (mc mX7_agreed) 134 = .ok (.iload 6, 2) := by decide +kernel
theorem dX7_agreed_136 : decode (mc mX7_agreed) 136 = .ok (.iload_n 2, 1) := by decide +kernel
theorem dX7_agreed_137 : decode (mc mX7_agreed) 137 = .ok (.if_icmp .gt 20, 3) := by decide +kernel
theorem dX7_agreed_140 : decode (mc mX7_agreed) 140 = .ok (.iload 6, 2) := by decide +kernel
theorem dX7_agreed_142 : decode (mc mX7_agreed) 142 = .ok (.iload_n 2, 1) := by decide +kernel
theorem dX7_agreed_143 : decode (mc mX7_agreed) 143 = .ok (.if_icmp .ne 20, 3) := by decide +kernel
theorem dX7_agreed_146 : decode (mc mX7_agreed) 146 = .ok (.iload 6, 2) := by decide +kernel
theorem dX7_agreed_148 : decode (mc mX7_agreed) 148 = .ok (.ifCond .le 15, 3) := by decide +kernel
theorem dX7_agreed_151 : decode (mc mX7_agreed) 151 = .ok (.iload 4, 2) := by decide +kernel
theorem dX7_agreed_153 : decode (mc mX7_agreed) 153 = .ok (.iload_n 1, 1) := by decide +kernel
theorem dX7_agreed_154 : decode (mc mX7_agreed) 154 = .ok (.if_icmp .ge 9, 3) := by decide +kernel
theorem dX7_agreed_157 : decode (mc mX7_agreed) 157 = .ok (.iload 4, 2) := by decide +kernel
theorem dX7_agreed_159 : decode (mc mX7_agreed) 159 = .ok (.istore_n 1, 1) := by decide +kernel
theorem dX7_agreed_160 : decode (mc mX7_agreed) 160 = .ok (.iload 6, 2) := by decide +kernel
theorem dX7_agreed_162 : decode (mc mX7_agreed) 162 = .ok (.istore_n 2, 1) := by decide +kernel
theorem dX7_agreed_163 : decode (mc mX7_agreed) 163 = .ok (.iinc 3 1, 3) := by decide +kernel
theorem dX7_agreed_166 : decode (mc mX7_agreed) 166 = .ok (.goto (-147), 3) := by decide +kernel
theorem dX7_agreed_169 : decode (mc mX7_agreed) 169 = .ok (.iload_n 1, 1) := by decide +kernel
theorem dX7_agreed_170 : decode (mc mX7_agreed) 170 = .ok (.ireturn, 1) := by decide +kernel
theorem dX7_found_0 : decode (mc mX7_found) 0 = .ok (.ldc 121, 2) := by decide +kernel
theorem dX7_found_2 : decode (mc mX7_found) 2 = .ok (.istore_n 1, 1) := by decide +kernel
theorem dX7_found_3 : decode (mc mX7_found) 3 = .ok (.iconst 0, 1) := by decide +kernel
theorem dX7_found_4 : decode (mc mX7_found) 4 = .ok (.istore_n 2, 1) := by decide +kernel
theorem dX7_found_5 : decode (mc mX7_found) 5 = .ok (.iconst 0, 1) := by decide +kernel
theorem dX7_found_6 : decode (mc mX7_found) 6 = .ok (.istore_n 3, 1) := by decide +kernel
theorem dX7_found_7 : decode (mc mX7_found) 7 = .ok (.iload_n 3, 1) := by decide +kernel
theorem dX7_found_8 : decode (mc mX7_found) 8 = .ok (.aload_n 0, 1) := by decide +kernel
theorem dX7_found_9 : decode (mc mX7_found) 9 = .ok (.getfield 7, 3) := by decide +kernel
theorem dX7_found_12 : decode (mc mX7_found) 12 = .ok (.iconst 1, 1) := by decide +kernel
theorem dX7_found_13 : decode (mc mX7_found) 13 = .ok (.iaload, 1) := by decide +kernel
theorem dX7_found_14 : decode (mc mX7_found) 14 = .ok (.if_icmp .ge 91, 3) := by decide +kernel
theorem dX7_found_17 : decode (mc mX7_found) 17 = .ok (.aload_n 0, 1) := by decide +kernel
theorem dX7_found_18 : decode (mc mX7_found) 18 = .ok (.iload_n 3, 1) := by decide +kernel
theorem dX7_found_19 : decode (mc mX7_found) 19 = .ok (.iconst 4, 1) := by decide +kernel
theorem dX7_found_20 : decode (mc mX7_found) 20 = .ok (.invokevirtual 49, 3) := by decide +kernel
theorem dX7_found_23 : decode (mc mX7_found) 23 = .ok (.iconst 1, 1) := by decide +kernel
theorem dX7_found_24 : decode (mc mX7_found) 24 = .ok (.if_icmp .ne 11, 3) := by decide +kernel
theorem dX7_found_27 : decode (mc mX7_found) 27 = .ok (.aload_n 0, 1) := by decide +kernel
theorem dX7_found_28 : decode (mc mX7_found) 28 = .ok (.iload_n 3, 1) := by decide +kernel
theorem dX7_found_29 : decode (mc mX7_found) 29 = .ok (.invokevirtual 129, 3) := by decide +kernel
theorem dX7_found_32 : decode (mc mX7_found) 32 = .ok (.goto 4, 3) := by decide +kernel
theorem dX7_found_35 : decode (mc mX7_found) 35 = .ok (.iconst 0, 1) := by decide +kernel
theorem dX7_found_36 : decode (mc mX7_found) 36 = .ok (.istore 4, 2) := by decide +kernel
theorem dX7_found_38 : decode (mc mX7_found) 38 = .ok (.iload_n 1, 1) := by decide +kernel
theorem dX7_found_39 : decode (mc mX7_found) 39 = .ok (.ldc 121, 2) := by decide +kernel
theorem dX7_found_41 : decode (mc mX7_found) 41 = .ok (.if_icmp .eq 30, 3) := by decide +kernel
theorem dX7_found_44 : decode (mc mX7_found) 44 = .ok (.iload 4, 2) := by decide +kernel
theorem dX7_found_46 : decode (mc mX7_found) 46 = .ok (.iload_n 2, 1) := by decide +kernel
theorem dX7_found_47 : decode (mc mX7_found) 47 = .ok (.if_icmp .gt 24, 3) := by decide +kernel
theorem dX7_found_50 : decode (mc mX7_found) 50 = .ok (.iload 4, 2) := by decide +kernel
theorem dX7_found_52 : decode (mc mX7_found) 52 = .ok (.iload_n 2, 1) := by decide +kernel
theorem dX7_found_53 : decode (mc mX7_found) 53 = .ok (.if_icmp .ne 22, 3) := by decide +kernel
theorem dX7_found_56 : decode (mc mX7_found) 56 = .ok (.aload_n 0, 1) := by decide +kernel
theorem dX7_found_57 : decode (mc mX7_found) 57 = .ok (.iload_n 3, 1) := by decide +kernel
theorem dX7_found_58 : decode (mc mX7_found) 58 = .ok (.iconst 5, 1) := by decide +kernel
theorem dX7_found_59 : decode (mc mX7_found) 59 = .ok (.invokevirtual 49, 3) := by decide +kernel
theorem dX7_found_62 : decode (mc mX7_found) 62 = .ok (.aload_n 0, 1) := by decide +kernel
theorem dX7_found_63 : decode (mc mX7_found) 63 = .ok (.iload_n 1, 1) := by decide +kernel
theorem dX7_found_64 : decode (mc mX7_found) 64 = .ok (.iconst 5, 1) := by decide +kernel
theorem dX7_found_65 : decode (mc mX7_found) 65 = .ok (.invokevirtual 49, 3) := by decide +kernel
theorem dX7_found_68 : decode (mc mX7_found) 68 = .ok (.if_icmp .le 7, 3) := by decide +kernel
theorem dX7_found_71 : decode (mc mX7_found) 71 = .ok (.iconst 1, 1) := by decide +kernel
theorem dX7_found_72 : decode (mc mX7_found) 72 = .ok (.goto 4, 3) := by decide +kernel
theorem dX7_found_75 : decode (mc mX7_found) 75 = .ok (.iconst 0, 1) := by decide +kernel
theorem dX7_found_76 : decode (mc mX7_found) 76 = .ok (.istore 5, 2) := by decide +kernel
theorem dX7_found_78 : decode (mc mX7_found) 78 = .ok (.iload 4, 2) := by decide +kernel
theorem dX7_found_80 : decode (mc mX7_found) 80 = .ok (.aload_n 0, 1) := by decide +kernel
theorem dX7_found_81 : decode (mc mX7_found) 81 = .ok (.getfield 7, 3) := by decide +kernel
theorem dX7_found_84 : decode (mc mX7_found) 84 = .ok (.iconst 5, 1) := by decide +kernel
theorem dX7_found_85 : decode (mc mX7_found) 85 = .ok (.iaload, 1) := by decide +kernel
theorem dX7_found_86 : decode (mc mX7_found) 86 = .ok (.if_icmp .lt 13, 3) := by decide +kernel
theorem dX7_found_89 : decode (mc mX7_found) 89 = .ok (.iload 5, 2) := by decide +kernel
theorem dX7_found_91 : decode (mc mX7_found) 91 = .ok (.ifCond .eq 8, 3) := by decide +kernel
theorem dX7_found_94 : decode (mc mX7_found) 94 = .ok (.iload_n 3, 1) := by decide +kernel
theorem dX7_found_95 : decode (mc mX7_found) 95 = .ok (.istore_n 1, 1) := by decide +kernel
theorem dX7_found_96 : decode (mc mX7_found) 96 = .ok (.iload 4, 2) := by decide +kernel
theorem dX7_found_98 : decode (mc mX7_found) 98 = .ok (.istore_n 2, 1) := by decide +kernel
theorem dX7_found_99 : decode (mc mX7_found) 99 = .ok (.iinc 3 1, 3) := by decide +kernel
theorem dX7_found_102 : decode (mc mX7_found) 102 = .ok (.goto (-95), 3) := by decide +kernel
theorem dX7_found_105 : decode (mc mX7_found) 105 = .ok (.iload_n 1, 1) := by decide +kernel
theorem dX7_found_106 : decode (mc mX7_found) 106 = .ok (.ireturn, 1) := by decide +kernel
theorem dX7_match_0 : decode (mc mX7_match) 0 = .ok (.aload_n 0, 1) := by decide +kernel
theorem dX7_match_1 : decode (mc mX7_match) 1 = .ok (.invokevirtual 125, 3) := by decide +kernel
theorem dX7_match_4 : decode (mc mX7_match) 4 = .ok (.ldc 121, 2) := by decide +kernel
theorem dX7_match_6 : decode (mc mX7_match) 6 = .ok (.if_icmp .ne 10, 3) := by decide +kernel
theorem dX7_match_9 : decode (mc mX7_match) 9 = .ok (.aload_n 0, 1) := by decide +kernel
theorem dX7_match_10 : decode (mc mX7_match) 10 = .ok (.invokevirtual 135, 3) := by decide +kernel
theorem dX7_match_13 : decode (mc mX7_match) 13 = .ok (.goto 5, 3) := by decide +kernel
theorem dX7_match_16 : decode (mc mX7_match) 16 = .ok (.ldc 128, 2) := by decide +kernel
theorem dX7_match_18 : decode (mc mX7_match) 18 = .ok (.ireturn, 1) := by decide +kernel
theorem dX7_alike_0 : decode (mc mX7_alike) 0 = .ok (.aload_n 0, 1) := by decide +kernel
theorem dX7_alike_1 : decode (mc mX7_alike) 1 = .ok (.iload_n 1, 1) := by decide +kernel
theorem dX7_alike_2 : decode (mc mX7_alike) 2 = .ok (.invokevirtual 122, 3) := by decide +kernel
theorem dX7_alike_5 : decode (mc mX7_alike) 5 = .ok (.ifCond .ne 6, 3) := by decide +kernel
theorem dX7_alike_8 : decode (mc mX7_alike) 8 = .ok (.ldc 87, 2) := by decide +kernel
theorem dX7_alike_10 : decode (mc mX7_alike) 10 = .ok (.ireturn, 1) := by decide +kernel
theorem dX7_alike_11 : decode (mc mX7_alike) 11 = .ok (.aload_n 0, 1) := by decide +kernel
theorem dX7_alike_12 : decode (mc mX7_alike) 12 = .ok (.invokevirtual 125, 3) := by decide +kernel
theorem dX7_alike_15 : decode (mc mX7_alike) 15 = .ok (.ldc 121, 2) := by decide +kernel
theorem dX7_alike_17 : decode (mc mX7_alike) 17 = .ok (.if_icmp .ne 11, 3) := by decide +kernel
theorem dX7_alike_20 : decode (mc mX7_alike) 20 = .ok (.aload_n 0, 1) := by decide +kernel
theorem dX7_alike_21 : decode (mc mX7_alike) 21 = .ok (.iload_n 1, 1) := by decide +kernel
theorem dX7_alike_22 : decode (mc mX7_alike) 22 = .ok (.invokevirtual 129, 3) := by decide +kernel
theorem dX7_alike_25 : decode (mc mX7_alike) 25 = .ok (.goto 5, 3) := by decide +kernel
theorem dX7_alike_28 : decode (mc mX7_alike) 28 = .ok (.ldc 128, 2) := by decide +kernel
theorem dX7_alike_30 : decode (mc mX7_alike) 30 = .ok (.ireturn, 1) := by decide +kernel
theorem dX7_feeOf_0 : decode (mc mX7_feeOf) 0 = .ok (.aload_n 0, 1) := by decide +kernel
theorem dX7_feeOf_1 : decode (mc mX7_feeOf) 1 = .ok (.iload_n 1, 1) := by decide +kernel
theorem dX7_feeOf_2 : decode (mc mX7_feeOf) 2 = .ok (.iconst 0, 1) := by decide +kernel
theorem dX7_feeOf_3 : decode (mc mX7_feeOf) 3 = .ok (.invokevirtual 49, 3) := by decide +kernel
theorem dX7_feeOf_6 : decode (mc mX7_feeOf) 6 = .ok (.iload_n 3, 1) := by decide +kernel
theorem dX7_feeOf_7 : decode (mc mX7_feeOf) 7 = .ok (.if_icmp .ne 7, 3) := by decide +kernel
theorem dX7_feeOf_10 : decode (mc mX7_feeOf) 10 = .ok (.iconst 0, 1) := by decide +kernel
theorem dX7_feeOf_11 : decode (mc mX7_feeOf) 11 = .ok (.goto 18, 3) := by decide +kernel
theorem dX7_feeOf_14 : decode (mc mX7_feeOf) 14 = .ok (.aload_n 0, 1) := by decide +kernel
theorem dX7_feeOf_15 : decode (mc mX7_feeOf) 15 = .ok (.aload_n 0, 1) := by decide +kernel
theorem dX7_feeOf_16 : decode (mc mX7_feeOf) 16 = .ok (.iload_n 1, 1) := by decide +kernel
theorem dX7_feeOf_17 : decode (mc mX7_feeOf) 17 = .ok (.iconst 0, 1) := by decide +kernel
theorem dX7_feeOf_18 : decode (mc mX7_feeOf) 18 = .ok (.invokevirtual 49, 3) := by decide +kernel
theorem dX7_feeOf_21 : decode (mc mX7_feeOf) 21 = .ok (.invokevirtual 89, 3) := by decide +kernel
theorem dX7_feeOf_24 : decode (mc mX7_feeOf) 24 = .ok (.iload_n 2, 1) := by decide +kernel
theorem dX7_feeOf_25 : decode (mc mX7_feeOf) 25 = .ok (.imul, 1) := by decide +kernel
theorem dX7_feeOf_26 : decode (mc mX7_feeOf) 26 = .ok (.bipush 100, 2) := by decide +kernel
theorem dX7_feeOf_28 : decode (mc mX7_feeOf) 28 = .ok (.idiv, 1) := by decide +kernel
theorem dX7_feeOf_29 : decode (mc mX7_feeOf) 29 = .ok (.ireturn, 1) := by decide +kernel
theorem dX7_fee_0 : decode (mc mX7_fee) 0 = .ok (.aload_n 0, 1) := by decide +kernel
theorem dX7_fee_1 : decode (mc mX7_fee) 1 = .ok (.iload_n 1, 1) := by decide +kernel
theorem dX7_fee_2 : decode (mc mX7_fee) 2 = .ok (.invokevirtual 83, 3) := by decide +kernel
theorem dX7_fee_5 : decode (mc mX7_fee) 5 = .ok (.ifCond .ne 6, 3) := by decide +kernel
theorem dX7_fee_8 : decode (mc mX7_fee) 8 = .ok (.ldc 87, 2) := by decide +kernel
theorem dX7_fee_10 : decode (mc mX7_fee) 10 = .ok (.ireturn, 1) := by decide +kernel
theorem dX7_fee_11 : decode (mc mX7_fee) 11 = .ok (.aload_n 0, 1) := by decide +kernel
theorem dX7_fee_12 : decode (mc mX7_fee) 12 = .ok (.invokevirtual 125, 3) := by decide +kernel
theorem dX7_fee_15 : decode (mc mX7_fee) 15 = .ok (.ldc 121, 2) := by decide +kernel
theorem dX7_fee_17 : decode (mc mX7_fee) 17 = .ok (.if_icmp .eq 6, 3) := by decide +kernel
theorem dX7_fee_20 : decode (mc mX7_fee) 20 = .ok (.ldc 128, 2) := by decide +kernel
theorem dX7_fee_22 : decode (mc mX7_fee) 22 = .ok (.ireturn, 1) := by decide +kernel
theorem dX7_fee_23 : decode (mc mX7_fee) 23 = .ok (.aload_n 0, 1) := by decide +kernel
theorem dX7_fee_24 : decode (mc mX7_fee) 24 = .ok (.invokevirtual 135, 3) := by decide +kernel
theorem dX7_fee_27 : decode (mc mX7_fee) 27 = .ok (.istore_n 2, 1) := by decide +kernel
theorem dX7_fee_28 : decode (mc mX7_fee) 28 = .ok (.iload_n 2, 1) := by decide +kernel
theorem dX7_fee_29 : decode (mc mX7_fee) 29 = .ok (.ldc 121, 2) := by decide +kernel
theorem dX7_fee_31 : decode (mc mX7_fee) 31 = .ok (.if_icmp .ne 8, 3) := by decide +kernel
theorem dX7_fee_34 : decode (mc mX7_fee) 34 = .ok (.ldc 121, 2) := by decide +kernel
theorem dX7_fee_36 : decode (mc mX7_fee) 36 = .ok (.goto 14, 3) := by decide +kernel
theorem dX7_fee_39 : decode (mc mX7_fee) 39 = .ok (.aload_n 0, 1) := by decide +kernel
theorem dX7_fee_40 : decode (mc mX7_fee) 40 = .ok (.iload_n 2, 1) := by decide +kernel
theorem dX7_fee_41 : decode (mc mX7_fee) 41 = .ok (.aload_n 0, 1) := by decide +kernel
theorem dX7_fee_42 : decode (mc mX7_fee) 42 = .ok (.iload_n 2, 1) := by decide +kernel
theorem dX7_fee_43 : decode (mc mX7_fee) 43 = .ok (.invokevirtual 129, 3) := by decide +kernel
theorem dX7_fee_46 : decode (mc mX7_fee) 46 = .ok (.iload_n 1, 1) := by decide +kernel
theorem dX7_fee_47 : decode (mc mX7_fee) 47 = .ok (.invokevirtual 138, 3) := by decide +kernel
theorem dX7_fee_50 : decode (mc mX7_fee) 50 = .ok (.ireturn, 1) := by decide +kernel
theorem dX7_use_0 : decode (mc mX7_use) 0 = .ok (.aload_n 0, 1) := by decide +kernel
theorem dX7_use_1 : decode (mc mX7_use) 1 = .ok (.iload_n 1, 1) := by decide +kernel
theorem dX7_use_2 : decode (mc mX7_use) 2 = .ok (.invokevirtual 83, 3) := by decide +kernel
theorem dX7_use_5 : decode (mc mX7_use) 5 = .ok (.ifCond .ne 6, 3) := by decide +kernel
theorem dX7_use_8 : decode (mc mX7_use) 8 = .ok (.ldc 87, 2) := by decide +kernel
theorem dX7_use_10 : decode (mc mX7_use) 10 = .ok (.ireturn, 1) := by decide +kernel
theorem dX7_use_11 : decode (mc mX7_use) 11 = .ok (.aload_n 0, 1) := by decide +kernel
theorem dX7_use_12 : decode (mc mX7_use) 12 = .ok (.invokevirtual 125, 3) := by decide +kernel
theorem dX7_use_15 : decode (mc mX7_use) 15 = .ok (.ldc 121, 2) := by decide +kernel
theorem dX7_use_17 : decode (mc mX7_use) 17 = .ok (.if_icmp .eq 6, 3) := by decide +kernel
theorem dX7_use_20 : decode (mc mX7_use) 20 = .ok (.ldc 128, 2) := by decide +kernel
theorem dX7_use_22 : decode (mc mX7_use) 22 = .ok (.ireturn, 1) := by decide +kernel
theorem dX7_use_23 : decode (mc mX7_use) 23 = .ok (.aload_n 0, 1) := by decide +kernel
theorem dX7_use_24 : decode (mc mX7_use) 24 = .ok (.getfield 7, 3) := by decide +kernel
theorem dX7_use_27 : decode (mc mX7_use) 27 = .ok (.iconst 2, 1) := by decide +kernel
theorem dX7_use_28 : decode (mc mX7_use) 28 = .ok (.iaload, 1) := by decide +kernel
theorem dX7_use_29 : decode (mc mX7_use) 29 = .ok (.bipush 24, 2) := by decide +kernel
theorem dX7_use_31 : decode (mc mX7_use) 31 = .ok (.if_icmp .ne 6, 3) := by decide +kernel
theorem dX7_use_34 : decode (mc mX7_use) 34 = .ok (.ldc 79, 2) := by decide +kernel
theorem dX7_use_36 : decode (mc mX7_use) 36 = .ok (.ireturn, 1) := by decide +kernel
theorem dX7_use_37 : decode (mc mX7_use) 37 = .ok (.aload_n 0, 1) := by decide +kernel
theorem dX7_use_38 : decode (mc mX7_use) 38 = .ok (.invokevirtual 80, 3) := by decide +kernel
theorem dX7_use_41 : decode (mc mX7_use) 41 = .ok (.aload_n 0, 1) := by decide +kernel
theorem dX7_use_42 : decode (mc mX7_use) 42 = .ok (.invokevirtual 135, 3) := by decide +kernel
theorem dX7_use_45 : decode (mc mX7_use) 45 = .ok (.istore_n 2, 1) := by decide +kernel
theorem dX7_use_46 : decode (mc mX7_use) 46 = .ok (.iload_n 2, 1) := by decide +kernel
theorem dX7_use_47 : decode (mc mX7_use) 47 = .ok (.ldc 121, 2) := by decide +kernel
theorem dX7_use_49 : decode (mc mX7_use) 49 = .ok (.if_icmp .ne 6, 3) := by decide +kernel
theorem dX7_use_52 : decode (mc mX7_use) 52 = .ok (.ldc 121, 2) := by decide +kernel
theorem dX7_use_54 : decode (mc mX7_use) 54 = .ok (.ireturn, 1) := by decide +kernel
theorem dX7_use_55 : decode (mc mX7_use) 55 = .ok (.aload_n 0, 1) := by decide +kernel
theorem dX7_use_56 : decode (mc mX7_use) 56 = .ok (.iload_n 2, 1) := by decide +kernel
theorem dX7_use_57 : decode (mc mX7_use) 57 = .ok (.invokevirtual 129, 3) := by decide +kernel
theorem dX7_use_60 : decode (mc mX7_use) 60 = .ok (.istore_n 3, 1) := by decide +kernel
theorem dX7_use_61 : decode (mc mX7_use) 61 = .ok (.aload_n 0, 1) := by decide +kernel
theorem dX7_use_62 : decode (mc mX7_use) 62 = .ok (.iload_n 2, 1) := by decide +kernel
theorem dX7_use_63 : decode (mc mX7_use) 63 = .ok (.iload_n 3, 1) := by decide +kernel
theorem dX7_use_64 : decode (mc mX7_use) 64 = .ok (.iload_n 1, 1) := by decide +kernel
theorem dX7_use_65 : decode (mc mX7_use) 65 = .ok (.invokevirtual 138, 3) := by decide +kernel
theorem dX7_use_68 : decode (mc mX7_use) 68 = .ok (.istore 4, 2) := by decide +kernel
theorem dX7_use_70 : decode (mc mX7_use) 70 = .ok (.sipush 342, 3) := by decide +kernel
theorem dX7_use_73 : decode (mc mX7_use) 73 = .ok (.bipush 13, 2) := by decide +kernel
theorem dX7_use_75 : decode (mc mX7_use) 75 = .ok (.aload_n 0, 1) := by decide +kernel
theorem dX7_use_76 : decode (mc mX7_use) 76 = .ok (.getfield 7, 3) := by decide +kernel
theorem dX7_use_79 : decode (mc mX7_use) 79 = .ok (.iconst 2, 1) := by decide +kernel
theorem dX7_use_80 : decode (mc mX7_use) 80 = .ok (.iaload, 1) := by decide +kernel
theorem dX7_use_81 : decode (mc mX7_use) 81 = .ok (.imul, 1) := by decide +kernel
theorem dX7_use_82 : decode (mc mX7_use) 82 = .ok (.iadd, 1) := by decide +kernel
theorem dX7_use_83 : decode (mc mX7_use) 83 = .ok (.istore 5, 2) := by decide +kernel
theorem dX7_use_85 : decode (mc mX7_use) 85 = .ok (.iload 4, 2) := by decide +kernel
theorem dX7_use_87 : decode (mc mX7_use) 87 = .ok (.aload_n 0, 1) := by decide +kernel
theorem dX7_use_88 : decode (mc mX7_use) 88 = .ok (.getfield 7, 3) := by decide +kernel
theorem dX7_use_91 : decode (mc mX7_use) 91 = .ok (.bipush 6, 2) := by decide +kernel
theorem dX7_use_93 : decode (mc mX7_use) 93 = .ok (.iaload, 1) := by decide +kernel
theorem dX7_use_94 : decode (mc mX7_use) 94 = .ok (.imul, 1) := by decide +kernel
theorem dX7_use_95 : decode (mc mX7_use) 95 = .ok (.bipush 100, 2) := by decide +kernel
theorem dX7_use_97 : decode (mc mX7_use) 97 = .ok (.idiv, 1) := by decide +kernel
theorem dX7_use_98 : decode (mc mX7_use) 98 = .ok (.istore 6, 2) := by decide +kernel
theorem dX7_use_100 : decode (mc mX7_use) 100 = .ok (.aload_n 0, 1) := by decide +kernel
theorem dX7_use_101 : decode (mc mX7_use) 101 = .ok (.getfield 7, 3) := by decide +kernel
theorem dX7_use_104 : decode (mc mX7_use) 104 = .ok (.iload 5, 2) := by decide +kernel
theorem dX7_use_106 : decode (mc mX7_use) 106 = .ok (.iload_n 1, 1) := by decide +kernel
theorem dX7_use_107 : decode (mc mX7_use) 107 = .ok (.iastore, 1) := by decide +kernel
theorem dX7_use_108 : decode (mc mX7_use) 108 = .ok (.aload_n 0, 1) := by decide +kernel
theorem dX7_use_109 : decode (mc mX7_use) 109 = .ok (.getfield 7, 3) := by decide +kernel
theorem dX7_use_112 : decode (mc mX7_use) 112 = .ok (.iload 5, 2) := by decide +kernel
theorem dX7_use_114 : decode (mc mX7_use) 114 = .ok (.iconst 1, 1) := by decide +kernel
theorem dX7_use_115 : decode (mc mX7_use) 115 = .ok (.iadd, 1) := by decide +kernel
theorem dX7_use_116 : decode (mc mX7_use) 116 = .ok (.iload_n 2, 1) := by decide +kernel
theorem dX7_use_117 : decode (mc mX7_use) 117 = .ok (.iastore, 1) := by decide +kernel
theorem dX7_use_118 : decode (mc mX7_use) 118 = .ok (.aload_n 0, 1) := by decide +kernel
theorem dX7_use_119 : decode (mc mX7_use) 119 = .ok (.getfield 7, 3) := by decide +kernel
theorem dX7_use_122 : decode (mc mX7_use) 122 = .ok (.iload 5, 2) := by decide +kernel
theorem dX7_use_124 : decode (mc mX7_use) 124 = .ok (.iconst 2, 1) := by decide +kernel
theorem dX7_use_125 : decode (mc mX7_use) 125 = .ok (.iadd, 1) := by decide +kernel
theorem dX7_use_126 : decode (mc mX7_use) 126 = .ok (.iload_n 3, 1) := by decide +kernel
theorem dX7_use_127 : decode (mc mX7_use) 127 = .ok (.iastore, 1) := by decide +kernel
theorem dX7_use_128 : decode (mc mX7_use) 128 = .ok (.aload_n 0, 1) := by decide +kernel
theorem dX7_use_129 : decode (mc mX7_use) 129 = .ok (.getfield 7, 3) := by decide +kernel
theorem dX7_use_132 : decode (mc mX7_use) 132 = .ok (.iload 5, 2) := by decide +kernel
theorem dX7_use_134 : decode (mc mX7_use) 134 = .ok (.iconst 3, 1) := by decide +kernel
theorem dX7_use_135 : decode (mc mX7_use) 135 = .ok (.iadd, 1) := by decide +kernel
theorem dX7_use_136 : decode (mc mX7_use) 136 = .ok (.iload 4, 2) := by decide +kernel
theorem dX7_use_138 : decode (mc mX7_use) 138 = .ok (.iastore, 1) := by decide +kernel
theorem dX7_use_139 : decode (mc mX7_use) 139 = .ok (.aload_n 0, 1) := by decide +kernel
theorem dX7_use_140 : decode (mc mX7_use) 140 = .ok (.getfield 7, 3) := by decide +kernel
theorem dX7_use_143 : decode (mc mX7_use) 143 = .ok (.iload 5, 2) := by decide +kernel
theorem dX7_use_145 : decode (mc mX7_use) 145 = .ok (.iconst 4, 1) := by decide +kernel
theorem dX7_use_146 : decode (mc mX7_use) 146 = .ok (.iadd, 1) := by decide +kernel
theorem dX7_use_147 : decode (mc mX7_use) 147 = .ok (.aload_n 0, 1) := by decide +kernel
theorem dX7_use_148 : decode (mc mX7_use) 148 = .ok (.getfield 7, 3) := by decide +kernel
theorem dX7_use_151 : decode (mc mX7_use) 151 = .ok (.iconst 3, 1) := by decide +kernel
theorem dX7_use_152 : decode (mc mX7_use) 152 = .ok (.iaload, 1) := by decide +kernel
theorem dX7_use_153 : decode (mc mX7_use) 153 = .ok (.iastore, 1) := by decide +kernel
theorem dX7_use_154 : decode (mc mX7_use) 154 = .ok (.aload_n 0, 1) := by decide +kernel
theorem dX7_use_155 : decode (mc mX7_use) 155 = .ok (.getfield 7, 3) := by decide +kernel
theorem dX7_use_158 : decode (mc mX7_use) 158 = .ok (.iload 5, 2) := by decide +kernel
theorem dX7_use_160 : decode (mc mX7_use) 160 = .ok (.iconst 5, 1) := by decide +kernel
theorem dX7_use_161 : decode (mc mX7_use) 161 = .ok (.iadd, 1) := by decide +kernel
theorem dX7_use_162 : decode (mc mX7_use) 162 = .ok (.iconst 0, 1) := by decide +kernel
theorem dX7_use_163 : decode (mc mX7_use) 163 = .ok (.iastore, 1) := by decide +kernel
theorem dX7_use_164 : decode (mc mX7_use) 164 = .ok (.aload_n 0, 1) := by decide +kernel
theorem dX7_use_165 : decode (mc mX7_use) 165 = .ok (.getfield 7, 3) := by decide +kernel
theorem dX7_use_168 : decode (mc mX7_use) 168 = .ok (.iload 5, 2) := by decide +kernel
theorem dX7_use_170 : decode (mc mX7_use) 170 = .ok (.bipush 6, 2) := by decide +kernel
theorem dX7_use_172 : decode (mc mX7_use) 172 = .ok (.iadd, 1) := by decide +kernel
theorem dX7_use_173 : decode (mc mX7_use) 173 = .ok (.iload 6, 2) := by decide +kernel
theorem dX7_use_175 : decode (mc mX7_use) 175 = .ok (.iastore, 1) := by decide +kernel
theorem dX7_use_176 : decode (mc mX7_use) 176 = .ok (.iconst 0, 1) := by decide +kernel
theorem dX7_use_177 : decode (mc mX7_use) 177 = .ok (.istore 7, 2) := by decide +kernel
theorem dX7_use_179 : decode (mc mX7_use) 179 = .ok (.iload 7, 2) := by decide +kernel
theorem dX7_use_181 : decode (mc mX7_use) 181 = .ok (.bipush 6, 2) := by decide +kernel
theorem dX7_use_183 : decode (mc mX7_use) 183 = .ok (.if_icmp .ge 23, 3) := by decide +kernel
theorem dX7_use_186 : decode (mc mX7_use) 186 = .ok (.aload_n 0, 1) := by decide +kernel
theorem dX7_use_187 : decode (mc mX7_use) 187 = .ok (.getfield 7, 3) := by decide +kernel
theorem dX7_use_190 : decode (mc mX7_use) 190 = .ok (.iload 5, 2) := by decide +kernel
theorem dX7_use_192 : decode (mc mX7_use) 192 = .ok (.bipush 7, 2) := by decide +kernel
theorem dX7_use_194 : decode (mc mX7_use) 194 = .ok (.iadd, 1) := by decide +kernel
theorem dX7_use_195 : decode (mc mX7_use) 195 = .ok (.iload 7, 2) := by decide +kernel
theorem dX7_use_197 : decode (mc mX7_use) 197 = .ok (.iadd, 1) := by decide +kernel
theorem dX7_use_198 : decode (mc mX7_use) 198 = .ok (.iconst 0, 1) := by decide +kernel
theorem dX7_use_199 : decode (mc mX7_use) 199 = .ok (.iastore, 1) := by decide +kernel
theorem dX7_use_200 : decode (mc mX7_use) 200 = .ok (.iinc 7 1, 3) := by decide +kernel
theorem dX7_use_203 : decode (mc mX7_use) 203 = .ok (.goto (-24), 3) := by decide +kernel
theorem dX7_use_206 : decode (mc mX7_use) 206 = .ok (.iload 4, 2) := by decide +kernel
theorem dX7_use_208 : decode (mc mX7_use) 208 = .ok (.iload 6, 2) := by decide +kernel
theorem dX7_use_210 : decode (mc mX7_use) 210 = .ok (.isub, 1) := by decide +kernel
theorem dX7_use_211 : decode (mc mX7_use) 211 = .ok (.istore 7, 2) := by decide +kernel
theorem dX7_use_213 : decode (mc mX7_use) 213 = .ok (.iload_n 2, 1) := by decide +kernel
theorem dX7_use_214 : decode (mc mX7_use) 214 = .ok (.istore 8, 2) := by decide +kernel
theorem dX7_use_216 : decode (mc mX7_use) 216 = .ok (.iload 8, 2) := by decide +kernel
theorem dX7_use_218 : decode (mc mX7_use) 218 = .ok (.ldc 121, 2) := by decide +kernel
theorem dX7_use_220 : decode (mc mX7_use) 220 = .ok (.if_icmp .eq 76, 3) := by decide +kernel
theorem dX7_use_223 : decode (mc mX7_use) 223 = .ok (.aload_n 0, 1) := by decide +kernel
theorem dX7_use_224 : decode (mc mX7_use) 224 = .ok (.iload 8, 2) := by decide +kernel
theorem dX7_use_226 : decode (mc mX7_use) 226 = .ok (.iconst 3, 1) := by decide +kernel
theorem dX7_use_227 : decode (mc mX7_use) 227 = .ok (.invokevirtual 49, 3) := by decide +kernel
theorem dX7_use_230 : decode (mc mX7_use) 230 = .ok (.ldc 121, 2) := by decide +kernel
theorem dX7_use_232 : decode (mc mX7_use) 232 = .ok (.if_icmp .ne 7, 3) := by decide +kernel
theorem dX7_use_235 : decode (mc mX7_use) 235 = .ok (.iconst 0, 1) := by decide +kernel
theorem dX7_use_236 : decode (mc mX7_use) 236 = .ok (.goto 16, 3) := by decide +kernel
theorem dX7_use_239 : decode (mc mX7_use) 239 = .ok (.iload 7, 2) := by decide +kernel
theorem dX7_use_241 : decode (mc mX7_use) 241 = .ok (.aload_n 0, 1) := by decide +kernel
theorem dX7_use_242 : decode (mc mX7_use) 242 = .ok (.getfield 7, 3) := by decide +kernel
theorem dX7_use_245 : decode (mc mX7_use) 245 = .ok (.bipush 7, 2) := by decide +kernel
theorem dX7_use_247 : decode (mc mX7_use) 247 = .ok (.iaload, 1) := by decide +kernel
theorem dX7_use_248 : decode (mc mX7_use) 248 = .ok (.imul, 1) := by decide +kernel
theorem dX7_use_249 : decode (mc mX7_use) 249 = .ok (.bipush 100, 2) := by decide +kernel
theorem dX7_use_251 : decode (mc mX7_use) 251 = .ok (.idiv, 1) := by decide +kernel
theorem dX7_use_252 : decode (mc mX7_use) 252 = .ok (.istore 9, 2) := by decide +kernel
theorem dX7_use_254 : decode (mc mX7_use) 254 = .ok (.aload_n 0, 1) := by decide +kernel
theorem dX7_use_255 : decode (mc mX7_use) 255 = .ok (.getfield 7, 3) := by decide +kernel
theorem dX7_use_258 : decode (mc mX7_use) 258 = .ok (.iload 5, 2) := by decide +kernel
theorem dX7_use_260 : decode (mc mX7_use) 260 = .ok (.bipush 7, 2) := by decide +kernel
theorem dX7_use_262 : decode (mc mX7_use) 262 = .ok (.iadd, 1) := by decide +kernel
theorem dX7_use_263 : decode (mc mX7_use) 263 = .ok (.aload_n 0, 1) := by decide +kernel
theorem dX7_use_264 : decode (mc mX7_use) 264 = .ok (.iload 8, 2) := by decide +kernel
theorem dX7_use_266 : decode (mc mX7_use) 266 = .ok (.iconst 0, 1) := by decide +kernel
theorem dX7_use_267 : decode (mc mX7_use) 267 = .ok (.invokevirtual 49, 3) := by decide +kernel
theorem dX7_use_270 : decode (mc mX7_use) 270 = .ok (.iadd, 1) := by decide +kernel
theorem dX7_use_271 : decode (mc mX7_use) 271 = .ok (.dup2, 1) := by decide +kernel
theorem dX7_use_272 : decode (mc mX7_use) 272 = .ok (.iaload, 1) := by decide +kernel
theorem dX7_use_273 : decode (mc mX7_use) 273 = .ok (.iload 7, 2) := by decide +kernel
theorem dX7_use_275 : decode (mc mX7_use) 275 = .ok (.iload 9, 2) := by decide +kernel
theorem dX7_use_277 : decode (mc mX7_use) 277 = .ok (.isub, 1) := by decide +kernel
theorem dX7_use_278 : decode (mc mX7_use) 278 = .ok (.iadd, 1) := by decide +kernel
theorem dX7_use_279 : decode (mc mX7_use) 279 = .ok (.iastore, 1) := by decide +kernel
theorem dX7_use_280 : decode (mc mX7_use) 280 = .ok (.iload 9, 2) := by decide +kernel
theorem dX7_use_282 : decode (mc mX7_use) 282 = .ok (.istore 7, 2) := by decide +kernel
theorem dX7_use_284 : decode (mc mX7_use) 284 = .ok (.aload_n 0, 1) := by decide +kernel
theorem dX7_use_285 : decode (mc mX7_use) 285 = .ok (.iload 8, 2) := by decide +kernel
theorem dX7_use_287 : decode (mc mX7_use) 287 = .ok (.iconst 3, 1) := by decide +kernel
theorem dX7_use_288 : decode (mc mX7_use) 288 = .ok (.invokevirtual 49, 3) := by decide +kernel
theorem dX7_use_291 : decode (mc mX7_use) 291 = .ok (.istore 8, 2) := by decide +kernel
theorem dX7_use_293 : decode (mc mX7_use) 293 = .ok (.goto (-77), 3) := by decide +kernel
theorem dX7_use_296 : decode (mc mX7_use) 296 = .ok (.aload_n 0, 1) := by decide +kernel
theorem dX7_use_297 : decode (mc mX7_use) 297 = .ok (.iload_n 1, 1) := by decide +kernel
theorem dX7_use_298 : decode (mc mX7_use) 298 = .ok (.iload 4, 2) := by decide +kernel
theorem dX7_use_300 : decode (mc mX7_use) 300 = .ok (.ineg, 1) := by decide +kernel
theorem dX7_use_301 : decode (mc mX7_use) 301 = .ok (.invokevirtual 142, 3) := by decide +kernel
theorem dX7_use_304 : decode (mc mX7_use) 304 = .ok (.aload_n 0, 1) := by decide +kernel
theorem dX7_use_305 : decode (mc mX7_use) 305 = .ok (.getfield 7, 3) := by decide +kernel
theorem dX7_use_308 : decode (mc mX7_use) 308 = .ok (.iconst 4, 1) := by decide +kernel
theorem dX7_use_309 : decode (mc mX7_use) 309 = .ok (.dup2, 1) := by decide +kernel
theorem dX7_use_310 : decode (mc mX7_use) 310 = .ok (.iaload, 1) := by decide +kernel
theorem dX7_use_311 : decode (mc mX7_use) 311 = .ok (.iload 6, 2) := by decide +kernel
theorem dX7_use_313 : decode (mc mX7_use) 313 = .ok (.iadd, 1) := by decide +kernel
theorem dX7_use_314 : decode (mc mX7_use) 314 = .ok (.iastore, 1) := by decide +kernel
theorem dX7_use_315 : decode (mc mX7_use) 315 = .ok (.iconst 0, 1) := by decide +kernel
theorem dX7_use_316 : decode (mc mX7_use) 316 = .ok (.istore 9, 2) := by decide +kernel
theorem dX7_use_318 : decode (mc mX7_use) 318 = .ok (.iload 9, 2) := by decide +kernel
theorem dX7_use_320 : decode (mc mX7_use) 320 = .ok (.aload_n 0, 1) := by decide +kernel
theorem dX7_use_321 : decode (mc mX7_use) 321 = .ok (.getfield 7, 3) := by decide +kernel
theorem dX7_use_324 : decode (mc mX7_use) 324 = .ok (.iconst 0, 1) := by decide +kernel
theorem dX7_use_325 : decode (mc mX7_use) 325 = .ok (.iaload, 1) := by decide +kernel
theorem dX7_use_326 : decode (mc mX7_use) 326 = .ok (.if_icmp .ge 28, 3) := by decide +kernel
theorem dX7_use_329 : decode (mc mX7_use) 329 = .ok (.aload_n 0, 1) := by decide +kernel
theorem dX7_use_330 : decode (mc mX7_use) 330 = .ok (.iload 9, 2) := by decide +kernel
theorem dX7_use_332 : decode (mc mX7_use) 332 = .ok (.aload_n 0, 1) := by decide +kernel
theorem dX7_use_333 : decode (mc mX7_use) 333 = .ok (.getfield 7, 3) := by decide +kernel
theorem dX7_use_336 : decode (mc mX7_use) 336 = .ok (.iload 5, 2) := by decide +kernel
theorem dX7_use_338 : decode (mc mX7_use) 338 = .ok (.bipush 7, 2) := by decide +kernel
theorem dX7_use_340 : decode (mc mX7_use) 340 = .ok (.iadd, 1) := by decide +kernel
theorem dX7_use_341 : decode (mc mX7_use) 341 = .ok (.iload 9, 2) := by decide +kernel
theorem dX7_use_343 : decode (mc mX7_use) 343 = .ok (.iadd, 1) := by decide +kernel
theorem dX7_use_344 : decode (mc mX7_use) 344 = .ok (.iaload, 1) := by decide +kernel
theorem dX7_use_345 : decode (mc mX7_use) 345 = .ok (.invokevirtual 142, 3) := by decide +kernel
theorem dX7_use_348 : decode (mc mX7_use) 348 = .ok (.iinc 9 1, 3) := by decide +kernel
theorem dX7_use_351 : decode (mc mX7_use) 351 = .ok (.goto (-33), 3) := by decide +kernel
theorem dX7_use_354 : decode (mc mX7_use) 354 = .ok (.aload_n 0, 1) := by decide +kernel
theorem dX7_use_355 : decode (mc mX7_use) 355 = .ok (.getfield 7, 3) := by decide +kernel
theorem dX7_use_358 : decode (mc mX7_use) 358 = .ok (.bipush 22, 2) := by decide +kernel
theorem dX7_use_360 : decode (mc mX7_use) 360 = .ok (.bipush 16, 2) := by decide +kernel
theorem dX7_use_362 : decode (mc mX7_use) 362 = .ok (.iload_n 2, 1) := by decide +kernel
theorem dX7_use_363 : decode (mc mX7_use) 363 = .ok (.imul, 1) := by decide +kernel
theorem dX7_use_364 : decode (mc mX7_use) 364 = .ok (.iadd, 1) := by decide +kernel
theorem dX7_use_365 : decode (mc mX7_use) 365 = .ok (.iconst 5, 1) := by decide +kernel
theorem dX7_use_366 : decode (mc mX7_use) 366 = .ok (.iadd, 1) := by decide +kernel
theorem dX7_use_367 : decode (mc mX7_use) 367 = .ok (.dup2, 1) := by decide +kernel
theorem dX7_use_368 : decode (mc mX7_use) 368 = .ok (.iaload, 1) := by decide +kernel
theorem dX7_use_369 : decode (mc mX7_use) 369 = .ok (.iconst 1, 1) := by decide +kernel
theorem dX7_use_370 : decode (mc mX7_use) 370 = .ok (.iadd, 1) := by decide +kernel
theorem dX7_use_371 : decode (mc mX7_use) 371 = .ok (.iastore, 1) := by decide +kernel
theorem dX7_use_372 : decode (mc mX7_use) 372 = .ok (.aload_n 0, 1) := by decide +kernel
theorem dX7_use_373 : decode (mc mX7_use) 373 = .ok (.getfield 7, 3) := by decide +kernel
theorem dX7_use_376 : decode (mc mX7_use) 376 = .ok (.iconst 2, 1) := by decide +kernel
theorem dX7_use_377 : decode (mc mX7_use) 377 = .ok (.dup2, 1) := by decide +kernel
theorem dX7_use_378 : decode (mc mX7_use) 378 = .ok (.iaload, 1) := by decide +kernel
theorem dX7_use_379 : decode (mc mX7_use) 379 = .ok (.iconst 1, 1) := by decide +kernel
theorem dX7_use_380 : decode (mc mX7_use) 380 = .ok (.iadd, 1) := by decide +kernel
theorem dX7_use_381 : decode (mc mX7_use) 381 = .ok (.iastore, 1) := by decide +kernel
theorem dX7_use_382 : decode (mc mX7_use) 382 = .ok (.aload_n 0, 1) := by decide +kernel
theorem dX7_use_383 : decode (mc mX7_use) 383 = .ok (.getfield 7, 3) := by decide +kernel
theorem dX7_use_386 : decode (mc mX7_use) 386 = .ok (.iconst 2, 1) := by decide +kernel
theorem dX7_use_387 : decode (mc mX7_use) 387 = .ok (.iaload, 1) := by decide +kernel
theorem dX7_use_388 : decode (mc mX7_use) 388 = .ok (.iconst 1, 1) := by decide +kernel
theorem dX7_use_389 : decode (mc mX7_use) 389 = .ok (.isub, 1) := by decide +kernel
theorem dX7_use_390 : decode (mc mX7_use) 390 = .ok (.ireturn, 1) := by decide +kernel
theorem dX7_note_0 : decode (mc mX7_note) 0 = .ok (.iload_n 1, 1) := by decide +kernel
theorem dX7_note_1 : decode (mc mX7_note) 1 = .ok (.iconst 0, 1) := by decide +kernel
theorem dX7_note_2 : decode (mc mX7_note) 2 = .ok (.aload_n 0, 1) := by decide +kernel
theorem dX7_note_3 : decode (mc mX7_note) 3 = .ok (.getfield 7, 3) := by decide +kernel
theorem dX7_note_6 : decode (mc mX7_note) 6 = .ok (.iconst 2, 1) := by decide +kernel
theorem dX7_note_7 : decode (mc mX7_note) 7 = .ok (.iaload, 1) := by decide +kernel
theorem dX7_note_8 : decode (mc mX7_note) 8 = .ok (.iconst 1, 1) := by decide +kernel
theorem dX7_note_9 : decode (mc mX7_note) 9 = .ok (.isub, 1) := by decide +kernel
theorem dX7_note_10 : decode (mc mX7_note) 10 = .ok (.invokestatic 45, 3) := by decide +kernel
theorem dX7_note_13 : decode (mc mX7_note) 13 = .ok (.ifCond .ne 6, 3) := by decide +kernel
theorem dX7_note_16 : decode (mc mX7_note) 16 = .ok (.ldc 87, 2) := by decide +kernel
theorem dX7_note_18 : decode (mc mX7_note) 18 = .ok (.ireturn, 1) := by decide +kernel
theorem dX7_note_19 : decode (mc mX7_note) 19 = .ok (.iload_n 2, 1) := by decide +kernel
theorem dX7_note_20 : decode (mc mX7_note) 20 = .ok (.iconst 0, 1) := by decide +kernel
theorem dX7_note_21 : decode (mc mX7_note) 21 = .ok (.bipush 12, 2) := by decide +kernel
theorem dX7_note_23 : decode (mc mX7_note) 23 = .ok (.invokestatic 45, 3) := by decide +kernel
theorem dX7_note_26 : decode (mc mX7_note) 26 = .ok (.ifCond .eq 12, 3) := by decide +kernel
theorem dX7_note_29 : decode (mc mX7_note) 29 = .ok (.aload_n 0, 1) := by decide +kernel
theorem dX7_note_30 : decode (mc mX7_note) 30 = .ok (.iload_n 1, 1) := by decide +kernel
theorem dX7_note_31 : decode (mc mX7_note) 31 = .ok (.iload_n 2, 1) := by decide +kernel
theorem dX7_note_32 : decode (mc mX7_note) 32 = .ok (.invokevirtual 100, 3) := by decide +kernel
theorem dX7_note_35 : decode (mc mX7_note) 35 = .ok (.goto 5, 3) := by decide +kernel
theorem dX7_note_38 : decode (mc mX7_note) 38 = .ok (.ldc 88, 2) := by decide +kernel
theorem dX7_note_40 : decode (mc mX7_note) 40 = .ok (.ireturn, 1) := by decide +kernel
theorem dX7_ends_0 : decode (mc mX7_ends) 0 = .ok (.iconst 0, 1) := by decide +kernel
theorem dX7_ends_1 : decode (mc mX7_ends) 1 = .ok (.istore_n 2, 1) := by decide +kernel
theorem dX7_ends_2 : decode (mc mX7_ends) 2 = .ok (.iload_n 2, 1) := by decide +kernel
theorem dX7_ends_3 : decode (mc mX7_ends) 3 = .ok (.bipush 20, 2) := by decide +kernel
theorem dX7_ends_5 : decode (mc mX7_ends) 5 = .ok (.if_icmp .ge 25, 3) := by decide +kernel
theorem dX7_ends_8 : decode (mc mX7_ends) 8 = .ok (.aload_n 0, 1) := by decide +kernel
theorem dX7_ends_9 : decode (mc mX7_ends) 9 = .ok (.getfield 22, 3) := by decide +kernel
theorem dX7_ends_12 : decode (mc mX7_ends) 12 = .ok (.iload_n 2, 1) := by decide +kernel
theorem dX7_ends_13 : decode (mc mX7_ends) 13 = .ok (.iload_n 2, 1) := by decide +kernel
theorem dX7_ends_14 : decode (mc mX7_ends) 14 = .ok (.iload_n 1, 1) := by decide +kernel
theorem dX7_ends_15 : decode (mc mX7_ends) 15 = .ok (.if_icmp .ne 7, 3) := by decide +kernel
theorem dX7_ends_18 : decode (mc mX7_ends) 18 = .ok (.iconst 1, 1) := by decide +kernel
theorem dX7_ends_19 : decode (mc mX7_ends) 19 = .ok (.goto 4, 3) := by decide +kernel
theorem dX7_ends_22 : decode (mc mX7_ends) 22 = .ok (.iconst 0, 1) := by decide +kernel
theorem dX7_ends_23 : decode (mc mX7_ends) 23 = .ok (.iastore, 1) := by decide +kernel
theorem dX7_ends_24 : decode (mc mX7_ends) 24 = .ok (.iinc 2 1, 3) := by decide +kernel
theorem dX7_ends_27 : decode (mc mX7_ends) 27 = .ok (.goto (-25), 3) := by decide +kernel
theorem dX7_ends_30 : decode (mc mX7_ends) 30 = .ok (.iconst 1, 1) := by decide +kernel
theorem dX7_ends_31 : decode (mc mX7_ends) 31 = .ok (.istore_n 2, 1) := by decide +kernel
theorem dX7_ends_32 : decode (mc mX7_ends) 32 = .ok (.iconst 0, 1) := by decide +kernel
theorem dX7_ends_33 : decode (mc mX7_ends) 33 = .ok (.istore_n 3, 1) := by decide +kernel
theorem dX7_ends_34 : decode (mc mX7_ends) 34 = .ok (.iload_n 3, 1) := by decide +kernel
theorem dX7_ends_35 : decode (mc mX7_ends) 35 = .ok (.aload_n 0, 1) := by decide +kernel
theorem dX7_ends_36 : decode (mc mX7_ends) 36 = .ok (.getfield 7, 3) := by decide +kernel
theorem dX7_ends_39 : decode (mc mX7_ends) 39 = .ok (.iconst 1, 1) := by decide +kernel
theorem dX7_ends_40 : decode (mc mX7_ends) 40 = .ok (.iaload, 1) := by decide +kernel
theorem dX7_ends_41 : decode (mc mX7_ends) 41 = .ok (.if_icmp .ge 96, 3) := by decide +kernel
theorem dX7_ends_44 : decode (mc mX7_ends) 44 = .ok (.aload_n 0, 1) := by decide +kernel
theorem dX7_ends_45 : decode (mc mX7_ends) 45 = .ok (.iload_n 3, 1) := by decide +kernel
theorem dX7_ends_46 : decode (mc mX7_ends) 46 = .ok (.iconst 3, 1) := by decide +kernel
theorem dX7_ends_47 : decode (mc mX7_ends) 47 = .ok (.invokevirtual 49, 3) := by decide +kernel
theorem dX7_ends_50 : decode (mc mX7_ends) 50 = .ok (.istore 4, 2) := by decide +kernel
theorem dX7_ends_52 : decode (mc mX7_ends) 52 = .ok (.iload_n 3, 1) := by decide +kernel
theorem dX7_ends_53 : decode (mc mX7_ends) 53 = .ok (.iload_n 1, 1) := by decide +kernel
theorem dX7_ends_54 : decode (mc mX7_ends) 54 = .ok (.if_icmp .eq 77, 3) := by decide +kernel
theorem dX7_ends_57 : decode (mc mX7_ends) 57 = .ok (.aload_n 0, 1) := by decide +kernel
theorem dX7_ends_58 : decode (mc mX7_ends) 58 = .ok (.iload_n 3, 1) := by decide +kernel
theorem dX7_ends_59 : decode (mc mX7_ends) 59 = .ok (.iconst 4, 1) := by decide +kernel
theorem dX7_ends_60 : decode (mc mX7_ends) 60 = .ok (.invokevirtual 49, 3) := by decide +kernel
theorem dX7_ends_63 : decode (mc mX7_ends) 63 = .ok (.iconst 1, 1) := by decide +kernel
theorem dX7_ends_64 : decode (mc mX7_ends) 64 = .ok (.if_icmp .ne 67, 3) := by decide +kernel
theorem dX7_ends_67 : decode (mc mX7_ends) 67 = .ok (.iload 4, 2) := by decide +kernel
theorem dX7_ends_69 : decode (mc mX7_ends) 69 = .ok (.ldc 121, 2) := by decide +kernel
theorem dX7_ends_71 : decode (mc mX7_ends) 71 = .ok (.if_icmp .eq 60, 3) := by decide +kernel
theorem dX7_ends_74 : decode (mc mX7_ends) 74 = .ok (.aload_n 0, 1) := by decide +kernel
theorem dX7_ends_75 : decode (mc mX7_ends) 75 = .ok (.getfield 22, 3) := by decide +kernel
theorem dX7_ends_78 : decode (mc mX7_ends) 78 = .ok (.iload 4, 2) := by decide +kernel
theorem dX7_ends_80 : decode (mc mX7_ends) 80 = .ok (.iaload, 1) := by decide +kernel
theorem dX7_ends_81 : decode (mc mX7_ends) 81 = .ok (.iconst 1, 1) := by decide +kernel
theorem dX7_ends_82 : decode (mc mX7_ends) 82 = .ok (.if_icmp .ne 49, 3) := by decide +kernel
theorem dX7_ends_85 : decode (mc mX7_ends) 85 = .ok (.aload_n 0, 1) := by decide +kernel
theorem dX7_ends_86 : decode (mc mX7_ends) 86 = .ok (.getfield 22, 3) := by decide +kernel
theorem dX7_ends_89 : decode (mc mX7_ends) 89 = .ok (.iload_n 3, 1) := by decide +kernel
theorem dX7_ends_90 : decode (mc mX7_ends) 90 = .ok (.aload_n 0, 1) := by decide +kernel
theorem dX7_ends_91 : decode (mc mX7_ends) 91 = .ok (.iload_n 3, 1) := by decide +kernel
theorem dX7_ends_92 : decode (mc mX7_ends) 92 = .ok (.iload 4, 2) := by decide +kernel
theorem dX7_ends_94 : decode (mc mX7_ends) 94 = .ok (.invokevirtual 93, 3) := by decide +kernel
theorem dX7_ends_97 : decode (mc mX7_ends) 97 = .ok (.aload_n 0, 1) := by decide +kernel
theorem dX7_ends_98 : decode (mc mX7_ends) 98 = .ok (.getfield 7, 3) := by decide +kernel
theorem dX7_ends_101 : decode (mc mX7_ends) 101 = .ok (.bipush 9, 2) := by decide +kernel
theorem dX7_ends_103 : decode (mc mX7_ends) 103 = .ok (.iaload, 1) := by decide +kernel
theorem dX7_ends_104 : decode (mc mX7_ends) 104 = .ok (.if_icmp .lt 7, 3) := by decide +kernel
theorem dX7_ends_107 : decode (mc mX7_ends) 107 = .ok (.iconst 1, 1) := by decide +kernel
theorem dX7_ends_108 : decode (mc mX7_ends) 108 = .ok (.goto 4, 3) := by decide +kernel
theorem dX7_ends_111 : decode (mc mX7_ends) 111 = .ok (.iconst 2, 1) := by decide +kernel
theorem dX7_ends_112 : decode (mc mX7_ends) 112 = .ok (.iastore, 1) := by decide +kernel
theorem dX7_ends_113 : decode (mc mX7_ends) 113 = .ok (.iload_n 2, 1) := by decide +kernel
theorem dX7_ends_114 : decode (mc mX7_ends) 114 = .ok (.aload_n 0, 1) := by decide +kernel
theorem dX7_ends_115 : decode (mc mX7_ends) 115 = .ok (.getfield 22, 3) := by decide +kernel
theorem dX7_ends_118 : decode (mc mX7_ends) 118 = .ok (.iload_n 3, 1) := by decide +kernel
theorem dX7_ends_119 : decode (mc mX7_ends) 119 = .ok (.iaload, 1) := by decide +kernel
theorem dX7_ends_120 : decode (mc mX7_ends) 120 = .ok (.iconst 1, 1) := by decide +kernel
theorem dX7_ends_121 : decode (mc mX7_ends) 121 = .ok (.if_icmp .ne 7, 3) := by decide +kernel
theorem dX7_ends_124 : decode (mc mX7_ends) 124 = .ok (.iconst 1, 1) := by decide +kernel
theorem dX7_ends_125 : decode (mc mX7_ends) 125 = .ok (.goto 4, 3) := by decide +kernel
theorem dX7_ends_128 : decode (mc mX7_ends) 128 = .ok (.iconst 0, 1) := by decide +kernel
theorem dX7_ends_129 : decode (mc mX7_ends) 129 = .ok (.iadd, 1) := by decide +kernel
theorem dX7_ends_130 : decode (mc mX7_ends) 130 = .ok (.istore_n 2, 1) := by decide +kernel
theorem dX7_ends_131 : decode (mc mX7_ends) 131 = .ok (.iinc 3 1, 3) := by decide +kernel
theorem dX7_ends_134 : decode (mc mX7_ends) 134 = .ok (.goto (-100), 3) := by decide +kernel
theorem dX7_ends_137 : decode (mc mX7_ends) 137 = .ok (.iload_n 2, 1) := by decide +kernel
theorem dX7_ends_138 : decode (mc mX7_ends) 138 = .ok (.ireturn, 1) := by decide +kernel
theorem dX7_goesBack_0 : decode (mc mX7_goesBack) 0 = .ok (.aload_n 0, 1) := by decide +kernel
theorem dX7_goesBack_1 : decode (mc mX7_goesBack) 1 = .ok (.iload_n 1, 1) := by decide +kernel
theorem dX7_goesBack_2 : decode (mc mX7_goesBack) 2 = .ok (.iconst 5, 1) := by decide +kernel
theorem dX7_goesBack_3 : decode (mc mX7_goesBack) 3 = .ok (.invokevirtual 100, 3) := by decide +kernel
theorem dX7_goesBack_6 : decode (mc mX7_goesBack) 6 = .ok (.ifCond .ne 45, 3) := by decide +kernel
theorem dX7_goesBack_9 : decode (mc mX7_goesBack) 9 = .ok (.aload_n 0, 1) := by decide +kernel
theorem dX7_goesBack_10 : decode (mc mX7_goesBack) 10 = .ok (.getfield 22, 3) := by decide +kernel
theorem dX7_goesBack_13 : decode (mc mX7_goesBack) 13 = .ok (.aload_n 0, 1) := by decide +kernel
theorem dX7_goesBack_14 : decode (mc mX7_goesBack) 14 = .ok (.iload_n 1, 1) := by decide +kernel
theorem dX7_goesBack_15 : decode (mc mX7_goesBack) 15 = .ok (.iconst 1, 1) := by decide +kernel
theorem dX7_goesBack_16 : decode (mc mX7_goesBack) 16 = .ok (.invokevirtual 100, 3) := by decide +kernel
theorem dX7_goesBack_19 : decode (mc mX7_goesBack) 19 = .ok (.iaload, 1) := by decide +kernel
theorem dX7_goesBack_20 : decode (mc mX7_goesBack) 20 = .ok (.iconst 1, 1) := by decide +kernel
theorem dX7_goesBack_21 : decode (mc mX7_goesBack) 21 = .ok (.if_icmp .ne 30, 3) := by decide +kernel
theorem dX7_goesBack_24 : decode (mc mX7_goesBack) 24 = .ok (.aload_n 0, 1) := by decide +kernel
theorem dX7_goesBack_25 : decode (mc mX7_goesBack) 25 = .ok (.iload_n 1, 1) := by decide +kernel
theorem dX7_goesBack_26 : decode (mc mX7_goesBack) 26 = .ok (.iconst 4, 1) := by decide +kernel
theorem dX7_goesBack_27 : decode (mc mX7_goesBack) 27 = .ok (.invokevirtual 100, 3) := by decide +kernel
theorem dX7_goesBack_30 : decode (mc mX7_goesBack) 30 = .ok (.aload_n 0, 1) := by decide +kernel
theorem dX7_goesBack_31 : decode (mc mX7_goesBack) 31 = .ok (.getfield 7, 3) := by decide +kernel
theorem dX7_goesBack_34 : decode (mc mX7_goesBack) 34 = .ok (.iconst 3, 1) := by decide +kernel
theorem dX7_goesBack_35 : decode (mc mX7_goesBack) 35 = .ok (.iaload, 1) := by decide +kernel
theorem dX7_goesBack_36 : decode (mc mX7_goesBack) 36 = .ok (.aload_n 0, 1) := by decide +kernel
theorem dX7_goesBack_37 : decode (mc mX7_goesBack) 37 = .ok (.getfield 7, 3) := by decide +kernel
theorem dX7_goesBack_40 : decode (mc mX7_goesBack) 40 = .ok (.bipush 8, 2) := by decide +kernel
theorem dX7_goesBack_42 : decode (mc mX7_goesBack) 42 = .ok (.iaload, 1) := by decide +kernel
theorem dX7_goesBack_43 : decode (mc mX7_goesBack) 43 = .ok (.isub, 1) := by decide +kernel
theorem dX7_goesBack_44 : decode (mc mX7_goesBack) 44 = .ok (.if_icmp .lt 7, 3) := by decide +kernel
theorem dX7_goesBack_47 : decode (mc mX7_goesBack) 47 = .ok (.iconst 1, 1) := by decide +kernel
theorem dX7_goesBack_48 : decode (mc mX7_goesBack) 48 = .ok (.goto 4, 3) := by decide +kernel
theorem dX7_goesBack_51 : decode (mc mX7_goesBack) 51 = .ok (.iconst 0, 1) := by decide +kernel
theorem dX7_goesBack_52 : decode (mc mX7_goesBack) 52 = .ok (.ireturn, 1) := by decide +kernel
theorem dX7_retract_0 : decode (mc mX7_retract) 0 = .ok (.aload_n 0, 1) := by decide +kernel
theorem dX7_retract_1 : decode (mc mX7_retract) 1 = .ok (.iload_n 1, 1) := by decide +kernel
theorem dX7_retract_2 : decode (mc mX7_retract) 2 = .ok (.invokevirtual 122, 3) := by decide +kernel
theorem dX7_retract_5 : decode (mc mX7_retract) 5 = .ok (.ifCond .ne 6, 3) := by decide +kernel
theorem dX7_retract_8 : decode (mc mX7_retract) 8 = .ok (.ldc 87, 2) := by decide +kernel
theorem dX7_retract_10 : decode (mc mX7_retract) 10 = .ok (.ireturn, 1) := by decide +kernel
theorem dX7_retract_11 : decode (mc mX7_retract) 11 = .ok (.aload_n 0, 1) := by decide +kernel
theorem dX7_retract_12 : decode (mc mX7_retract) 12 = .ok (.iload_n 1, 1) := by decide +kernel
theorem dX7_retract_13 : decode (mc mX7_retract) 13 = .ok (.iconst 4, 1) := by decide +kernel
theorem dX7_retract_14 : decode (mc mX7_retract) 14 = .ok (.invokevirtual 49, 3) := by decide +kernel
theorem dX7_retract_17 : decode (mc mX7_retract) 17 = .ok (.ifCond .ne 6, 3) := by decide +kernel
theorem dX7_retract_20 : decode (mc mX7_retract) 20 = .ok (.ldc 128, 2) := by decide +kernel
theorem dX7_retract_22 : decode (mc mX7_retract) 22 = .ok (.ireturn, 1) := by decide +kernel
theorem dX7_retract_23 : decode (mc mX7_retract) 23 = .ok (.aload_n 0, 1) := by decide +kernel
theorem dX7_retract_24 : decode (mc mX7_retract) 24 = .ok (.invokevirtual 80, 3) := by decide +kernel
theorem dX7_retract_27 : decode (mc mX7_retract) 27 = .ok (.aload_n 0, 1) := by decide +kernel
theorem dX7_retract_28 : decode (mc mX7_retract) 28 = .ok (.iload_n 1, 1) := by decide +kernel
theorem dX7_retract_29 : decode (mc mX7_retract) 29 = .ok (.invokevirtual 145, 3) := by decide +kernel
theorem dX7_retract_32 : decode (mc mX7_retract) 32 = .ok (.istore_n 2, 1) := by decide +kernel
theorem dX7_retract_33 : decode (mc mX7_retract) 33 = .ok (.iconst 0, 1) := by decide +kernel
theorem dX7_retract_34 : decode (mc mX7_retract) 34 = .ok (.istore_n 3, 1) := by decide +kernel
theorem dX7_retract_35 : decode (mc mX7_retract) 35 = .ok (.iload_n 3, 1) := by decide +kernel
theorem dX7_retract_36 : decode (mc mX7_retract) 36 = .ok (.aload_n 0, 1) := by decide +kernel
theorem dX7_retract_37 : decode (mc mX7_retract) 37 = .ok (.getfield 7, 3) := by decide +kernel
theorem dX7_retract_40 : decode (mc mX7_retract) 40 = .ok (.iconst 1, 1) := by decide +kernel
theorem dX7_retract_41 : decode (mc mX7_retract) 41 = .ok (.iaload, 1) := by decide +kernel
theorem dX7_retract_42 : decode (mc mX7_retract) 42 = .ok (.if_icmp .ge 78, 3) := by decide +kernel
theorem dX7_retract_45 : decode (mc mX7_retract) 45 = .ok (.aload_n 0, 1) := by decide +kernel
theorem dX7_retract_46 : decode (mc mX7_retract) 46 = .ok (.getfield 7, 3) := by decide +kernel
theorem dX7_retract_49 : decode (mc mX7_retract) 49 = .ok (.bipush 22, 2) := by decide +kernel
theorem dX7_retract_51 : decode (mc mX7_retract) 51 = .ok (.bipush 16, 2) := by decide +kernel
theorem dX7_retract_53 : decode (mc mX7_retract) 53 = .ok (.iload_n 3, 1) := by decide +kernel
theorem dX7_retract_54 : decode (mc mX7_retract) 54 = .ok (.imul, 1) := by decide +kernel
theorem dX7_retract_55 : decode (mc mX7_retract) 55 = .ok (.iadd, 1) := by decide +kernel
theorem dX7_retract_56 : decode (mc mX7_retract) 56 = .ok (.iconst 4, 1) := by decide +kernel
theorem dX7_retract_57 : decode (mc mX7_retract) 57 = .ok (.iadd, 1) := by decide +kernel
theorem dX7_retract_58 : decode (mc mX7_retract) 58 = .ok (.aload_n 0, 1) := by decide +kernel
theorem dX7_retract_59 : decode (mc mX7_retract) 59 = .ok (.getfield 22, 3) := by decide +kernel
theorem dX7_retract_62 : decode (mc mX7_retract) 62 = .ok (.iload_n 3, 1) := by decide +kernel
theorem dX7_retract_63 : decode (mc mX7_retract) 63 = .ok (.iaload, 1) := by decide +kernel
theorem dX7_retract_64 : decode (mc mX7_retract) 64 = .ok (.iconst 1, 1) := by decide +kernel
theorem dX7_retract_65 : decode (mc mX7_retract) 65 = .ok (.if_icmp .ne 7, 3) := by decide +kernel
theorem dX7_retract_68 : decode (mc mX7_retract) 68 = .ok (.iconst 0, 1) := by decide +kernel
theorem dX7_retract_69 : decode (mc mX7_retract) 69 = .ok (.goto 9, 3) := by decide +kernel
theorem dX7_retract_72 : decode (mc mX7_retract) 72 = .ok (.aload_n 0, 1) := by decide +kernel
theorem dX7_retract_73 : decode (mc mX7_retract) 73 = .ok (.iload_n 3, 1) := by decide +kernel
theorem dX7_retract_74 : decode (mc mX7_retract) 74 = .ok (.iconst 4, 1) := by decide +kernel
theorem dX7_retract_75 : decode (mc mX7_retract) 75 = .ok (.invokevirtual 49, 3) := by decide +kernel
theorem dX7_retract_78 : decode (mc mX7_retract) 78 = .ok (.iastore, 1) := by decide +kernel
theorem dX7_retract_79 : decode (mc mX7_retract) 79 = .ok (.aload_n 0, 1) := by decide +kernel
theorem dX7_retract_80 : decode (mc mX7_retract) 80 = .ok (.getfield 7, 3) := by decide +kernel
theorem dX7_retract_83 : decode (mc mX7_retract) 83 = .ok (.bipush 22, 2) := by decide +kernel
theorem dX7_retract_85 : decode (mc mX7_retract) 85 = .ok (.bipush 16, 2) := by decide +kernel
theorem dX7_retract_87 : decode (mc mX7_retract) 87 = .ok (.iload_n 3, 1) := by decide +kernel
theorem dX7_retract_88 : decode (mc mX7_retract) 88 = .ok (.imul, 1) := by decide +kernel
theorem dX7_retract_89 : decode (mc mX7_retract) 89 = .ok (.iadd, 1) := by decide +kernel
theorem dX7_retract_90 : decode (mc mX7_retract) 90 = .ok (.iconst 3, 1) := by decide +kernel
theorem dX7_retract_91 : decode (mc mX7_retract) 91 = .ok (.iadd, 1) := by decide +kernel
theorem dX7_retract_92 : decode (mc mX7_retract) 92 = .ok (.aload_n 0, 1) := by decide +kernel
theorem dX7_retract_93 : decode (mc mX7_retract) 93 = .ok (.getfield 22, 3) := by decide +kernel
theorem dX7_retract_96 : decode (mc mX7_retract) 96 = .ok (.iload_n 3, 1) := by decide +kernel
theorem dX7_retract_97 : decode (mc mX7_retract) 97 = .ok (.iaload, 1) := by decide +kernel
theorem dX7_retract_98 : decode (mc mX7_retract) 98 = .ok (.iconst 2, 1) := by decide +kernel
theorem dX7_retract_99 : decode (mc mX7_retract) 99 = .ok (.if_icmp .ne 8, 3) := by decide +kernel
theorem dX7_retract_102 : decode (mc mX7_retract) 102 = .ok (.ldc 121, 2) := by decide +kernel
theorem dX7_retract_104 : decode (mc mX7_retract) 104 = .ok (.goto 9, 3) := by decide +kernel
theorem dX7_retract_107 : decode (mc mX7_retract) 107 = .ok (.aload_n 0, 1) := by decide +kernel
theorem dX7_retract_108 : decode (mc mX7_retract) 108 = .ok (.iload_n 3, 1) := by decide +kernel
theorem dX7_retract_109 : decode (mc mX7_retract) 109 = .ok (.iconst 3, 1) := by decide +kernel
theorem dX7_retract_110 : decode (mc mX7_retract) 110 = .ok (.invokevirtual 49, 3) := by decide +kernel
theorem dX7_retract_113 : decode (mc mX7_retract) 113 = .ok (.iastore, 1) := by decide +kernel
theorem dX7_retract_114 : decode (mc mX7_retract) 114 = .ok (.iinc 3 1, 3) := by decide +kernel
theorem dX7_retract_117 : decode (mc mX7_retract) 117 = .ok (.goto (-82), 3) := by decide +kernel
theorem dX7_retract_120 : decode (mc mX7_retract) 120 = .ok (.iconst 0, 1) := by decide +kernel
theorem dX7_retract_121 : decode (mc mX7_retract) 121 = .ok (.istore_n 3, 1) := by decide +kernel
theorem dX7_retract_122 : decode (mc mX7_retract) 122 = .ok (.iload_n 3, 1) := by decide +kernel
theorem dX7_retract_123 : decode (mc mX7_retract) 123 = .ok (.aload_n 0, 1) := by decide +kernel
theorem dX7_retract_124 : decode (mc mX7_retract) 124 = .ok (.getfield 7, 3) := by decide +kernel
theorem dX7_retract_127 : decode (mc mX7_retract) 127 = .ok (.iconst 2, 1) := by decide +kernel
theorem dX7_retract_128 : decode (mc mX7_retract) 128 = .ok (.iaload, 1) := by decide +kernel
theorem dX7_retract_129 : decode (mc mX7_retract) 129 = .ok (.if_icmp .ge 102, 3) := by decide +kernel
theorem dX7_retract_132 : decode (mc mX7_retract) 132 = .ok (.aload_n 0, 1) := by decide +kernel
theorem dX7_retract_133 : decode (mc mX7_retract) 133 = .ok (.iload_n 3, 1) := by decide +kernel
theorem dX7_retract_134 : decode (mc mX7_retract) 134 = .ok (.invokevirtual 148, 3) := by decide +kernel
theorem dX7_retract_137 : decode (mc mX7_retract) 137 = .ok (.ifCond .eq 88, 3) := by decide +kernel
theorem dX7_retract_140 : decode (mc mX7_retract) 140 = .ok (.aload_n 0, 1) := by decide +kernel
theorem dX7_retract_141 : decode (mc mX7_retract) 141 = .ok (.getfield 7, 3) := by decide +kernel
theorem dX7_retract_144 : decode (mc mX7_retract) 144 = .ok (.sipush 342, 3) := by decide +kernel
theorem dX7_retract_147 : decode (mc mX7_retract) 147 = .ok (.bipush 13, 2) := by decide +kernel
theorem dX7_retract_149 : decode (mc mX7_retract) 149 = .ok (.iload_n 3, 1) := by decide +kernel
theorem dX7_retract_150 : decode (mc mX7_retract) 150 = .ok (.imul, 1) := by decide +kernel
theorem dX7_retract_151 : decode (mc mX7_retract) 151 = .ok (.iadd, 1) := by decide +kernel
theorem dX7_retract_152 : decode (mc mX7_retract) 152 = .ok (.iconst 5, 1) := by decide +kernel
theorem dX7_retract_153 : decode (mc mX7_retract) 153 = .ok (.iadd, 1) := by decide +kernel
theorem dX7_retract_154 : decode (mc mX7_retract) 154 = .ok (.iconst 1, 1) := by decide +kernel
theorem dX7_retract_155 : decode (mc mX7_retract) 155 = .ok (.iastore, 1) := by decide +kernel
theorem dX7_retract_156 : decode (mc mX7_retract) 156 = .ok (.aload_n 0, 1) := by decide +kernel
theorem dX7_retract_157 : decode (mc mX7_retract) 157 = .ok (.aload_n 0, 1) := by decide +kernel
theorem dX7_retract_158 : decode (mc mX7_retract) 158 = .ok (.iload_n 3, 1) := by decide +kernel
theorem dX7_retract_159 : decode (mc mX7_retract) 159 = .ok (.iconst 0, 1) := by decide +kernel
theorem dX7_retract_160 : decode (mc mX7_retract) 160 = .ok (.invokevirtual 100, 3) := by decide +kernel
theorem dX7_retract_163 : decode (mc mX7_retract) 163 = .ok (.aload_n 0, 1) := by decide +kernel
theorem dX7_retract_164 : decode (mc mX7_retract) 164 = .ok (.iload_n 3, 1) := by decide +kernel
theorem dX7_retract_165 : decode (mc mX7_retract) 165 = .ok (.iconst 3, 1) := by decide +kernel
theorem dX7_retract_166 : decode (mc mX7_retract) 166 = .ok (.invokevirtual 100, 3) := by decide +kernel
theorem dX7_retract_169 : decode (mc mX7_retract) 169 = .ok (.invokevirtual 142, 3) := by decide +kernel
theorem dX7_retract_172 : decode (mc mX7_retract) 172 = .ok (.aload_n 0, 1) := by decide +kernel
theorem dX7_retract_173 : decode (mc mX7_retract) 173 = .ok (.getfield 7, 3) := by decide +kernel
theorem dX7_retract_176 : decode (mc mX7_retract) 176 = .ok (.iconst 4, 1) := by decide +kernel
theorem dX7_retract_177 : decode (mc mX7_retract) 177 = .ok (.dup2, 1) := by decide +kernel
theorem dX7_retract_178 : decode (mc mX7_retract) 178 = .ok (.iaload, 1) := by decide +kernel
theorem dX7_retract_179 : decode (mc mX7_retract) 179 = .ok (.aload_n 0, 1) := by decide +kernel
theorem dX7_retract_180 : decode (mc mX7_retract) 180 = .ok (.iload_n 3, 1) := by decide +kernel
theorem dX7_retract_181 : decode (mc mX7_retract) 181 = .ok (.bipush 6, 2) := by decide +kernel
theorem dX7_retract_183 : decode (mc mX7_retract) 183 = .ok (.invokevirtual 100, 3) := by decide +kernel
theorem dX7_retract_186 : decode (mc mX7_retract) 186 = .ok (.isub, 1) := by decide +kernel
theorem dX7_retract_187 : decode (mc mX7_retract) 187 = .ok (.iastore, 1) := by decide +kernel
theorem dX7_retract_188 : decode (mc mX7_retract) 188 = .ok (.iconst 0, 1) := by decide +kernel
theorem dX7_retract_189 : decode (mc mX7_retract) 189 = .ok (.istore 4, 2) := by decide +kernel
theorem dX7_retract_191 : decode (mc mX7_retract) 191 = .ok (.iload 4, 2) := by decide +kernel
theorem dX7_retract_193 : decode (mc mX7_retract) 193 = .ok (.aload_n 0, 1) := by decide +kernel
theorem dX7_retract_194 : decode (mc mX7_retract) 194 = .ok (.getfield 7, 3) := by decide +kernel
theorem dX7_retract_197 : decode (mc mX7_retract) 197 = .ok (.iconst 0, 1) := by decide +kernel
theorem dX7_retract_198 : decode (mc mX7_retract) 198 = .ok (.iaload, 1) := by decide +kernel
theorem dX7_retract_199 : decode (mc mX7_retract) 199 = .ok (.if_icmp .ge 26, 3) := by decide +kernel
theorem dX7_retract_202 : decode (mc mX7_retract) 202 = .ok (.aload_n 0, 1) := by decide +kernel
theorem dX7_retract_203 : decode (mc mX7_retract) 203 = .ok (.iload 4, 2) := by decide +kernel
theorem dX7_retract_205 : decode (mc mX7_retract) 205 = .ok (.aload_n 0, 1) := by decide +kernel
theorem dX7_retract_206 : decode (mc mX7_retract) 206 = .ok (.iload_n 3, 1) := by decide +kernel
theorem dX7_retract_207 : decode (mc mX7_retract) 207 = .ok (.bipush 7, 2) := by decide +kernel
theorem dX7_retract_209 : decode (mc mX7_retract) 209 = .ok (.iload 4, 2) := by decide +kernel
theorem dX7_retract_211 : decode (mc mX7_retract) 211 = .ok (.iadd, 1) := by decide +kernel
theorem dX7_retract_212 : decode (mc mX7_retract) 212 = .ok (.invokevirtual 100, 3) := by decide +kernel
theorem dX7_retract_215 : decode (mc mX7_retract) 215 = .ok (.ineg, 1) := by decide +kernel
theorem dX7_retract_216 : decode (mc mX7_retract) 216 = .ok (.invokevirtual 142, 3) := by decide +kernel
theorem dX7_retract_219 : decode (mc mX7_retract) 219 = .ok (.iinc 4 1, 3) := by decide +kernel
theorem dX7_retract_222 : decode (mc mX7_retract) 222 = .ok (.goto (-31), 3) := by decide +kernel
theorem dX7_retract_225 : decode (mc mX7_retract) 225 = .ok (.iinc 3 1, 3) := by decide +kernel
theorem dX7_retract_228 : decode (mc mX7_retract) 228 = .ok (.goto (-106), 3) := by decide +kernel
theorem dX7_retract_231 : decode (mc mX7_retract) 231 = .ok (.iload_n 2, 1) := by decide +kernel
theorem dX7_retract_232 : decode (mc mX7_retract) 232 = .ok (.ireturn, 1) := by decide +kernel
theorem dX7_wouldPayBack_0 : decode (mc mX7_wouldPayBack) 0 = .ok (.aload_n 0, 1) := by decide +kernel
theorem dX7_wouldPayBack_1 : decode (mc mX7_wouldPayBack) 1 = .ok (.iload_n 1, 1) := by decide +kernel
theorem dX7_wouldPayBack_2 : decode (mc mX7_wouldPayBack) 2 = .ok (.invokevirtual 122, 3) := by decide +kernel
theorem dX7_wouldPayBack_5 : decode (mc mX7_wouldPayBack) 5 = .ok (.ifCond .ne 6, 3) := by decide +kernel
theorem dX7_wouldPayBack_8 : decode (mc mX7_wouldPayBack) 8 = .ok (.ldc 87, 2) := by decide +kernel
theorem dX7_wouldPayBack_10 : decode (mc mX7_wouldPayBack) 10 = .ok (.ireturn, 1) := by decide +kernel
theorem dX7_wouldPayBack_11 : decode (mc mX7_wouldPayBack) 11 = .ok (.aload_n 0, 1) := by decide +kernel
theorem dX7_wouldPayBack_12 : decode (mc mX7_wouldPayBack) 12 = .ok (.iload_n 1, 1) := by decide +kernel
theorem dX7_wouldPayBack_13 : decode (mc mX7_wouldPayBack) 13 = .ok (.iconst 4, 1) := by decide +kernel
theorem dX7_wouldPayBack_14 : decode (mc mX7_wouldPayBack) 14 = .ok (.invokevirtual 49, 3) := by decide +kernel
theorem dX7_wouldPayBack_17 : decode (mc mX7_wouldPayBack) 17 = .ok (.ifCond .ne 6, 3) := by decide +kernel
theorem dX7_wouldPayBack_20 : decode (mc mX7_wouldPayBack) 20 = .ok (.ldc 128, 2) := by decide +kernel
theorem dX7_wouldPayBack_22 : decode (mc mX7_wouldPayBack) 22 = .ok (.ireturn, 1) := by decide +kernel
theorem dX7_wouldPayBack_23 : decode (mc mX7_wouldPayBack) 23 = .ok (.aload_n 0, 1) := by decide +kernel
theorem dX7_wouldPayBack_24 : decode (mc mX7_wouldPayBack) 24 = .ok (.iload_n 1, 1) := by decide +kernel
theorem dX7_wouldPayBack_25 : decode (mc mX7_wouldPayBack) 25 = .ok (.invokevirtual 145, 3) := by decide +kernel
theorem dX7_wouldPayBack_28 : decode (mc mX7_wouldPayBack) 28 = .ok (.istore_n 2, 1) := by decide +kernel
theorem dX7_wouldPayBack_29 : decode (mc mX7_wouldPayBack) 29 = .ok (.iconst 0, 1) := by decide +kernel
theorem dX7_wouldPayBack_30 : decode (mc mX7_wouldPayBack) 30 = .ok (.istore_n 3, 1) := by decide +kernel
theorem dX7_wouldPayBack_31 : decode (mc mX7_wouldPayBack) 31 = .ok (.iconst 0, 1) := by decide +kernel
theorem dX7_wouldPayBack_32 : decode (mc mX7_wouldPayBack) 32 = .ok (.istore 4, 2) := by decide +kernel
theorem dX7_wouldPayBack_34 : decode (mc mX7_wouldPayBack) 34 = .ok (.iload 4, 2) := by decide +kernel
theorem dX7_wouldPayBack_36 : decode (mc mX7_wouldPayBack) 36 = .ok (.aload_n 0, 1) := by decide +kernel
theorem dX7_wouldPayBack_37 : decode (mc mX7_wouldPayBack) 37 = .ok (.getfield 7, 3) := by decide +kernel
theorem dX7_wouldPayBack_40 : decode (mc mX7_wouldPayBack) 40 = .ok (.iconst 2, 1) := by decide +kernel
theorem dX7_wouldPayBack_41 : decode (mc mX7_wouldPayBack) 41 = .ok (.iaload, 1) := by decide +kernel
theorem dX7_wouldPayBack_42 : decode (mc mX7_wouldPayBack) 42 = .ok (.if_icmp .ge 32, 3) := by decide +kernel
theorem dX7_wouldPayBack_45 : decode (mc mX7_wouldPayBack) 45 = .ok (.iload_n 3, 1) := by decide +kernel
theorem dX7_wouldPayBack_46 : decode (mc mX7_wouldPayBack) 46 = .ok (.aload_n 0, 1) := by decide +kernel
theorem dX7_wouldPayBack_47 : decode (mc mX7_wouldPayBack) 47 = .ok (.iload 4, 2) := by decide +kernel
theorem dX7_wouldPayBack_49 : decode (mc mX7_wouldPayBack) 49 = .ok (.invokevirtual 148, 3) := by decide +kernel
theorem dX7_wouldPayBack_52 : decode (mc mX7_wouldPayBack) 52 = .ok (.ifCond .eq 13, 3) := by decide +kernel
theorem dX7_wouldPayBack_55 : decode (mc mX7_wouldPayBack) 55 = .ok (.aload_n 0, 1) := by decide +kernel
theorem dX7_wouldPayBack_56 : decode (mc mX7_wouldPayBack) 56 = .ok (.iload 4, 2) := by decide +kernel
theorem dX7_wouldPayBack_58 : decode (mc mX7_wouldPayBack) 58 = .ok (.iconst 3, 1) := by decide +kernel
theorem dX7_wouldPayBack_59 : decode (mc mX7_wouldPayBack) 59 = .ok (.invokevirtual 100, 3) := by decide +kernel
theorem dX7_wouldPayBack_62 : decode (mc mX7_wouldPayBack) 62 = .ok (.goto 4, 3) := by decide +kernel
theorem dX7_wouldPayBack_65 : decode (mc mX7_wouldPayBack) 65 = .ok (.iconst 0, 1) := by decide +kernel
theorem dX7_wouldPayBack_66 : decode (mc mX7_wouldPayBack) 66 = .ok (.iadd, 1) := by decide +kernel
theorem dX7_wouldPayBack_67 : decode (mc mX7_wouldPayBack) 67 = .ok (.istore_n 3, 1) := by decide +kernel
theorem dX7_wouldPayBack_68 : decode (mc mX7_wouldPayBack) 68 = .ok (.iinc 4 1, 3) := by decide +kernel
theorem dX7_wouldPayBack_71 : decode (mc mX7_wouldPayBack) 71 = .ok (.goto (-37), 3) := by decide +kernel
theorem dX7_wouldPayBack_74 : decode (mc mX7_wouldPayBack) 74 = .ok (.iload_n 3, 1) := by decide +kernel
theorem dX7_wouldPayBack_75 : decode (mc mX7_wouldPayBack) 75 = .ok (.ireturn, 1) := by decide +kernel
theorem dX7_pass_0 : decode (mc mX7_pass) 0 = .ok (.iload_n 1, 1) := by decide +kernel
theorem dX7_pass_1 : decode (mc mX7_pass) 1 = .ok (.iconst 1, 1) := by decide +kernel
theorem dX7_pass_2 : decode (mc mX7_pass) 2 = .ok (.bipush 100, 2) := by decide +kernel
theorem dX7_pass_4 : decode (mc mX7_pass) 4 = .ok (.invokestatic 45, 3) := by decide +kernel
theorem dX7_pass_7 : decode (mc mX7_pass) 7 = .ok (.ifCond .ne 6, 3) := by decide +kernel
theorem dX7_pass_10 : decode (mc mX7_pass) 10 = .ok (.ldc 88, 2) := by decide +kernel
theorem dX7_pass_12 : decode (mc mX7_pass) 12 = .ok (.ireturn, 1) := by decide +kernel
theorem dX7_pass_13 : decode (mc mX7_pass) 13 = .ok (.aload_n 0, 1) := by decide +kernel
theorem dX7_pass_14 : decode (mc mX7_pass) 14 = .ok (.getfield 7, 3) := by decide +kernel
theorem dX7_pass_17 : decode (mc mX7_pass) 17 = .ok (.iconst 3, 1) := by decide +kernel
theorem dX7_pass_18 : decode (mc mX7_pass) 18 = .ok (.iaload, 1) := by decide +kernel
theorem dX7_pass_19 : decode (mc mX7_pass) 19 = .ok (.iload_n 1, 1) := by decide +kernel
theorem dX7_pass_20 : decode (mc mX7_pass) 20 = .ok (.iadd, 1) := by decide +kernel
theorem dX7_pass_21 : decode (mc mX7_pass) 21 = .ok (.sipush 10000, 3) := by decide +kernel
theorem dX7_pass_24 : decode (mc mX7_pass) 24 = .ok (.if_icmp .le 6, 3) := by decide +kernel
theorem dX7_pass_27 : decode (mc mX7_pass) 27 = .ok (.ldc 79, 2) := by decide +kernel
theorem dX7_pass_29 : decode (mc mX7_pass) 29 = .ok (.ireturn, 1) := by decide +kernel
theorem dX7_pass_30 : decode (mc mX7_pass) 30 = .ok (.aload_n 0, 1) := by decide +kernel
theorem dX7_pass_31 : decode (mc mX7_pass) 31 = .ok (.invokevirtual 80, 3) := by decide +kernel
theorem dX7_pass_34 : decode (mc mX7_pass) 34 = .ok (.aload_n 0, 1) := by decide +kernel
theorem dX7_pass_35 : decode (mc mX7_pass) 35 = .ok (.getfield 7, 3) := by decide +kernel
theorem dX7_pass_38 : decode (mc mX7_pass) 38 = .ok (.iconst 3, 1) := by decide +kernel
theorem dX7_pass_39 : decode (mc mX7_pass) 39 = .ok (.dup2, 1) := by decide +kernel
theorem dX7_pass_40 : decode (mc mX7_pass) 40 = .ok (.iaload, 1) := by decide +kernel
theorem dX7_pass_41 : decode (mc mX7_pass) 41 = .ok (.iload_n 1, 1) := by decide +kernel
theorem dX7_pass_42 : decode (mc mX7_pass) 42 = .ok (.iadd, 1) := by decide +kernel
theorem dX7_pass_43 : decode (mc mX7_pass) 43 = .ok (.iastore, 1) := by decide +kernel
theorem dX7_pass_44 : decode (mc mX7_pass) 44 = .ok (.aload_n 0, 1) := by decide +kernel
theorem dX7_pass_45 : decode (mc mX7_pass) 45 = .ok (.getfield 7, 3) := by decide +kernel
theorem dX7_pass_48 : decode (mc mX7_pass) 48 = .ok (.iconst 3, 1) := by decide +kernel
theorem dX7_pass_49 : decode (mc mX7_pass) 49 = .ok (.iaload, 1) := by decide +kernel
theorem dX7_pass_50 : decode (mc mX7_pass) 50 = .ok (.ireturn, 1) := by decide +kernel
theorem dX7_standsAt_0 : decode (mc mX7_standsAt) 0 = .ok (.aload_n 0, 1) := by decide +kernel
theorem dX7_standsAt_1 : decode (mc mX7_standsAt) 1 = .ok (.iload_n 1, 1) := by decide +kernel
theorem dX7_standsAt_2 : decode (mc mX7_standsAt) 2 = .ok (.iconst 4, 1) := by decide +kernel
theorem dX7_standsAt_3 : decode (mc mX7_standsAt) 3 = .ok (.invokevirtual 49, 3) := by decide +kernel
theorem dX7_standsAt_6 : decode (mc mX7_standsAt) 6 = .ok (.iconst 1, 1) := by decide +kernel
theorem dX7_standsAt_7 : decode (mc mX7_standsAt) 7 = .ok (.if_icmp .ne 22, 3) := by decide +kernel
theorem dX7_standsAt_10 : decode (mc mX7_standsAt) 10 = .ok (.iload_n 2, 1) := by decide +kernel
theorem dX7_standsAt_11 : decode (mc mX7_standsAt) 11 = .ok (.aload_n 0, 1) := by decide +kernel
theorem dX7_standsAt_12 : decode (mc mX7_standsAt) 12 = .ok (.iload_n 1, 1) := by decide +kernel
theorem dX7_standsAt_13 : decode (mc mX7_standsAt) 13 = .ok (.iconst 1, 1) := by decide +kernel
theorem dX7_standsAt_14 : decode (mc mX7_standsAt) 14 = .ok (.invokevirtual 49, 3) := by decide +kernel
theorem dX7_standsAt_17 : decode (mc mX7_standsAt) 17 = .ok (.iadd, 1) := by decide +kernel
theorem dX7_standsAt_18 : decode (mc mX7_standsAt) 18 = .ok (.aload_n 0, 1) := by decide +kernel
theorem dX7_standsAt_19 : decode (mc mX7_standsAt) 19 = .ok (.getfield 53, 3) := by decide +kernel
theorem dX7_standsAt_22 : decode (mc mX7_standsAt) 22 = .ok (.if_icmp .gt 7, 3) := by decide +kernel
theorem dX7_standsAt_25 : decode (mc mX7_standsAt) 25 = .ok (.iconst 1, 1) := by decide +kernel
theorem dX7_standsAt_26 : decode (mc mX7_standsAt) 26 = .ok (.goto 4, 3) := by decide +kernel
theorem dX7_standsAt_29 : decode (mc mX7_standsAt) 29 = .ok (.iconst 0, 1) := by decide +kernel
theorem dX7_standsAt_30 : decode (mc mX7_standsAt) 30 = .ok (.istore_n 3, 1) := by decide +kernel
theorem dX7_standsAt_31 : decode (mc mX7_standsAt) 31 = .ok (.iconst 0, 1) := by decide +kernel
theorem dX7_standsAt_32 : decode (mc mX7_standsAt) 32 = .ok (.istore 4, 2) := by decide +kernel
theorem dX7_standsAt_34 : decode (mc mX7_standsAt) 34 = .ok (.iload 4, 2) := by decide +kernel
theorem dX7_standsAt_36 : decode (mc mX7_standsAt) 36 = .ok (.aload_n 0, 1) := by decide +kernel
theorem dX7_standsAt_37 : decode (mc mX7_standsAt) 37 = .ok (.iload_n 1, 1) := by decide +kernel
theorem dX7_standsAt_38 : decode (mc mX7_standsAt) 38 = .ok (.iconst 1, 1) := by decide +kernel
theorem dX7_standsAt_39 : decode (mc mX7_standsAt) 39 = .ok (.invokevirtual 49, 3) := by decide +kernel
theorem dX7_standsAt_42 : decode (mc mX7_standsAt) 42 = .ok (.if_icmp .ge 41, 3) := by decide +kernel
theorem dX7_standsAt_45 : decode (mc mX7_standsAt) 45 = .ok (.iload_n 3, 1) := by decide +kernel
theorem dX7_standsAt_46 : decode (mc mX7_standsAt) 46 = .ok (.ifCond .eq 37, 3) := by decide +kernel
theorem dX7_standsAt_49 : decode (mc mX7_standsAt) 49 = .ok (.aload_n 0, 1) := by decide +kernel
theorem dX7_standsAt_50 : decode (mc mX7_standsAt) 50 = .ok (.getfield 13, 3) := by decide +kernel
theorem dX7_standsAt_53 : decode (mc mX7_standsAt) 53 = .ok (.iload_n 2, 1) := by decide +kernel
theorem dX7_standsAt_54 : decode (mc mX7_standsAt) 54 = .ok (.iload 4, 2) := by decide +kernel
theorem dX7_standsAt_56 : decode (mc mX7_standsAt) 56 = .ok (.iadd, 1) := by decide +kernel
theorem dX7_standsAt_57 : decode (mc mX7_standsAt) 57 = .ok (.iaload, 1) := by decide +kernel
theorem dX7_standsAt_58 : decode (mc mX7_standsAt) 58 = .ok (.aload_n 0, 1) := by decide +kernel
theorem dX7_standsAt_59 : decode (mc mX7_standsAt) 59 = .ok (.iload_n 1, 1) := by decide +kernel
theorem dX7_standsAt_60 : decode (mc mX7_standsAt) 60 = .ok (.bipush 6, 2) := by decide +kernel
theorem dX7_standsAt_62 : decode (mc mX7_standsAt) 62 = .ok (.iload 4, 2) := by decide +kernel
theorem dX7_standsAt_64 : decode (mc mX7_standsAt) 64 = .ok (.iadd, 1) := by decide +kernel
theorem dX7_standsAt_65 : decode (mc mX7_standsAt) 65 = .ok (.invokevirtual 49, 3) := by decide +kernel
theorem dX7_standsAt_68 : decode (mc mX7_standsAt) 68 = .ok (.if_icmp .ne 7, 3) := by decide +kernel
theorem dX7_standsAt_71 : decode (mc mX7_standsAt) 71 = .ok (.iconst 1, 1) := by decide +kernel
theorem dX7_standsAt_72 : decode (mc mX7_standsAt) 72 = .ok (.goto 4, 3) := by decide +kernel
theorem dX7_standsAt_75 : decode (mc mX7_standsAt) 75 = .ok (.iconst 0, 1) := by decide +kernel
theorem dX7_standsAt_76 : decode (mc mX7_standsAt) 76 = .ok (.istore_n 3, 1) := by decide +kernel
theorem dX7_standsAt_77 : decode (mc mX7_standsAt) 77 = .ok (.iinc 4 1, 3) := by decide +kernel
theorem dX7_standsAt_80 : decode (mc mX7_standsAt) 80 = .ok (.goto (-46), 3) := by decide +kernel
theorem dX7_standsAt_83 : decode (mc mX7_standsAt) 83 = .ok (.iload_n 3, 1) := by decide +kernel
theorem dX7_standsAt_84 : decode (mc mX7_standsAt) 84 = .ok (.ireturn, 1) := by decide +kernel
theorem dX7_composes_0 : decode (mc mX7_composes) 0 = .ok (.aload_n 0, 1) := by decide +kernel
theorem dX7_composes_1 : decode (mc mX7_composes) 1 = .ok (.invokevirtual 76, 3) := by decide +kernel
theorem dX7_composes_4 : decode (mc mX7_composes) 4 = .ok (.aload_n 0, 1) := by decide +kernel
theorem dX7_composes_5 : decode (mc mX7_composes) 5 = .ok (.getfield 25, 3) := by decide +kernel
theorem dX7_composes_8 : decode (mc mX7_composes) 8 = .ok (.aload_n 0, 1) := by decide +kernel
theorem dX7_composes_9 : decode (mc mX7_composes) 9 = .ok (.getfield 53, 3) := by decide +kernel
theorem dX7_composes_12 : decode (mc mX7_composes) 12 = .ok (.iconst 0, 1) := by decide +kernel
theorem dX7_composes_13 : decode (mc mX7_composes) 13 = .ok (.iastore, 1) := by decide +kernel
theorem dX7_composes_14 : decode (mc mX7_composes) 14 = .ok (.aload_n 0, 1) := by decide +kernel
theorem dX7_composes_15 : decode (mc mX7_composes) 15 = .ok (.getfield 28, 3) := by decide +kernel
theorem dX7_composes_18 : decode (mc mX7_composes) 18 = .ok (.aload_n 0, 1) := by decide +kernel
theorem dX7_composes_19 : decode (mc mX7_composes) 19 = .ok (.getfield 53, 3) := by decide +kernel
theorem dX7_composes_22 : decode (mc mX7_composes) 22 = .ok (.iconst 0, 1) := by decide +kernel
theorem dX7_composes_23 : decode (mc mX7_composes) 23 = .ok (.iastore, 1) := by decide +kernel
theorem dX7_composes_24 : decode (mc mX7_composes) 24 = .ok (.aload_n 0, 1) := by decide +kernel
theorem dX7_composes_25 : decode (mc mX7_composes) 25 = .ok (.getfield 53, 3) := by decide +kernel
theorem dX7_composes_28 : decode (mc mX7_composes) 28 = .ok (.iconst 1, 1) := by decide +kernel
theorem dX7_composes_29 : decode (mc mX7_composes) 29 = .ok (.isub, 1) := by decide +kernel
theorem dX7_composes_30 : decode (mc mX7_composes) 30 = .ok (.istore_n 2, 1) := by decide +kernel
theorem dX7_composes_31 : decode (mc mX7_composes) 31 = .ok (.iload_n 2, 1) := by decide +kernel
theorem dX7_composes_32 : decode (mc mX7_composes) 32 = .ok (.ifCond .lt 185, 3) := by decide +kernel
theorem dX7_composes_35 : decode (mc mX7_composes) 35 = .ok (.aload_n 0, 1) := by decide +kernel
theorem dX7_composes_36 : decode (mc mX7_composes) 36 = .ok (.getfield 25, 3) := by decide +kernel
theorem dX7_composes_39 : decode (mc mX7_composes) 39 = .ok (.iload_n 2, 1) := by decide +kernel
theorem dX7_composes_40 : decode (mc mX7_composes) 40 = .ok (.ldc 121, 2) := by decide +kernel
theorem dX7_composes_42 : decode (mc mX7_composes) 42 = .ok (.iastore, 1) := by decide +kernel
theorem dX7_composes_43 : decode (mc mX7_composes) 43 = .ok (.aload_n 0, 1) := by decide +kernel
theorem dX7_composes_44 : decode (mc mX7_composes) 44 = .ok (.getfield 28, 3) := by decide +kernel
theorem dX7_composes_47 : decode (mc mX7_composes) 47 = .ok (.iload_n 2, 1) := by decide +kernel
theorem dX7_composes_48 : decode (mc mX7_composes) 48 = .ok (.iconst 0, 1) := by decide +kernel
theorem dX7_composes_49 : decode (mc mX7_composes) 49 = .ok (.iastore, 1) := by decide +kernel
theorem dX7_composes_50 : decode (mc mX7_composes) 50 = .ok (.aload_n 0, 1) := by decide +kernel
theorem dX7_composes_51 : decode (mc mX7_composes) 51 = .ok (.getfield 31, 3) := by decide +kernel
theorem dX7_composes_54 : decode (mc mX7_composes) 54 = .ok (.iload_n 2, 1) := by decide +kernel
theorem dX7_composes_55 : decode (mc mX7_composes) 55 = .ok (.ldc 121, 2) := by decide +kernel
theorem dX7_composes_57 : decode (mc mX7_composes) 57 = .ok (.iastore, 1) := by decide +kernel
theorem dX7_composes_58 : decode (mc mX7_composes) 58 = .ok (.iconst 0, 1) := by decide +kernel
theorem dX7_composes_59 : decode (mc mX7_composes) 59 = .ok (.istore_n 3, 1) := by decide +kernel
theorem dX7_composes_60 : decode (mc mX7_composes) 60 = .ok (.iload_n 3, 1) := by decide +kernel
theorem dX7_composes_61 : decode (mc mX7_composes) 61 = .ok (.aload_n 0, 1) := by decide +kernel
theorem dX7_composes_62 : decode (mc mX7_composes) 62 = .ok (.getfield 7, 3) := by decide +kernel
theorem dX7_composes_65 : decode (mc mX7_composes) 65 = .ok (.iconst 1, 1) := by decide +kernel
theorem dX7_composes_66 : decode (mc mX7_composes) 66 = .ok (.iaload, 1) := by decide +kernel
theorem dX7_composes_67 : decode (mc mX7_composes) 67 = .ok (.if_icmp .ge 144, 3) := by decide +kernel
theorem dX7_composes_70 : decode (mc mX7_composes) 70 = .ok (.aload_n 0, 1) := by decide +kernel
theorem dX7_composes_71 : decode (mc mX7_composes) 71 = .ok (.iload_n 3, 1) := by decide +kernel
theorem dX7_composes_72 : decode (mc mX7_composes) 72 = .ok (.iload_n 2, 1) := by decide +kernel
theorem dX7_composes_73 : decode (mc mX7_composes) 73 = .ok (.invokevirtual 151, 3) := by decide +kernel
theorem dX7_composes_76 : decode (mc mX7_composes) 76 = .ok (.ifCond .eq 129, 3) := by decide +kernel
theorem dX7_composes_79 : decode (mc mX7_composes) 79 = .ok (.aload_n 0, 1) := by decide +kernel
theorem dX7_composes_80 : decode (mc mX7_composes) 80 = .ok (.getfield 25, 3) := by decide +kernel
theorem dX7_composes_83 : decode (mc mX7_composes) 83 = .ok (.iload_n 2, 1) := by decide +kernel
theorem dX7_composes_84 : decode (mc mX7_composes) 84 = .ok (.aload_n 0, 1) := by decide +kernel
theorem dX7_composes_85 : decode (mc mX7_composes) 85 = .ok (.iload_n 3, 1) := by decide +kernel
theorem dX7_composes_86 : decode (mc mX7_composes) 86 = .ok (.iconst 1, 1) := by decide +kernel
theorem dX7_composes_87 : decode (mc mX7_composes) 87 = .ok (.invokevirtual 49, 3) := by decide +kernel
theorem dX7_composes_90 : decode (mc mX7_composes) 90 = .ok (.iadd, 1) := by decide +kernel
theorem dX7_composes_91 : decode (mc mX7_composes) 91 = .ok (.iaload, 1) := by decide +kernel
theorem dX7_composes_92 : decode (mc mX7_composes) 92 = .ok (.ldc 121, 2) := by decide +kernel
theorem dX7_composes_94 : decode (mc mX7_composes) 94 = .ok (.if_icmp .eq 111, 3) := by decide +kernel
theorem dX7_composes_97 : decode (mc mX7_composes) 97 = .ok (.aload_n 0, 1) := by decide +kernel
theorem dX7_composes_98 : decode (mc mX7_composes) 98 = .ok (.getfield 25, 3) := by decide +kernel
theorem dX7_composes_101 : decode (mc mX7_composes) 101 = .ok (.iload_n 2, 1) := by decide +kernel
theorem dX7_composes_102 : decode (mc mX7_composes) 102 = .ok (.aload_n 0, 1) := by decide +kernel
theorem dX7_composes_103 : decode (mc mX7_composes) 103 = .ok (.iload_n 3, 1) := by decide +kernel
theorem dX7_composes_104 : decode (mc mX7_composes) 104 = .ok (.iconst 1, 1) := by decide +kernel
theorem dX7_composes_105 : decode (mc mX7_composes) 105 = .ok (.invokevirtual 49, 3) := by decide +kernel
theorem dX7_composes_108 : decode (mc mX7_composes) 108 = .ok (.iadd, 1) := by decide +kernel
theorem dX7_composes_109 : decode (mc mX7_composes) 109 = .ok (.iaload, 1) := by decide +kernel
theorem dX7_composes_110 : decode (mc mX7_composes) 110 = .ok (.aload_n 0, 1) := by decide +kernel
theorem dX7_composes_111 : decode (mc mX7_composes) 111 = .ok (.iload_n 3, 1) := by decide +kernel
theorem dX7_composes_112 : decode (mc mX7_composes) 112 = .ok (.bipush 100, 2) := by decide +kernel
theorem dX7_composes_114 : decode (mc mX7_composes) 114 = .ok (.iload_n 1, 1) := by decide +kernel
theorem dX7_composes_115 : decode (mc mX7_composes) 115 = .ok (.invokevirtual 138, 3) := by decide +kernel
theorem dX7_composes_118 : decode (mc mX7_composes) 118 = .ok (.iadd, 1) := by decide +kernel
theorem dX7_composes_119 : decode (mc mX7_composes) 119 = .ok (.istore 4, 2) := by decide +kernel
theorem dX7_composes_121 : decode (mc mX7_composes) 121 = .ok (.iconst 1, 1) := by decide +kernel
theorem dX7_composes_122 : decode (mc mX7_composes) 122 = .ok (.aload_n 0, 1) := by decide +kernel
theorem dX7_composes_123 : decode (mc mX7_composes) 123 = .ok (.getfield 28, 3) := by decide +kernel
theorem dX7_composes_126 : decode (mc mX7_composes) 126 = .ok (.iload_n 2, 1) := by decide +kernel
theorem dX7_composes_127 : decode (mc mX7_composes) 127 = .ok (.aload_n 0, 1) := by decide +kernel
theorem dX7_composes_128 : decode (mc mX7_composes) 128 = .ok (.iload_n 3, 1) := by decide +kernel
theorem dX7_composes_129 : decode (mc mX7_composes) 129 = .ok (.iconst 1, 1) := by decide +kernel
theorem dX7_composes_130 : decode (mc mX7_composes) 130 = .ok (.invokevirtual 49, 3) := by decide +kernel
theorem dX7_composes_133 : decode (mc mX7_composes) 133 = .ok (.iadd, 1) := by decide +kernel
theorem dX7_composes_134 : decode (mc mX7_composes) 134 = .ok (.iaload, 1) := by decide +kernel
theorem dX7_composes_135 : decode (mc mX7_composes) 135 = .ok (.iadd, 1) := by decide +kernel
theorem dX7_composes_136 : decode (mc mX7_composes) 136 = .ok (.istore 5, 2) := by decide +kernel
theorem dX7_composes_138 : decode (mc mX7_composes) 138 = .ok (.aload_n 0, 1) := by decide +kernel
theorem dX7_composes_139 : decode (mc mX7_composes) 139 = .ok (.getfield 25, 3) := by decide +kernel
theorem dX7_composes_142 : decode (mc mX7_composes) 142 = .ok (.iload_n 2, 1) := by decide +kernel
theorem dX7_composes_143 : decode (mc mX7_composes) 143 = .ok (.iaload, 1) := by decide +kernel
theorem dX7_composes_144 : decode (mc mX7_composes) 144 = .ok (.ldc 121, 2) := by decide +kernel
theorem dX7_composes_146 : decode (mc mX7_composes) 146 = .ok (.if_icmp .eq 36, 3) := by decide +kernel
theorem dX7_composes_149 : decode (mc mX7_composes) 149 = .ok (.iload 4, 2) := by decide +kernel
theorem dX7_composes_151 : decode (mc mX7_composes) 151 = .ok (.aload_n 0, 1) := by decide +kernel
theorem dX7_composes_152 : decode (mc mX7_composes) 152 = .ok (.getfield 25, 3) := by decide +kernel
theorem dX7_composes_155 : decode (mc mX7_composes) 155 = .ok (.iload_n 2, 1) := by decide +kernel
theorem dX7_composes_156 : decode (mc mX7_composes) 156 = .ok (.iaload, 1) := by decide +kernel
theorem dX7_composes_157 : decode (mc mX7_composes) 157 = .ok (.if_icmp .lt 25, 3) := by decide +kernel
theorem dX7_composes_160 : decode (mc mX7_composes) 160 = .ok (.iload 4, 2) := by decide +kernel
theorem dX7_composes_162 : decode (mc mX7_composes) 162 = .ok (.aload_n 0, 1) := by decide +kernel
theorem dX7_composes_163 : decode (mc mX7_composes) 163 = .ok (.getfield 25, 3) := by decide +kernel
theorem dX7_composes_166 : decode (mc mX7_composes) 166 = .ok (.iload_n 2, 1) := by decide +kernel
theorem dX7_composes_167 : decode (mc mX7_composes) 167 = .ok (.iaload, 1) := by decide +kernel
theorem dX7_composes_168 : decode (mc mX7_composes) 168 = .ok (.if_icmp .ne 37, 3) := by decide +kernel
theorem dX7_composes_171 : decode (mc mX7_composes) 171 = .ok (.iload 5, 2) := by decide +kernel
theorem dX7_composes_173 : decode (mc mX7_composes) 173 = .ok (.aload_n 0, 1) := by decide +kernel
theorem dX7_composes_174 : decode (mc mX7_composes) 174 = .ok (.getfield 28, 3) := by decide +kernel
theorem dX7_composes_177 : decode (mc mX7_composes) 177 = .ok (.iload_n 2, 1) := by decide +kernel
theorem dX7_composes_178 : decode (mc mX7_composes) 178 = .ok (.iaload, 1) := by decide +kernel
theorem dX7_composes_179 : decode (mc mX7_composes) 179 = .ok (.if_icmp .ge 26, 3) := by decide +kernel
theorem dX7_composes_182 : decode (mc mX7_composes) 182 = .ok (.aload_n 0, 1) := by decide +kernel
theorem dX7_composes_183 : decode (mc mX7_composes) 183 = .ok (.getfield 25, 3) := by decide +kernel
theorem dX7_composes_186 : decode (mc mX7_composes) 186 = .ok (.iload_n 2, 1) := by decide +kernel
theorem dX7_composes_187 : decode (mc mX7_composes) 187 = .ok (.iload 4, 2) := by decide +kernel
theorem dX7_composes_189 : decode (mc mX7_composes) 189 = .ok (.iastore, 1) := by decide +kernel
theorem dX7_composes_190 : decode (mc mX7_composes) 190 = .ok (.aload_n 0, 1) := by decide +kernel
theorem dX7_composes_191 : decode (mc mX7_composes) 191 = .ok (.getfield 28, 3) := by decide +kernel
theorem dX7_composes_194 : decode (mc mX7_composes) 194 = .ok (.iload_n 2, 1) := by decide +kernel
theorem dX7_composes_195 : decode (mc mX7_composes) 195 = .ok (.iload 5, 2) := by decide +kernel
theorem dX7_composes_197 : decode (mc mX7_composes) 197 = .ok (.iastore, 1) := by decide +kernel
theorem dX7_composes_198 : decode (mc mX7_composes) 198 = .ok (.aload_n 0, 1) := by decide +kernel
theorem dX7_composes_199 : decode (mc mX7_composes) 199 = .ok (.getfield 31, 3) := by decide +kernel
theorem dX7_composes_202 : decode (mc mX7_composes) 202 = .ok (.iload_n 2, 1) := by decide +kernel
theorem dX7_composes_203 : decode (mc mX7_composes) 203 = .ok (.iload_n 3, 1) := by decide +kernel
theorem dX7_composes_204 : decode (mc mX7_composes) 204 = .ok (.iastore, 1) := by decide +kernel
theorem dX7_composes_205 : decode (mc mX7_composes) 205 = .ok (.iinc 3 1, 3) := by decide +kernel
theorem dX7_composes_208 : decode (mc mX7_composes) 208 = .ok (.goto (-148), 3) := by decide +kernel
theorem dX7_composes_211 : decode (mc mX7_composes) 211 = .ok (.iinc 2 (-1), 3) := by decide +kernel
theorem dX7_composes_214 : decode (mc mX7_composes) 214 = .ok (.goto (-183), 3) := by decide +kernel
theorem dX7_composes_217 : decode (mc mX7_composes) 217 = .ok (.return_, 1) := by decide +kernel
theorem dX7_cheapest_0 : decode (mc mX7_cheapest) 0 = .ok (.aload_n 0, 1) := by decide +kernel
theorem dX7_cheapest_1 : decode (mc mX7_cheapest) 1 = .ok (.iload_n 1, 1) := by decide +kernel
theorem dX7_cheapest_2 : decode (mc mX7_cheapest) 2 = .ok (.invokevirtual 83, 3) := by decide +kernel
theorem dX7_cheapest_5 : decode (mc mX7_cheapest) 5 = .ok (.ifCond .ne 6, 3) := by decide +kernel
theorem dX7_cheapest_8 : decode (mc mX7_cheapest) 8 = .ok (.ldc 87, 2) := by decide +kernel
theorem dX7_cheapest_10 : decode (mc mX7_cheapest) 10 = .ok (.ireturn, 1) := by decide +kernel
theorem dX7_cheapest_11 : decode (mc mX7_cheapest) 11 = .ok (.aload_n 0, 1) := by decide +kernel
theorem dX7_cheapest_12 : decode (mc mX7_cheapest) 12 = .ok (.invokevirtual 125, 3) := by decide +kernel
theorem dX7_cheapest_15 : decode (mc mX7_cheapest) 15 = .ok (.ldc 121, 2) := by decide +kernel
theorem dX7_cheapest_17 : decode (mc mX7_cheapest) 17 = .ok (.if_icmp .eq 6, 3) := by decide +kernel
theorem dX7_cheapest_20 : decode (mc mX7_cheapest) 20 = .ok (.ldc 128, 2) := by decide +kernel
theorem dX7_cheapest_22 : decode (mc mX7_cheapest) 22 = .ok (.ireturn, 1) := by decide +kernel
theorem dX7_cheapest_23 : decode (mc mX7_cheapest) 23 = .ok (.aload_n 0, 1) := by decide +kernel
theorem dX7_cheapest_24 : decode (mc mX7_cheapest) 24 = .ok (.iload_n 1, 1) := by decide +kernel
theorem dX7_cheapest_25 : decode (mc mX7_cheapest) 25 = .ok (.invokevirtual 154, 3) := by decide +kernel
theorem dX7_cheapest_28 : decode (mc mX7_cheapest) 28 = .ok (.aload_n 0, 1) := by decide +kernel
theorem dX7_cheapest_29 : decode (mc mX7_cheapest) 29 = .ok (.getfield 25, 3) := by decide +kernel
theorem dX7_cheapest_32 : decode (mc mX7_cheapest) 32 = .ok (.iconst 0, 1) := by decide +kernel
theorem dX7_cheapest_33 : decode (mc mX7_cheapest) 33 = .ok (.iaload, 1) := by decide +kernel
theorem dX7_cheapest_34 : decode (mc mX7_cheapest) 34 = .ok (.ireturn, 1) := by decide +kernel
theorem dX7_piece_0 : decode (mc mX7_piece) 0 = .ok (.aload_n 0, 1) := by decide +kernel
theorem dX7_piece_1 : decode (mc mX7_piece) 1 = .ok (.iload_n 1, 1) := by decide +kernel
theorem dX7_piece_2 : decode (mc mX7_piece) 2 = .ok (.invokevirtual 83, 3) := by decide +kernel
theorem dX7_piece_5 : decode (mc mX7_piece) 5 = .ok (.ifCond .ne 6, 3) := by decide +kernel
theorem dX7_piece_8 : decode (mc mX7_piece) 8 = .ok (.ldc 87, 2) := by decide +kernel
theorem dX7_piece_10 : decode (mc mX7_piece) 10 = .ok (.ireturn, 1) := by decide +kernel
theorem dX7_piece_11 : decode (mc mX7_piece) 11 = .ok (.iload_n 2, 1) := by decide +kernel
theorem dX7_piece_12 : decode (mc mX7_piece) 12 = .ok (.ifCond .ge 6, 3) := by decide +kernel
theorem dX7_piece_15 : decode (mc mX7_piece) 15 = .ok (.ldc 88, 2) := by decide +kernel
theorem dX7_piece_17 : decode (mc mX7_piece) 17 = .ok (.ireturn, 1) := by decide +kernel
theorem dX7_piece_18 : decode (mc mX7_piece) 18 = .ok (.aload_n 0, 1) := by decide +kernel
theorem dX7_piece_19 : decode (mc mX7_piece) 19 = .ok (.invokevirtual 125, 3) := by decide +kernel
theorem dX7_piece_22 : decode (mc mX7_piece) 22 = .ok (.ldc 121, 2) := by decide +kernel
theorem dX7_piece_24 : decode (mc mX7_piece) 24 = .ok (.if_icmp .eq 6, 3) := by decide +kernel
theorem dX7_piece_27 : decode (mc mX7_piece) 27 = .ok (.ldc 128, 2) := by decide +kernel
theorem dX7_piece_29 : decode (mc mX7_piece) 29 = .ok (.ireturn, 1) := by decide +kernel
theorem dX7_piece_30 : decode (mc mX7_piece) 30 = .ok (.aload_n 0, 1) := by decide +kernel
theorem dX7_piece_31 : decode (mc mX7_piece) 31 = .ok (.iload_n 1, 1) := by decide +kernel
theorem dX7_piece_32 : decode (mc mX7_piece) 32 = .ok (.invokevirtual 154, 3) := by decide +kernel
theorem dX7_piece_35 : decode (mc mX7_piece) 35 = .ok (.aload_n 0, 1) := by decide +kernel
theorem dX7_piece_36 : decode (mc mX7_piece) 36 = .ok (.getfield 25, 3) := by decide +kernel
theorem dX7_piece_39 : decode (mc mX7_piece) 39 = .ok (.iconst 0, 1) := by decide +kernel
theorem dX7_piece_40 : decode (mc mX7_piece) 40 = .ok (.iaload, 1) := by decide +kernel
theorem dX7_piece_41 : decode (mc mX7_piece) 41 = .ok (.ldc 121, 2) := by decide +kernel
theorem dX7_piece_43 : decode (mc mX7_piece) 43 = .ok (.if_icmp .eq 13, 3) := by decide +kernel
theorem dX7_piece_46 : decode (mc mX7_piece) 46 = .ok (.iload_n 2, 1) := by decide +kernel
theorem dX7_piece_47 : decode (mc mX7_piece) 47 = .ok (.aload_n 0, 1) := by decide +kernel
theorem dX7_piece_48 : decode (mc mX7_piece) 48 = .ok (.getfield 28, 3) := by decide +kernel
theorem dX7_piece_51 : decode (mc mX7_piece) 51 = .ok (.iconst 0, 1) := by decide +kernel
theorem dX7_piece_52 : decode (mc mX7_piece) 52 = .ok (.iaload, 1) := by decide +kernel
theorem dX7_piece_53 : decode (mc mX7_piece) 53 = .ok (.if_icmp .lt 6, 3) := by decide +kernel
theorem dX7_piece_56 : decode (mc mX7_piece) 56 = .ok (.ldc 121, 2) := by decide +kernel
theorem dX7_piece_58 : decode (mc mX7_piece) 58 = .ok (.ireturn, 1) := by decide +kernel
theorem dX7_piece_59 : decode (mc mX7_piece) 59 = .ok (.iconst 0, 1) := by decide +kernel
theorem dX7_piece_60 : decode (mc mX7_piece) 60 = .ok (.istore_n 3, 1) := by decide +kernel
theorem dX7_piece_61 : decode (mc mX7_piece) 61 = .ok (.iconst 0, 1) := by decide +kernel
theorem dX7_piece_62 : decode (mc mX7_piece) 62 = .ok (.istore 4, 2) := by decide +kernel
theorem dX7_piece_64 : decode (mc mX7_piece) 64 = .ok (.iload 4, 2) := by decide +kernel
theorem dX7_piece_66 : decode (mc mX7_piece) 66 = .ok (.iload_n 2, 1) := by decide +kernel
theorem dX7_piece_67 : decode (mc mX7_piece) 67 = .ok (.if_icmp .ge 23, 3) := by decide +kernel
theorem dX7_piece_70 : decode (mc mX7_piece) 70 = .ok (.iload_n 3, 1) := by decide +kernel
theorem dX7_piece_71 : decode (mc mX7_piece) 71 = .ok (.aload_n 0, 1) := by decide +kernel
theorem dX7_piece_72 : decode (mc mX7_piece) 72 = .ok (.aload_n 0, 1) := by decide +kernel
theorem dX7_piece_73 : decode (mc mX7_piece) 73 = .ok (.getfield 31, 3) := by decide +kernel
theorem dX7_piece_76 : decode (mc mX7_piece) 76 = .ok (.iload_n 3, 1) := by decide +kernel
theorem dX7_piece_77 : decode (mc mX7_piece) 77 = .ok (.iaload, 1) := by decide +kernel
theorem dX7_piece_78 : decode (mc mX7_piece) 78 = .ok (.iconst 1, 1) := by decide +kernel
theorem dX7_piece_79 : decode (mc mX7_piece) 79 = .ok (.invokevirtual 49, 3) := by decide +kernel
theorem dX7_piece_82 : decode (mc mX7_piece) 82 = .ok (.iadd, 1) := by decide +kernel
theorem dX7_piece_83 : decode (mc mX7_piece) 83 = .ok (.istore_n 3, 1) := by decide +kernel
theorem dX7_piece_84 : decode (mc mX7_piece) 84 = .ok (.iinc 4 1, 3) := by decide +kernel
theorem dX7_piece_87 : decode (mc mX7_piece) 87 = .ok (.goto (-23), 3) := by decide +kernel
theorem dX7_piece_90 : decode (mc mX7_piece) 90 = .ok (.aload_n 0, 1) := by decide +kernel
theorem dX7_piece_91 : decode (mc mX7_piece) 91 = .ok (.getfield 31, 3) := by decide +kernel
theorem dX7_piece_94 : decode (mc mX7_piece) 94 = .ok (.iload_n 3, 1) := by decide +kernel
theorem dX7_piece_95 : decode (mc mX7_piece) 95 = .ok (.iaload, 1) := by decide +kernel
theorem dX7_piece_96 : decode (mc mX7_piece) 96 = .ok (.ireturn, 1) := by decide +kernel
theorem dX7_type_0 : decode (mc mX7_type) 0 = .ok (.iload_n 1, 1) := by decide +kernel
theorem dX7_type_1 : decode (mc mX7_type) 1 = .ok (.iconst 0, 1) := by decide +kernel
theorem dX7_type_2 : decode (mc mX7_type) 2 = .ok (.sipush 255, 3) := by decide +kernel
theorem dX7_type_5 : decode (mc mX7_type) 5 = .ok (.invokestatic 45, 3) := by decide +kernel
theorem dX7_type_8 : decode (mc mX7_type) 8 = .ok (.ifCond .ne 6, 3) := by decide +kernel
theorem dX7_type_11 : decode (mc mX7_type) 11 = .ok (.ldc 88, 2) := by decide +kernel
theorem dX7_type_13 : decode (mc mX7_type) 13 = .ok (.ireturn, 1) := by decide +kernel
theorem dX7_type_14 : decode (mc mX7_type) 14 = .ok (.aload_n 0, 1) := by decide +kernel
theorem dX7_type_15 : decode (mc mX7_type) 15 = .ok (.getfield 59, 3) := by decide +kernel
theorem dX7_type_18 : decode (mc mX7_type) 18 = .ok (.bipush 40, 2) := by decide +kernel
theorem dX7_type_20 : decode (mc mX7_type) 20 = .ok (.if_icmp .ne 6, 3) := by decide +kernel
theorem dX7_type_23 : decode (mc mX7_type) 23 = .ok (.ldc 79, 2) := by decide +kernel
theorem dX7_type_25 : decode (mc mX7_type) 25 = .ok (.ireturn, 1) := by decide +kernel
theorem dX7_type_26 : decode (mc mX7_type) 26 = .ok (.aload_n 0, 1) := by decide +kernel
theorem dX7_type_27 : decode (mc mX7_type) 27 = .ok (.getfield 34, 3) := by decide +kernel
theorem dX7_type_30 : decode (mc mX7_type) 30 = .ok (.aload_n 0, 1) := by decide +kernel
theorem dX7_type_31 : decode (mc mX7_type) 31 = .ok (.getfield 59, 3) := by decide +kernel
theorem dX7_type_34 : decode (mc mX7_type) 34 = .ok (.iload_n 1, 1) := by decide +kernel
theorem dX7_type_35 : decode (mc mX7_type) 35 = .ok (.iastore, 1) := by decide +kernel
theorem dX7_type_36 : decode (mc mX7_type) 36 = .ok (.aload_n 0, 1) := by decide +kernel
theorem dX7_type_37 : decode (mc mX7_type) 37 = .ok (.dup, 1) := by decide +kernel
theorem dX7_type_38 : decode (mc mX7_type) 38 = .ok (.getfield 59, 3) := by decide +kernel
theorem dX7_type_41 : decode (mc mX7_type) 41 = .ok (.iconst 1, 1) := by decide +kernel
theorem dX7_type_42 : decode (mc mX7_type) 42 = .ok (.iadd, 1) := by decide +kernel
theorem dX7_type_43 : decode (mc mX7_type) 43 = .ok (.putfield 59, 3) := by decide +kernel
theorem dX7_type_46 : decode (mc mX7_type) 46 = .ok (.aload_n 0, 1) := by decide +kernel
theorem dX7_type_47 : decode (mc mX7_type) 47 = .ok (.getfield 59, 3) := by decide +kernel
theorem dX7_type_50 : decode (mc mX7_type) 50 = .ok (.ireturn, 1) := by decide +kernel
theorem dX7_clearText_0 : decode (mc mX7_clearText) 0 = .ok (.aload_n 0, 1) := by decide +kernel
theorem dX7_clearText_1 : decode (mc mX7_clearText) 1 = .ok (.getfield 59, 3) := by decide +kernel
theorem dX7_clearText_4 : decode (mc mX7_clearText) 4 = .ok (.istore_n 1, 1) := by decide +kernel
theorem dX7_clearText_5 : decode (mc mX7_clearText) 5 = .ok (.aload_n 0, 1) := by decide +kernel
theorem dX7_clearText_6 : decode (mc mX7_clearText) 6 = .ok (.iconst 0, 1) := by decide +kernel
theorem dX7_clearText_7 : decode (mc mX7_clearText) 7 = .ok (.putfield 59, 3) := by decide +kernel
theorem dX7_clearText_10 : decode (mc mX7_clearText) 10 = .ok (.iload_n 1, 1) := by decide +kernel
theorem dX7_clearText_11 : decode (mc mX7_clearText) 11 = .ok (.ireturn, 1) := by decide +kernel
theorem dX7_textFault_0 : decode (mc mX7_textFault) 0 = .ok (.iconst 0, 1) := by decide +kernel
theorem dX7_textFault_1 : decode (mc mX7_textFault) 1 = .ok (.istore_n 1, 1) := by decide +kernel
theorem dX7_textFault_2 : decode (mc mX7_textFault) 2 = .ok (.iconst 0, 1) := by decide +kernel
theorem dX7_textFault_3 : decode (mc mX7_textFault) 3 = .ok (.istore_n 2, 1) := by decide +kernel
theorem dX7_textFault_4 : decode (mc mX7_textFault) 4 = .ok (.iload_n 2, 1) := by decide +kernel
theorem dX7_textFault_5 : decode (mc mX7_textFault) 5 = .ok (.aload_n 0, 1) := by decide +kernel
theorem dX7_textFault_6 : decode (mc mX7_textFault) 6 = .ok (.getfield 59, 3) := by decide +kernel
theorem dX7_textFault_9 : decode (mc mX7_textFault) 9 = .ok (.if_icmp .ge 58, 3) := by decide +kernel
theorem dX7_textFault_12 : decode (mc mX7_textFault) 12 = .ok (.aload_n 0, 1) := by decide +kernel
theorem dX7_textFault_13 : decode (mc mX7_textFault) 13 = .ok (.getfield 34, 3) := by decide +kernel
theorem dX7_textFault_16 : decode (mc mX7_textFault) 16 = .ok (.iload_n 2, 1) := by decide +kernel
theorem dX7_textFault_17 : decode (mc mX7_textFault) 17 = .ok (.iaload, 1) := by decide +kernel
theorem dX7_textFault_18 : decode (mc mX7_textFault) 18 = .ok (.bipush 97, 2) := by decide +kernel
theorem dX7_textFault_20 : decode (mc mX7_textFault) 20 = .ok (.bipush 122, 2) := by decide +kernel
theorem dX7_textFault_22 : decode (mc mX7_textFault) 22 = .ok (.invokestatic 45, 3) := by decide +kernel
theorem dX7_textFault_25 : decode (mc mX7_textFault) 25 = .ok (.istore_n 3, 1) := by decide +kernel
theorem dX7_textFault_26 : decode (mc mX7_textFault) 26 = .ok (.iload_n 1, 1) := by decide +kernel
theorem dX7_textFault_27 : decode (mc mX7_textFault) 27 = .ok (.iload_n 3, 1) := by decide +kernel
theorem dX7_textFault_28 : decode (mc mX7_textFault) 28 = .ok (.ifCond .eq 7, 3) := by decide +kernel
theorem dX7_textFault_31 : decode (mc mX7_textFault) 31 = .ok (.iconst 1, 1) := by decide +kernel
theorem dX7_textFault_32 : decode (mc mX7_textFault) 32 = .ok (.goto 4, 3) := by decide +kernel
theorem dX7_textFault_35 : decode (mc mX7_textFault) 35 = .ok (.iconst 0, 1) := by decide +kernel
theorem dX7_textFault_36 : decode (mc mX7_textFault) 36 = .ok (.iadd, 1) := by decide +kernel
theorem dX7_textFault_37 : decode (mc mX7_textFault) 37 = .ok (.istore_n 1, 1) := by decide +kernel
theorem dX7_textFault_38 : decode (mc mX7_textFault) 38 = .ok (.iload_n 1, 1) := by decide +kernel
theorem dX7_textFault_39 : decode (mc mX7_textFault) 39 = .ok (.bipush 10, 2) := by decide +kernel
theorem dX7_textFault_41 : decode (mc mX7_textFault) 41 = .ok (.if_icmp .gt 18, 3) := by decide +kernel
theorem dX7_textFault_44 : decode (mc mX7_textFault) 44 = .ok (.iload_n 3, 1) := by decide +kernel
theorem dX7_textFault_45 : decode (mc mX7_textFault) 45 = .ok (.ifCond .ne 16, 3) := by decide +kernel
theorem dX7_textFault_48 : decode (mc mX7_textFault) 48 = .ok (.aload_n 0, 1) := by decide +kernel
theorem dX7_textFault_49 : decode (mc mX7_textFault) 49 = .ok (.getfield 34, 3) := by decide +kernel
theorem dX7_textFault_52 : decode (mc mX7_textFault) 52 = .ok (.iload_n 2, 1) := by decide +kernel
theorem dX7_textFault_53 : decode (mc mX7_textFault) 53 = .ok (.iaload, 1) := by decide +kernel
theorem dX7_textFault_54 : decode (mc mX7_textFault) 54 = .ok (.bipush 32, 2) := by decide +kernel
theorem dX7_textFault_56 : decode (mc mX7_textFault) 56 = .ok (.if_icmp .eq 5, 3) := by decide +kernel
theorem dX7_textFault_59 : decode (mc mX7_textFault) 59 = .ok (.iload_n 2, 1) := by decide +kernel
theorem dX7_textFault_60 : decode (mc mX7_textFault) 60 = .ok (.ireturn, 1) := by decide +kernel
theorem dX7_textFault_61 : decode (mc mX7_textFault) 61 = .ok (.iinc 2 1, 3) := by decide +kernel
theorem dX7_textFault_64 : decode (mc mX7_textFault) 64 = .ok (.goto (-60), 3) := by decide +kernel
theorem dX7_textFault_67 : decode (mc mX7_textFault) 67 = .ok (.iload_n 1, 1) := by decide +kernel
theorem dX7_textFault_68 : decode (mc mX7_textFault) 68 = .ok (.ifCond .ne 10, 3) := by decide +kernel
theorem dX7_textFault_71 : decode (mc mX7_textFault) 71 = .ok (.aload_n 0, 1) := by decide +kernel
theorem dX7_textFault_72 : decode (mc mX7_textFault) 72 = .ok (.getfield 59, 3) := by decide +kernel
theorem dX7_textFault_75 : decode (mc mX7_textFault) 75 = .ok (.goto 5, 3) := by decide +kernel
theorem dX7_textFault_78 : decode (mc mX7_textFault) 78 = .ok (.ldc 121, 2) := by decide +kernel
theorem dX7_textFault_80 : decode (mc mX7_textFault) 80 = .ok (.ireturn, 1) := by decide +kernel
theorem dX7_undo_0 : decode (mc mX7_undo) 0 = .ok (.aload_n 0, 1) := by decide +kernel
theorem dX7_undo_1 : decode (mc mX7_undo) 1 = .ok (.getfield 37, 3) := by decide +kernel
theorem dX7_undo_4 : decode (mc mX7_undo) 4 = .ok (.ifCond .ne 6, 3) := by decide +kernel
theorem dX7_undo_7 : decode (mc mX7_undo) 7 = .ok (.ldc 128, 2) := by decide +kernel
theorem dX7_undo_9 : decode (mc mX7_undo) 9 = .ok (.ireturn, 1) := by decide +kernel
theorem dX7_undo_10 : decode (mc mX7_undo) 10 = .ok (.aload_n 0, 1) := by decide +kernel
theorem dX7_undo_11 : decode (mc mX7_undo) 11 = .ok (.sipush 654, 3) := by decide +kernel
theorem dX7_undo_14 : decode (mc mX7_undo) 14 = .ok (.aload_n 0, 1) := by decide +kernel
theorem dX7_undo_15 : decode (mc mX7_undo) 15 = .ok (.getfield 37, 3) := by decide +kernel
theorem dX7_undo_18 : decode (mc mX7_undo) 18 = .ok (.imul, 1) := by decide +kernel
theorem dX7_undo_19 : decode (mc mX7_undo) 19 = .ok (.iconst 0, 1) := by decide +kernel
theorem dX7_undo_20 : decode (mc mX7_undo) 20 = .ok (.invokevirtual 41, 3) := by decide +kernel
theorem dX7_undo_23 : decode (mc mX7_undo) 23 = .ok (.aload_n 0, 1) := by decide +kernel
theorem dX7_undo_24 : decode (mc mX7_undo) 24 = .ok (.dup, 1) := by decide +kernel
theorem dX7_undo_25 : decode (mc mX7_undo) 25 = .ok (.getfield 37, 3) := by decide +kernel
theorem dX7_undo_28 : decode (mc mX7_undo) 28 = .ok (.iconst 1, 1) := by decide +kernel
theorem dX7_undo_29 : decode (mc mX7_undo) 29 = .ok (.isub, 1) := by decide +kernel
theorem dX7_undo_30 : decode (mc mX7_undo) 30 = .ok (.putfield 37, 3) := by decide +kernel
theorem dX7_undo_33 : decode (mc mX7_undo) 33 = .ok (.aload_n 0, 1) := by decide +kernel
theorem dX7_undo_34 : decode (mc mX7_undo) 34 = .ok (.getfield 37, 3) := by decide +kernel
theorem dX7_undo_37 : decode (mc mX7_undo) 37 = .ok (.ireturn, 1) := by decide +kernel
theorem dX7_adds_0 : decode (mc mX7_adds) 0 = .ok (.aload_n 0, 1) := by decide +kernel
theorem dX7_adds_1 : decode (mc mX7_adds) 1 = .ok (.ldc2_w 157, 3) := by decide +kernel
theorem dX7_adds_4 : decode (mc mX7_adds) 4 = .ok (.aload_n 0, 1) := by decide +kernel
theorem dX7_adds_5 : decode (mc mX7_adds) 5 = .ok (.getfield 159, 3) := by decide +kernel
theorem dX7_adds_8 : decode (mc mX7_adds) 8 = .ok (.lmul, 1) := by decide +kernel
theorem dX7_adds_9 : decode (mc mX7_adds) 9 = .ok (.lload_n 1, 1) := by decide +kernel
theorem dX7_adds_10 : decode (mc mX7_adds) 10 = .ok (.ladd, 1) := by decide +kernel
theorem dX7_adds_11 : decode (mc mX7_adds) 11 = .ok (.putfield 159, 3) := by decide +kernel
theorem dX7_adds_14 : decode (mc mX7_adds) 14 = .ok (.return_, 1) := by decide +kernel
theorem dX7_digest_0 : decode (mc mX7_digest) 0 = .ok (.aload_n 0, 1) := by decide +kernel
theorem dX7_digest_1 : decode (mc mX7_digest) 1 = .ok (.ldc2_w 163, 3) := by decide +kernel
theorem dX7_digest_4 : decode (mc mX7_digest) 4 = .ok (.putfield 159, 3) := by decide +kernel
theorem dX7_digest_7 : decode (mc mX7_digest) 7 = .ok (.iconst 0, 1) := by decide +kernel
theorem dX7_digest_8 : decode (mc mX7_digest) 8 = .ok (.istore_n 1, 1) := by decide +kernel
theorem dX7_digest_9 : decode (mc mX7_digest) 9 = .ok (.iload_n 1, 1) := by decide +kernel
theorem dX7_digest_10 : decode (mc mX7_digest) 10 = .ok (.bipush 13, 2) := by decide +kernel
theorem dX7_digest_12 : decode (mc mX7_digest) 12 = .ok (.if_icmp .ge 19, 3) := by decide +kernel
theorem dX7_digest_15 : decode (mc mX7_digest) 15 = .ok (.aload_n 0, 1) := by decide +kernel
theorem dX7_digest_16 : decode (mc mX7_digest) 16 = .ok (.aload_n 0, 1) := by decide +kernel
theorem dX7_digest_17 : decode (mc mX7_digest) 17 = .ok (.iload_n 1, 1) := by decide +kernel
theorem dX7_digest_18 : decode (mc mX7_digest) 18 = .ok (.invokevirtual 115, 3) := by decide +kernel
theorem dX7_digest_21 : decode (mc mX7_digest) 21 = .ok (.i2l, 1) := by decide +kernel
theorem dX7_digest_22 : decode (mc mX7_digest) 22 = .ok (.invokevirtual 165, 3) := by decide +kernel
theorem dX7_digest_25 : decode (mc mX7_digest) 25 = .ok (.iinc 1 1, 3) := by decide +kernel
theorem dX7_digest_28 : decode (mc mX7_digest) 28 = .ok (.goto (-19), 3) := by decide +kernel
theorem dX7_digest_31 : decode (mc mX7_digest) 31 = .ok (.iconst 0, 1) := by decide +kernel
theorem dX7_digest_32 : decode (mc mX7_digest) 32 = .ok (.istore_n 1, 1) := by decide +kernel
theorem dX7_digest_33 : decode (mc mX7_digest) 33 = .ok (.iload_n 1, 1) := by decide +kernel
theorem dX7_digest_34 : decode (mc mX7_digest) 34 = .ok (.aload_n 0, 1) := by decide +kernel
theorem dX7_digest_35 : decode (mc mX7_digest) 35 = .ok (.getfield 7, 3) := by decide +kernel
theorem dX7_digest_38 : decode (mc mX7_digest) 38 = .ok (.iconst 0, 1) := by decide +kernel
theorem dX7_digest_39 : decode (mc mX7_digest) 39 = .ok (.iaload, 1) := by decide +kernel
theorem dX7_digest_40 : decode (mc mX7_digest) 40 = .ok (.if_icmp .ge 33, 3) := by decide +kernel
theorem dX7_digest_43 : decode (mc mX7_digest) 43 = .ok (.iconst 0, 1) := by decide +kernel
theorem dX7_digest_44 : decode (mc mX7_digest) 44 = .ok (.istore_n 2, 1) := by decide +kernel
theorem dX7_digest_45 : decode (mc mX7_digest) 45 = .ok (.iload_n 2, 1) := by decide +kernel
theorem dX7_digest_46 : decode (mc mX7_digest) 46 = .ok (.iconst 5, 1) := by decide +kernel
theorem dX7_digest_47 : decode (mc mX7_digest) 47 = .ok (.if_icmp .ge 20, 3) := by decide +kernel
theorem dX7_digest_50 : decode (mc mX7_digest) 50 = .ok (.aload_n 0, 1) := by decide +kernel
theorem dX7_digest_51 : decode (mc mX7_digest) 51 = .ok (.aload_n 0, 1) := by decide +kernel
theorem dX7_digest_52 : decode (mc mX7_digest) 52 = .ok (.iload_n 1, 1) := by decide +kernel
theorem dX7_digest_53 : decode (mc mX7_digest) 53 = .ok (.iload_n 2, 1) := by decide +kernel
theorem dX7_digest_54 : decode (mc mX7_digest) 54 = .ok (.invokevirtual 118, 3) := by decide +kernel
theorem dX7_digest_57 : decode (mc mX7_digest) 57 = .ok (.i2l, 1) := by decide +kernel
theorem dX7_digest_58 : decode (mc mX7_digest) 58 = .ok (.invokevirtual 165, 3) := by decide +kernel
theorem dX7_digest_61 : decode (mc mX7_digest) 61 = .ok (.iinc 2 1, 3) := by decide +kernel
theorem dX7_digest_64 : decode (mc mX7_digest) 64 = .ok (.goto (-19), 3) := by decide +kernel
theorem dX7_digest_67 : decode (mc mX7_digest) 67 = .ok (.iinc 1 1, 3) := by decide +kernel
theorem dX7_digest_70 : decode (mc mX7_digest) 70 = .ok (.goto (-37), 3) := by decide +kernel
theorem dX7_digest_73 : decode (mc mX7_digest) 73 = .ok (.iconst 0, 1) := by decide +kernel
theorem dX7_digest_74 : decode (mc mX7_digest) 74 = .ok (.istore_n 1, 1) := by decide +kernel
theorem dX7_digest_75 : decode (mc mX7_digest) 75 = .ok (.iload_n 1, 1) := by decide +kernel
theorem dX7_digest_76 : decode (mc mX7_digest) 76 = .ok (.aload_n 0, 1) := by decide +kernel
theorem dX7_digest_77 : decode (mc mX7_digest) 77 = .ok (.getfield 7, 3) := by decide +kernel
theorem dX7_digest_80 : decode (mc mX7_digest) 80 = .ok (.iconst 1, 1) := by decide +kernel
theorem dX7_digest_81 : decode (mc mX7_digest) 81 = .ok (.iaload, 1) := by decide +kernel
theorem dX7_digest_82 : decode (mc mX7_digest) 82 = .ok (.if_icmp .ge 66, 3) := by decide +kernel
theorem dX7_digest_85 : decode (mc mX7_digest) 85 = .ok (.iconst 0, 1) := by decide +kernel
theorem dX7_digest_86 : decode (mc mX7_digest) 86 = .ok (.istore_n 2, 1) := by decide +kernel
theorem dX7_digest_87 : decode (mc mX7_digest) 87 = .ok (.iload_n 2, 1) := by decide +kernel
theorem dX7_digest_88 : decode (mc mX7_digest) 88 = .ok (.bipush 7, 2) := by decide +kernel
theorem dX7_digest_90 : decode (mc mX7_digest) 90 = .ok (.if_icmp .ge 20, 3) := by decide +kernel
theorem dX7_digest_93 : decode (mc mX7_digest) 93 = .ok (.aload_n 0, 1) := by decide +kernel
theorem dX7_digest_94 : decode (mc mX7_digest) 94 = .ok (.aload_n 0, 1) := by decide +kernel
theorem dX7_digest_95 : decode (mc mX7_digest) 95 = .ok (.iload_n 1, 1) := by decide +kernel
theorem dX7_digest_96 : decode (mc mX7_digest) 96 = .ok (.iload_n 2, 1) := by decide +kernel
theorem dX7_digest_97 : decode (mc mX7_digest) 97 = .ok (.invokevirtual 169, 3) := by decide +kernel
theorem dX7_digest_100 : decode (mc mX7_digest) 100 = .ok (.i2l, 1) := by decide +kernel
theorem dX7_digest_101 : decode (mc mX7_digest) 101 = .ok (.invokevirtual 165, 3) := by decide +kernel
theorem dX7_digest_104 : decode (mc mX7_digest) 104 = .ok (.iinc 2 1, 3) := by decide +kernel
theorem dX7_digest_107 : decode (mc mX7_digest) 107 = .ok (.goto (-20), 3) := by decide +kernel
theorem dX7_digest_110 : decode (mc mX7_digest) 110 = .ok (.iconst 0, 1) := by decide +kernel
theorem dX7_digest_111 : decode (mc mX7_digest) 111 = .ok (.istore_n 2, 1) := by decide +kernel
theorem dX7_digest_112 : decode (mc mX7_digest) 112 = .ok (.iload_n 2, 1) := by decide +kernel
theorem dX7_digest_113 : decode (mc mX7_digest) 113 = .ok (.aload_n 0, 1) := by decide +kernel
theorem dX7_digest_114 : decode (mc mX7_digest) 114 = .ok (.iload_n 1, 1) := by decide +kernel
theorem dX7_digest_115 : decode (mc mX7_digest) 115 = .ok (.iconst 1, 1) := by decide +kernel
theorem dX7_digest_116 : decode (mc mX7_digest) 116 = .ok (.invokevirtual 49, 3) := by decide +kernel
theorem dX7_digest_119 : decode (mc mX7_digest) 119 = .ok (.if_icmp .ge 23, 3) := by decide +kernel
theorem dX7_digest_122 : decode (mc mX7_digest) 122 = .ok (.aload_n 0, 1) := by decide +kernel
theorem dX7_digest_123 : decode (mc mX7_digest) 123 = .ok (.aload_n 0, 1) := by decide +kernel
theorem dX7_digest_124 : decode (mc mX7_digest) 124 = .ok (.iload_n 1, 1) := by decide +kernel
theorem dX7_digest_125 : decode (mc mX7_digest) 125 = .ok (.bipush 6, 2) := by decide +kernel
theorem dX7_digest_127 : decode (mc mX7_digest) 127 = .ok (.iload_n 2, 1) := by decide +kernel
theorem dX7_digest_128 : decode (mc mX7_digest) 128 = .ok (.iadd, 1) := by decide +kernel
theorem dX7_digest_129 : decode (mc mX7_digest) 129 = .ok (.invokevirtual 49, 3) := by decide +kernel
theorem dX7_digest_132 : decode (mc mX7_digest) 132 = .ok (.i2l, 1) := by decide +kernel
theorem dX7_digest_133 : decode (mc mX7_digest) 133 = .ok (.invokevirtual 165, 3) := by decide +kernel
theorem dX7_digest_136 : decode (mc mX7_digest) 136 = .ok (.iinc 2 1, 3) := by decide +kernel
theorem dX7_digest_139 : decode (mc mX7_digest) 139 = .ok (.goto (-27), 3) := by decide +kernel
theorem dX7_digest_142 : decode (mc mX7_digest) 142 = .ok (.iinc 1 1, 3) := by decide +kernel
theorem dX7_digest_145 : decode (mc mX7_digest) 145 = .ok (.goto (-70), 3) := by decide +kernel
theorem dX7_digest_148 : decode (mc mX7_digest) 148 = .ok (.iconst 0, 1) := by decide +kernel
theorem dX7_digest_149 : decode (mc mX7_digest) 149 = .ok (.istore_n 1, 1) := by decide +kernel
theorem dX7_digest_150 : decode (mc mX7_digest) 150 = .ok (.iload_n 1, 1) := by decide +kernel
theorem dX7_digest_151 : decode (mc mX7_digest) 151 = .ok (.aload_n 0, 1) := by decide +kernel
theorem dX7_digest_152 : decode (mc mX7_digest) 152 = .ok (.getfield 7, 3) := by decide +kernel
theorem dX7_digest_155 : decode (mc mX7_digest) 155 = .ok (.iconst 2, 1) := by decide +kernel
theorem dX7_digest_156 : decode (mc mX7_digest) 156 = .ok (.iaload, 1) := by decide +kernel
theorem dX7_digest_157 : decode (mc mX7_digest) 157 = .ok (.if_icmp .ge 34, 3) := by decide +kernel
theorem dX7_digest_160 : decode (mc mX7_digest) 160 = .ok (.iconst 0, 1) := by decide +kernel
theorem dX7_digest_161 : decode (mc mX7_digest) 161 = .ok (.istore_n 2, 1) := by decide +kernel
theorem dX7_digest_162 : decode (mc mX7_digest) 162 = .ok (.iload_n 2, 1) := by decide +kernel
theorem dX7_digest_163 : decode (mc mX7_digest) 163 = .ok (.bipush 13, 2) := by decide +kernel
theorem dX7_digest_165 : decode (mc mX7_digest) 165 = .ok (.if_icmp .ge 20, 3) := by decide +kernel
theorem dX7_digest_168 : decode (mc mX7_digest) 168 = .ok (.aload_n 0, 1) := by decide +kernel
theorem dX7_digest_169 : decode (mc mX7_digest) 169 = .ok (.aload_n 0, 1) := by decide +kernel
theorem dX7_digest_170 : decode (mc mX7_digest) 170 = .ok (.iload_n 1, 1) := by decide +kernel
theorem dX7_digest_171 : decode (mc mX7_digest) 171 = .ok (.iload_n 2, 1) := by decide +kernel
theorem dX7_digest_172 : decode (mc mX7_digest) 172 = .ok (.invokevirtual 100, 3) := by decide +kernel
theorem dX7_digest_175 : decode (mc mX7_digest) 175 = .ok (.i2l, 1) := by decide +kernel
theorem dX7_digest_176 : decode (mc mX7_digest) 176 = .ok (.invokevirtual 165, 3) := by decide +kernel
theorem dX7_digest_179 : decode (mc mX7_digest) 179 = .ok (.iinc 2 1, 3) := by decide +kernel
theorem dX7_digest_182 : decode (mc mX7_digest) 182 = .ok (.goto (-20), 3) := by decide +kernel
theorem dX7_digest_185 : decode (mc mX7_digest) 185 = .ok (.iinc 1 1, 3) := by decide +kernel
theorem dX7_digest_188 : decode (mc mX7_digest) 188 = .ok (.goto (-38), 3) := by decide +kernel
theorem dX7_digest_191 : decode (mc mX7_digest) 191 = .ok (.aload_n 0, 1) := by decide +kernel
theorem dX7_digest_192 : decode (mc mX7_digest) 192 = .ok (.getfield 159, 3) := by decide +kernel
theorem dX7_digest_195 : decode (mc mX7_digest) 195 = .ok (.lreturn, 1) := by decide +kernel
theorem dL_law_0 : decode (mc mL_law) 0 = .ok (.new 7, 3) := by decide +kernel
theorem dL_law_3 : decode (mc mL_law) 3 = .ok (.dup, 1) := by decide +kernel
theorem dL_law_4 : decode (mc mL_law) 4 = .ok (.invokespecial 9, 3) := by decide +kernel
theorem dL_law_7 : decode (mc mL_law) 7 = .ok (.astore_n 1, 1) := by decide +kernel
theorem dL_law_8 : decode (mc mL_law) 8 = .ok (.new 10, 3) := by decide +kernel
theorem dL_law_11 : decode (mc mL_law) 11 = .ok (.dup, 1) := by decide +kernel
theorem dL_law_12 : decode (mc mL_law) 12 = .ok (.invokespecial 12, 3) := by decide +kernel
theorem dL_law_15 : decode (mc mL_law) 15 = .ok (.astore_n 2, 1) := by decide +kernel
theorem dL_law_16 : decode (mc mL_law) 16 = .ok (.iconst 0, 1) := by decide +kernel
theorem dL_law_17 : decode (mc mL_law) 17 = .ok (.istore_n 3, 1) := by decide +kernel
theorem dL_law_18 : decode (mc mL_law) 18 = .ok (.iload_n 3, 1) := by decide +kernel
theorem dL_law_19 : decode (mc mL_law) 19 = .ok (.aload_n 0, 1) := by decide +kernel
theorem dL_law_20 : decode (mc mL_law) 20 = .ok (.arraylength, 1) := by decide +kernel
theorem dL_law_21 : decode (mc mL_law) 21 = .ok (.iconst 4, 1) := by decide +kernel
theorem dL_law_22 : decode (mc mL_law) 22 = .ok (.isub, 1) := by decide +kernel
theorem dL_law_23 : decode (mc mL_law) 23 = .ok (.if_icmp .gt 737, 3) := by decide +kernel
theorem dL_law_26 : decode (mc mL_law) 26 = .ok (.aload_n 0, 1) := by decide +kernel
theorem dL_law_27 : decode (mc mL_law) 27 = .ok (.iload_n 3, 1) := by decide +kernel
theorem dL_law_28 : decode (mc mL_law) 28 = .ok (.iaload, 1) := by decide +kernel
theorem dL_law_29 : decode (mc mL_law) 29 = .ok (.bipush 31, 2) := by decide +kernel
theorem dL_law_31 : decode (mc mL_law) 31 = .ok (.iand, 1) := by decide +kernel
theorem dL_law_32 : decode (mc mL_law) 32 = .ok (.tableswitch 722 0 24 #[116, 129, 162, 195, 218, 251, 294, 327, 360, 393, 406, 419, 442, 465, 488, 521, 544, 567, 590, 613, 646, 669, 682, 695, 708], 116) := by decide +kernel
theorem dL_law_148 : decode (mc mL_law) 148 = .ok (.aload_n 1, 1) := by decide +kernel
theorem dL_law_149 : decode (mc mL_law) 149 = .ok (.invokevirtual 13, 3) := by decide +kernel
theorem dL_law_152 : decode (mc mL_law) 152 = .ok (.aload_n 2, 1) := by decide +kernel
theorem dL_law_153 : decode (mc mL_law) 153 = .ok (.invokevirtual 17, 3) := by decide +kernel
theorem dL_law_156 : decode (mc mL_law) 156 = .ok (.if_icmp .eq 598, 3) := by decide +kernel
theorem dL_law_159 : decode (mc mL_law) 159 = .ok (.iconst 0, 1) := by decide +kernel
theorem dL_law_160 : decode (mc mL_law) 160 = .ok (.ireturn, 1) := by decide +kernel
theorem dL_law_161 : decode (mc mL_law) 161 = .ok (.aload_n 1, 1) := by decide +kernel
theorem dL_law_162 : decode (mc mL_law) 162 = .ok (.aload_n 0, 1) := by decide +kernel
theorem dL_law_163 : decode (mc mL_law) 163 = .ok (.iload_n 3, 1) := by decide +kernel
theorem dL_law_164 : decode (mc mL_law) 164 = .ok (.iconst 1, 1) := by decide +kernel
theorem dL_law_165 : decode (mc mL_law) 165 = .ok (.iadd, 1) := by decide +kernel
theorem dL_law_166 : decode (mc mL_law) 166 = .ok (.iaload, 1) := by decide +kernel
theorem dL_law_167 : decode (mc mL_law) 167 = .ok (.aload_n 0, 1) := by decide +kernel
theorem dL_law_168 : decode (mc mL_law) 168 = .ok (.iload_n 3, 1) := by decide +kernel
theorem dL_law_169 : decode (mc mL_law) 169 = .ok (.iconst 2, 1) := by decide +kernel
theorem dL_law_170 : decode (mc mL_law) 170 = .ok (.iadd, 1) := by decide +kernel
theorem dL_law_171 : decode (mc mL_law) 171 = .ok (.iaload, 1) := by decide +kernel
theorem dL_law_172 : decode (mc mL_law) 172 = .ok (.invokevirtual 18, 3) := by decide +kernel
theorem dL_law_175 : decode (mc mL_law) 175 = .ok (.aload_n 2, 1) := by decide +kernel
theorem dL_law_176 : decode (mc mL_law) 176 = .ok (.aload_n 0, 1) := by decide +kernel
theorem dL_law_177 : decode (mc mL_law) 177 = .ok (.iload_n 3, 1) := by decide +kernel
theorem dL_law_178 : decode (mc mL_law) 178 = .ok (.iconst 1, 1) := by decide +kernel
theorem dL_law_179 : decode (mc mL_law) 179 = .ok (.iadd, 1) := by decide +kernel
theorem dL_law_180 : decode (mc mL_law) 180 = .ok (.iaload, 1) := by decide +kernel
theorem dL_law_181 : decode (mc mL_law) 181 = .ok (.aload_n 0, 1) := by decide +kernel
theorem dL_law_182 : decode (mc mL_law) 182 = .ok (.iload_n 3, 1) := by decide +kernel
theorem dL_law_183 : decode (mc mL_law) 183 = .ok (.iconst 2, 1) := by decide +kernel
theorem dL_law_184 : decode (mc mL_law) 184 = .ok (.iadd, 1) := by decide +kernel
theorem dL_law_185 : decode (mc mL_law) 185 = .ok (.iaload, 1) := by decide +kernel
theorem dL_law_186 : decode (mc mL_law) 186 = .ok (.invokevirtual 22, 3) := by decide +kernel
theorem dL_law_189 : decode (mc mL_law) 189 = .ok (.if_icmp .eq 565, 3) := by decide +kernel
theorem dL_law_192 : decode (mc mL_law) 192 = .ok (.iconst 0, 1) := by decide +kernel
theorem dL_law_193 : decode (mc mL_law) 193 = .ok (.ireturn, 1) := by decide +kernel
theorem dL_law_194 : decode (mc mL_law) 194 = .ok (.aload_n 1, 1) := by decide +kernel
theorem dL_law_195 : decode (mc mL_law) 195 = .ok (.aload_n 0, 1) := by decide +kernel
theorem dL_law_196 : decode (mc mL_law) 196 = .ok (.iload_n 3, 1) := by decide +kernel
theorem dL_law_197 : decode (mc mL_law) 197 = .ok (.iconst 1, 1) := by decide +kernel
theorem dL_law_198 : decode (mc mL_law) 198 = .ok (.iadd, 1) := by decide +kernel
theorem dL_law_199 : decode (mc mL_law) 199 = .ok (.iaload, 1) := by decide +kernel
theorem dL_law_200 : decode (mc mL_law) 200 = .ok (.aload_n 0, 1) := by decide +kernel
theorem dL_law_201 : decode (mc mL_law) 201 = .ok (.iload_n 3, 1) := by decide +kernel
theorem dL_law_202 : decode (mc mL_law) 202 = .ok (.iconst 2, 1) := by decide +kernel
theorem dL_law_203 : decode (mc mL_law) 203 = .ok (.iadd, 1) := by decide +kernel
theorem dL_law_204 : decode (mc mL_law) 204 = .ok (.iaload, 1) := by decide +kernel
theorem dL_law_205 : decode (mc mL_law) 205 = .ok (.invokevirtual 23, 3) := by decide +kernel
theorem dL_law_208 : decode (mc mL_law) 208 = .ok (.aload_n 2, 1) := by decide +kernel
theorem dL_law_209 : decode (mc mL_law) 209 = .ok (.aload_n 0, 1) := by decide +kernel
theorem dL_law_210 : decode (mc mL_law) 210 = .ok (.iload_n 3, 1) := by decide +kernel
theorem dL_law_211 : decode (mc mL_law) 211 = .ok (.iconst 1, 1) := by decide +kernel
theorem dL_law_212 : decode (mc mL_law) 212 = .ok (.iadd, 1) := by decide +kernel
theorem dL_law_213 : decode (mc mL_law) 213 = .ok (.iaload, 1) := by decide +kernel
theorem dL_law_214 : decode (mc mL_law) 214 = .ok (.aload_n 0, 1) := by decide +kernel
theorem dL_law_215 : decode (mc mL_law) 215 = .ok (.iload_n 3, 1) := by decide +kernel
theorem dL_law_216 : decode (mc mL_law) 216 = .ok (.iconst 2, 1) := by decide +kernel
theorem dL_law_217 : decode (mc mL_law) 217 = .ok (.iadd, 1) := by decide +kernel
theorem dL_law_218 : decode (mc mL_law) 218 = .ok (.iaload, 1) := by decide +kernel
theorem dL_law_219 : decode (mc mL_law) 219 = .ok (.invokevirtual 26, 3) := by decide +kernel
theorem dL_law_222 : decode (mc mL_law) 222 = .ok (.if_icmp .eq 532, 3) := by decide +kernel
theorem dL_law_225 : decode (mc mL_law) 225 = .ok (.iconst 0, 1) := by decide +kernel
theorem dL_law_226 : decode (mc mL_law) 226 = .ok (.ireturn, 1) := by decide +kernel
theorem dL_law_227 : decode (mc mL_law) 227 = .ok (.aload_n 1, 1) := by decide +kernel
theorem dL_law_228 : decode (mc mL_law) 228 = .ok (.aload_n 0, 1) := by decide +kernel
theorem dL_law_229 : decode (mc mL_law) 229 = .ok (.iload_n 3, 1) := by decide +kernel
theorem dL_law_230 : decode (mc mL_law) 230 = .ok (.iconst 1, 1) := by decide +kernel
theorem dL_law_231 : decode (mc mL_law) 231 = .ok (.iadd, 1) := by decide +kernel
theorem dL_law_232 : decode (mc mL_law) 232 = .ok (.iaload, 1) := by decide +kernel
theorem dL_law_233 : decode (mc mL_law) 233 = .ok (.invokevirtual 27, 3) := by decide +kernel
theorem dL_law_236 : decode (mc mL_law) 236 = .ok (.aload_n 2, 1) := by decide +kernel
theorem dL_law_237 : decode (mc mL_law) 237 = .ok (.aload_n 0, 1) := by decide +kernel
theorem dL_law_238 : decode (mc mL_law) 238 = .ok (.iload_n 3, 1) := by decide +kernel
theorem dL_law_239 : decode (mc mL_law) 239 = .ok (.iconst 1, 1) := by decide +kernel
theorem dL_law_240 : decode (mc mL_law) 240 = .ok (.iadd, 1) := by decide +kernel
theorem dL_law_241 : decode (mc mL_law) 241 = .ok (.iaload, 1) := by decide +kernel
theorem dL_law_242 : decode (mc mL_law) 242 = .ok (.invokevirtual 31, 3) := by decide +kernel
theorem dL_law_245 : decode (mc mL_law) 245 = .ok (.if_icmp .eq 509, 3) := by decide +kernel
theorem dL_law_248 : decode (mc mL_law) 248 = .ok (.iconst 0, 1) := by decide +kernel
theorem dL_law_249 : decode (mc mL_law) 249 = .ok (.ireturn, 1) := by decide +kernel
theorem dL_law_250 : decode (mc mL_law) 250 = .ok (.aload_n 1, 1) := by decide +kernel
theorem dL_law_251 : decode (mc mL_law) 251 = .ok (.aload_n 0, 1) := by decide +kernel
theorem dL_law_252 : decode (mc mL_law) 252 = .ok (.iload_n 3, 1) := by decide +kernel
theorem dL_law_253 : decode (mc mL_law) 253 = .ok (.iconst 1, 1) := by decide +kernel
theorem dL_law_254 : decode (mc mL_law) 254 = .ok (.iadd, 1) := by decide +kernel
theorem dL_law_255 : decode (mc mL_law) 255 = .ok (.iaload, 1) := by decide +kernel
theorem dL_law_256 : decode (mc mL_law) 256 = .ok (.aload_n 0, 1) := by decide +kernel
theorem dL_law_257 : decode (mc mL_law) 257 = .ok (.iload_n 3, 1) := by decide +kernel
theorem dL_law_258 : decode (mc mL_law) 258 = .ok (.iconst 2, 1) := by decide +kernel
theorem dL_law_259 : decode (mc mL_law) 259 = .ok (.iadd, 1) := by decide +kernel
theorem dL_law_260 : decode (mc mL_law) 260 = .ok (.iaload, 1) := by decide +kernel
theorem dL_law_261 : decode (mc mL_law) 261 = .ok (.invokevirtual 32, 3) := by decide +kernel
theorem dL_law_264 : decode (mc mL_law) 264 = .ok (.aload_n 2, 1) := by decide +kernel
theorem dL_law_265 : decode (mc mL_law) 265 = .ok (.aload_n 0, 1) := by decide +kernel
theorem dL_law_266 : decode (mc mL_law) 266 = .ok (.iload_n 3, 1) := by decide +kernel
theorem dL_law_267 : decode (mc mL_law) 267 = .ok (.iconst 1, 1) := by decide +kernel
theorem dL_law_268 : decode (mc mL_law) 268 = .ok (.iadd, 1) := by decide +kernel
theorem dL_law_269 : decode (mc mL_law) 269 = .ok (.iaload, 1) := by decide +kernel
theorem dL_law_270 : decode (mc mL_law) 270 = .ok (.aload_n 0, 1) := by decide +kernel
theorem dL_law_271 : decode (mc mL_law) 271 = .ok (.iload_n 3, 1) := by decide +kernel
theorem dL_law_272 : decode (mc mL_law) 272 = .ok (.iconst 2, 1) := by decide +kernel
theorem dL_law_273 : decode (mc mL_law) 273 = .ok (.iadd, 1) := by decide +kernel
theorem dL_law_274 : decode (mc mL_law) 274 = .ok (.iaload, 1) := by decide +kernel
theorem dL_law_275 : decode (mc mL_law) 275 = .ok (.invokevirtual 35, 3) := by decide +kernel
theorem dL_law_278 : decode (mc mL_law) 278 = .ok (.if_icmp .eq 476, 3) := by decide +kernel
theorem dL_law_281 : decode (mc mL_law) 281 = .ok (.iconst 0, 1) := by decide +kernel
theorem dL_law_282 : decode (mc mL_law) 282 = .ok (.ireturn, 1) := by decide +kernel
theorem dL_law_283 : decode (mc mL_law) 283 = .ok (.aload_n 1, 1) := by decide +kernel
theorem dL_law_284 : decode (mc mL_law) 284 = .ok (.aload_n 0, 1) := by decide +kernel
theorem dL_law_285 : decode (mc mL_law) 285 = .ok (.iload_n 3, 1) := by decide +kernel
theorem dL_law_286 : decode (mc mL_law) 286 = .ok (.iconst 1, 1) := by decide +kernel
theorem dL_law_287 : decode (mc mL_law) 287 = .ok (.iadd, 1) := by decide +kernel
theorem dL_law_288 : decode (mc mL_law) 288 = .ok (.iaload, 1) := by decide +kernel
theorem dL_law_289 : decode (mc mL_law) 289 = .ok (.aload_n 0, 1) := by decide +kernel
theorem dL_law_290 : decode (mc mL_law) 290 = .ok (.iload_n 3, 1) := by decide +kernel
theorem dL_law_291 : decode (mc mL_law) 291 = .ok (.iconst 2, 1) := by decide +kernel
theorem dL_law_292 : decode (mc mL_law) 292 = .ok (.iadd, 1) := by decide +kernel
theorem dL_law_293 : decode (mc mL_law) 293 = .ok (.iaload, 1) := by decide +kernel
theorem dL_law_294 : decode (mc mL_law) 294 = .ok (.aload_n 0, 1) := by decide +kernel
theorem dL_law_295 : decode (mc mL_law) 295 = .ok (.iload_n 3, 1) := by decide +kernel
theorem dL_law_296 : decode (mc mL_law) 296 = .ok (.iconst 3, 1) := by decide +kernel
theorem dL_law_297 : decode (mc mL_law) 297 = .ok (.iadd, 1) := by decide +kernel
theorem dL_law_298 : decode (mc mL_law) 298 = .ok (.iaload, 1) := by decide +kernel
theorem dL_law_299 : decode (mc mL_law) 299 = .ok (.invokevirtual 36, 3) := by decide +kernel
theorem dL_law_302 : decode (mc mL_law) 302 = .ok (.aload_n 2, 1) := by decide +kernel
theorem dL_law_303 : decode (mc mL_law) 303 = .ok (.aload_n 0, 1) := by decide +kernel
theorem dL_law_304 : decode (mc mL_law) 304 = .ok (.iload_n 3, 1) := by decide +kernel
theorem dL_law_305 : decode (mc mL_law) 305 = .ok (.iconst 1, 1) := by decide +kernel
theorem dL_law_306 : decode (mc mL_law) 306 = .ok (.iadd, 1) := by decide +kernel
theorem dL_law_307 : decode (mc mL_law) 307 = .ok (.iaload, 1) := by decide +kernel
theorem dL_law_308 : decode (mc mL_law) 308 = .ok (.aload_n 0, 1) := by decide +kernel
theorem dL_law_309 : decode (mc mL_law) 309 = .ok (.iload_n 3, 1) := by decide +kernel
theorem dL_law_310 : decode (mc mL_law) 310 = .ok (.iconst 2, 1) := by decide +kernel
theorem dL_law_311 : decode (mc mL_law) 311 = .ok (.iadd, 1) := by decide +kernel
theorem dL_law_312 : decode (mc mL_law) 312 = .ok (.iaload, 1) := by decide +kernel
theorem dL_law_313 : decode (mc mL_law) 313 = .ok (.aload_n 0, 1) := by decide +kernel
theorem dL_law_314 : decode (mc mL_law) 314 = .ok (.iload_n 3, 1) := by decide +kernel
theorem dL_law_315 : decode (mc mL_law) 315 = .ok (.iconst 3, 1) := by decide +kernel
theorem dL_law_316 : decode (mc mL_law) 316 = .ok (.iadd, 1) := by decide +kernel
theorem dL_law_317 : decode (mc mL_law) 317 = .ok (.iaload, 1) := by decide +kernel
theorem dL_law_318 : decode (mc mL_law) 318 = .ok (.invokevirtual 40, 3) := by decide +kernel
theorem dL_law_321 : decode (mc mL_law) 321 = .ok (.if_icmp .eq 433, 3) := by decide +kernel
theorem dL_law_324 : decode (mc mL_law) 324 = .ok (.iconst 0, 1) := by decide +kernel
theorem dL_law_325 : decode (mc mL_law) 325 = .ok (.ireturn, 1) := by decide +kernel
theorem dL_law_326 : decode (mc mL_law) 326 = .ok (.aload_n 1, 1) := by decide +kernel
theorem dL_law_327 : decode (mc mL_law) 327 = .ok (.aload_n 0, 1) := by decide +kernel
theorem dL_law_328 : decode (mc mL_law) 328 = .ok (.iload_n 3, 1) := by decide +kernel
theorem dL_law_329 : decode (mc mL_law) 329 = .ok (.iconst 1, 1) := by decide +kernel
theorem dL_law_330 : decode (mc mL_law) 330 = .ok (.iadd, 1) := by decide +kernel
theorem dL_law_331 : decode (mc mL_law) 331 = .ok (.iaload, 1) := by decide +kernel
theorem dL_law_332 : decode (mc mL_law) 332 = .ok (.aload_n 0, 1) := by decide +kernel
theorem dL_law_333 : decode (mc mL_law) 333 = .ok (.iload_n 3, 1) := by decide +kernel
theorem dL_law_334 : decode (mc mL_law) 334 = .ok (.iconst 2, 1) := by decide +kernel
theorem dL_law_335 : decode (mc mL_law) 335 = .ok (.iadd, 1) := by decide +kernel
theorem dL_law_336 : decode (mc mL_law) 336 = .ok (.iaload, 1) := by decide +kernel
theorem dL_law_337 : decode (mc mL_law) 337 = .ok (.invokevirtual 41, 3) := by decide +kernel
theorem dL_law_340 : decode (mc mL_law) 340 = .ok (.aload_n 2, 1) := by decide +kernel
theorem dL_law_341 : decode (mc mL_law) 341 = .ok (.aload_n 0, 1) := by decide +kernel
theorem dL_law_342 : decode (mc mL_law) 342 = .ok (.iload_n 3, 1) := by decide +kernel
theorem dL_law_343 : decode (mc mL_law) 343 = .ok (.iconst 1, 1) := by decide +kernel
theorem dL_law_344 : decode (mc mL_law) 344 = .ok (.iadd, 1) := by decide +kernel
theorem dL_law_345 : decode (mc mL_law) 345 = .ok (.iaload, 1) := by decide +kernel
theorem dL_law_346 : decode (mc mL_law) 346 = .ok (.aload_n 0, 1) := by decide +kernel
theorem dL_law_347 : decode (mc mL_law) 347 = .ok (.iload_n 3, 1) := by decide +kernel
theorem dL_law_348 : decode (mc mL_law) 348 = .ok (.iconst 2, 1) := by decide +kernel
theorem dL_law_349 : decode (mc mL_law) 349 = .ok (.iadd, 1) := by decide +kernel
theorem dL_law_350 : decode (mc mL_law) 350 = .ok (.iaload, 1) := by decide +kernel
theorem dL_law_351 : decode (mc mL_law) 351 = .ok (.invokevirtual 44, 3) := by decide +kernel
theorem dL_law_354 : decode (mc mL_law) 354 = .ok (.if_icmp .eq 400, 3) := by decide +kernel
theorem dL_law_357 : decode (mc mL_law) 357 = .ok (.iconst 0, 1) := by decide +kernel
theorem dL_law_358 : decode (mc mL_law) 358 = .ok (.ireturn, 1) := by decide +kernel
theorem dL_law_359 : decode (mc mL_law) 359 = .ok (.aload_n 1, 1) := by decide +kernel
theorem dL_law_360 : decode (mc mL_law) 360 = .ok (.aload_n 0, 1) := by decide +kernel
theorem dL_law_361 : decode (mc mL_law) 361 = .ok (.iload_n 3, 1) := by decide +kernel
theorem dL_law_362 : decode (mc mL_law) 362 = .ok (.iconst 1, 1) := by decide +kernel
theorem dL_law_363 : decode (mc mL_law) 363 = .ok (.iadd, 1) := by decide +kernel
theorem dL_law_364 : decode (mc mL_law) 364 = .ok (.iaload, 1) := by decide +kernel
theorem dL_law_365 : decode (mc mL_law) 365 = .ok (.aload_n 0, 1) := by decide +kernel
theorem dL_law_366 : decode (mc mL_law) 366 = .ok (.iload_n 3, 1) := by decide +kernel
theorem dL_law_367 : decode (mc mL_law) 367 = .ok (.iconst 2, 1) := by decide +kernel
theorem dL_law_368 : decode (mc mL_law) 368 = .ok (.iadd, 1) := by decide +kernel
theorem dL_law_369 : decode (mc mL_law) 369 = .ok (.iaload, 1) := by decide +kernel
theorem dL_law_370 : decode (mc mL_law) 370 = .ok (.invokevirtual 45, 3) := by decide +kernel
theorem dL_law_373 : decode (mc mL_law) 373 = .ok (.aload_n 2, 1) := by decide +kernel
theorem dL_law_374 : decode (mc mL_law) 374 = .ok (.aload_n 0, 1) := by decide +kernel
theorem dL_law_375 : decode (mc mL_law) 375 = .ok (.iload_n 3, 1) := by decide +kernel
theorem dL_law_376 : decode (mc mL_law) 376 = .ok (.iconst 1, 1) := by decide +kernel
theorem dL_law_377 : decode (mc mL_law) 377 = .ok (.iadd, 1) := by decide +kernel
theorem dL_law_378 : decode (mc mL_law) 378 = .ok (.iaload, 1) := by decide +kernel
theorem dL_law_379 : decode (mc mL_law) 379 = .ok (.aload_n 0, 1) := by decide +kernel
theorem dL_law_380 : decode (mc mL_law) 380 = .ok (.iload_n 3, 1) := by decide +kernel
theorem dL_law_381 : decode (mc mL_law) 381 = .ok (.iconst 2, 1) := by decide +kernel
theorem dL_law_382 : decode (mc mL_law) 382 = .ok (.iadd, 1) := by decide +kernel
theorem dL_law_383 : decode (mc mL_law) 383 = .ok (.iaload, 1) := by decide +kernel
theorem dL_law_384 : decode (mc mL_law) 384 = .ok (.invokevirtual 48, 3) := by decide +kernel
theorem dL_law_387 : decode (mc mL_law) 387 = .ok (.if_icmp .eq 367, 3) := by decide +kernel
theorem dL_law_390 : decode (mc mL_law) 390 = .ok (.iconst 0, 1) := by decide +kernel
theorem dL_law_391 : decode (mc mL_law) 391 = .ok (.ireturn, 1) := by decide +kernel
theorem dL_law_392 : decode (mc mL_law) 392 = .ok (.aload_n 1, 1) := by decide +kernel
theorem dL_law_393 : decode (mc mL_law) 393 = .ok (.aload_n 0, 1) := by decide +kernel
theorem dL_law_394 : decode (mc mL_law) 394 = .ok (.iload_n 3, 1) := by decide +kernel
theorem dL_law_395 : decode (mc mL_law) 395 = .ok (.iconst 1, 1) := by decide +kernel
theorem dL_law_396 : decode (mc mL_law) 396 = .ok (.iadd, 1) := by decide +kernel
theorem dL_law_397 : decode (mc mL_law) 397 = .ok (.iaload, 1) := by decide +kernel
theorem dL_law_398 : decode (mc mL_law) 398 = .ok (.aload_n 0, 1) := by decide +kernel
theorem dL_law_399 : decode (mc mL_law) 399 = .ok (.iload_n 3, 1) := by decide +kernel
theorem dL_law_400 : decode (mc mL_law) 400 = .ok (.iconst 2, 1) := by decide +kernel
theorem dL_law_401 : decode (mc mL_law) 401 = .ok (.iadd, 1) := by decide +kernel
theorem dL_law_402 : decode (mc mL_law) 402 = .ok (.iaload, 1) := by decide +kernel
theorem dL_law_403 : decode (mc mL_law) 403 = .ok (.invokevirtual 49, 3) := by decide +kernel
theorem dL_law_406 : decode (mc mL_law) 406 = .ok (.aload_n 2, 1) := by decide +kernel
theorem dL_law_407 : decode (mc mL_law) 407 = .ok (.aload_n 0, 1) := by decide +kernel
theorem dL_law_408 : decode (mc mL_law) 408 = .ok (.iload_n 3, 1) := by decide +kernel
theorem dL_law_409 : decode (mc mL_law) 409 = .ok (.iconst 1, 1) := by decide +kernel
theorem dL_law_410 : decode (mc mL_law) 410 = .ok (.iadd, 1) := by decide +kernel
theorem dL_law_411 : decode (mc mL_law) 411 = .ok (.iaload, 1) := by decide +kernel
theorem dL_law_412 : decode (mc mL_law) 412 = .ok (.aload_n 0, 1) := by decide +kernel
theorem dL_law_413 : decode (mc mL_law) 413 = .ok (.iload_n 3, 1) := by decide +kernel
theorem dL_law_414 : decode (mc mL_law) 414 = .ok (.iconst 2, 1) := by decide +kernel
theorem dL_law_415 : decode (mc mL_law) 415 = .ok (.iadd, 1) := by decide +kernel
theorem dL_law_416 : decode (mc mL_law) 416 = .ok (.iaload, 1) := by decide +kernel
theorem dL_law_417 : decode (mc mL_law) 417 = .ok (.invokevirtual 52, 3) := by decide +kernel
theorem dL_law_420 : decode (mc mL_law) 420 = .ok (.if_icmp .eq 334, 3) := by decide +kernel
theorem dL_law_423 : decode (mc mL_law) 423 = .ok (.iconst 0, 1) := by decide +kernel
theorem dL_law_424 : decode (mc mL_law) 424 = .ok (.ireturn, 1) := by decide +kernel
theorem dL_law_425 : decode (mc mL_law) 425 = .ok (.aload_n 1, 1) := by decide +kernel
theorem dL_law_426 : decode (mc mL_law) 426 = .ok (.invokevirtual 53, 3) := by decide +kernel
theorem dL_law_429 : decode (mc mL_law) 429 = .ok (.aload_n 2, 1) := by decide +kernel
theorem dL_law_430 : decode (mc mL_law) 430 = .ok (.invokevirtual 56, 3) := by decide +kernel
theorem dL_law_433 : decode (mc mL_law) 433 = .ok (.if_icmp .eq 321, 3) := by decide +kernel
theorem dL_law_436 : decode (mc mL_law) 436 = .ok (.iconst 0, 1) := by decide +kernel
theorem dL_law_437 : decode (mc mL_law) 437 = .ok (.ireturn, 1) := by decide +kernel
theorem dL_law_438 : decode (mc mL_law) 438 = .ok (.aload_n 1, 1) := by decide +kernel
theorem dL_law_439 : decode (mc mL_law) 439 = .ok (.invokevirtual 57, 3) := by decide +kernel
theorem dL_law_442 : decode (mc mL_law) 442 = .ok (.aload_n 2, 1) := by decide +kernel
theorem dL_law_443 : decode (mc mL_law) 443 = .ok (.invokevirtual 60, 3) := by decide +kernel
theorem dL_law_446 : decode (mc mL_law) 446 = .ok (.if_icmp .eq 308, 3) := by decide +kernel
theorem dL_law_449 : decode (mc mL_law) 449 = .ok (.iconst 0, 1) := by decide +kernel
theorem dL_law_450 : decode (mc mL_law) 450 = .ok (.ireturn, 1) := by decide +kernel
theorem dL_law_451 : decode (mc mL_law) 451 = .ok (.aload_n 1, 1) := by decide +kernel
theorem dL_law_452 : decode (mc mL_law) 452 = .ok (.aload_n 0, 1) := by decide +kernel
theorem dL_law_453 : decode (mc mL_law) 453 = .ok (.iload_n 3, 1) := by decide +kernel
theorem dL_law_454 : decode (mc mL_law) 454 = .ok (.iconst 1, 1) := by decide +kernel
theorem dL_law_455 : decode (mc mL_law) 455 = .ok (.iadd, 1) := by decide +kernel
theorem dL_law_456 : decode (mc mL_law) 456 = .ok (.iaload, 1) := by decide +kernel
theorem dL_law_457 : decode (mc mL_law) 457 = .ok (.invokevirtual 61, 3) := by decide +kernel
theorem dL_law_460 : decode (mc mL_law) 460 = .ok (.aload_n 2, 1) := by decide +kernel
theorem dL_law_461 : decode (mc mL_law) 461 = .ok (.aload_n 0, 1) := by decide +kernel
theorem dL_law_462 : decode (mc mL_law) 462 = .ok (.iload_n 3, 1) := by decide +kernel
theorem dL_law_463 : decode (mc mL_law) 463 = .ok (.iconst 1, 1) := by decide +kernel
theorem dL_law_464 : decode (mc mL_law) 464 = .ok (.iadd, 1) := by decide +kernel
theorem dL_law_465 : decode (mc mL_law) 465 = .ok (.iaload, 1) := by decide +kernel
theorem dL_law_466 : decode (mc mL_law) 466 = .ok (.invokevirtual 64, 3) := by decide +kernel
theorem dL_law_469 : decode (mc mL_law) 469 = .ok (.if_icmp .eq 285, 3) := by decide +kernel
theorem dL_law_472 : decode (mc mL_law) 472 = .ok (.iconst 0, 1) := by decide +kernel
theorem dL_law_473 : decode (mc mL_law) 473 = .ok (.ireturn, 1) := by decide +kernel
theorem dL_law_474 : decode (mc mL_law) 474 = .ok (.aload_n 1, 1) := by decide +kernel
theorem dL_law_475 : decode (mc mL_law) 475 = .ok (.aload_n 0, 1) := by decide +kernel
theorem dL_law_476 : decode (mc mL_law) 476 = .ok (.iload_n 3, 1) := by decide +kernel
theorem dL_law_477 : decode (mc mL_law) 477 = .ok (.iconst 1, 1) := by decide +kernel
theorem dL_law_478 : decode (mc mL_law) 478 = .ok (.iadd, 1) := by decide +kernel
theorem dL_law_479 : decode (mc mL_law) 479 = .ok (.iaload, 1) := by decide +kernel
theorem dL_law_480 : decode (mc mL_law) 480 = .ok (.invokevirtual 65, 3) := by decide +kernel
theorem dL_law_483 : decode (mc mL_law) 483 = .ok (.aload_n 2, 1) := by decide +kernel
theorem dL_law_484 : decode (mc mL_law) 484 = .ok (.aload_n 0, 1) := by decide +kernel
theorem dL_law_485 : decode (mc mL_law) 485 = .ok (.iload_n 3, 1) := by decide +kernel
theorem dL_law_486 : decode (mc mL_law) 486 = .ok (.iconst 1, 1) := by decide +kernel
theorem dL_law_487 : decode (mc mL_law) 487 = .ok (.iadd, 1) := by decide +kernel
theorem dL_law_488 : decode (mc mL_law) 488 = .ok (.iaload, 1) := by decide +kernel
theorem dL_law_489 : decode (mc mL_law) 489 = .ok (.invokevirtual 68, 3) := by decide +kernel
theorem dL_law_492 : decode (mc mL_law) 492 = .ok (.if_icmp .eq 262, 3) := by decide +kernel
theorem dL_law_495 : decode (mc mL_law) 495 = .ok (.iconst 0, 1) := by decide +kernel
theorem dL_law_496 : decode (mc mL_law) 496 = .ok (.ireturn, 1) := by decide +kernel
theorem dL_law_497 : decode (mc mL_law) 497 = .ok (.aload_n 1, 1) := by decide +kernel
theorem dL_law_498 : decode (mc mL_law) 498 = .ok (.aload_n 0, 1) := by decide +kernel
theorem dL_law_499 : decode (mc mL_law) 499 = .ok (.iload_n 3, 1) := by decide +kernel
theorem dL_law_500 : decode (mc mL_law) 500 = .ok (.iconst 1, 1) := by decide +kernel
theorem dL_law_501 : decode (mc mL_law) 501 = .ok (.iadd, 1) := by decide +kernel
theorem dL_law_502 : decode (mc mL_law) 502 = .ok (.iaload, 1) := by decide +kernel
theorem dL_law_503 : decode (mc mL_law) 503 = .ok (.invokevirtual 69, 3) := by decide +kernel
theorem dL_law_506 : decode (mc mL_law) 506 = .ok (.aload_n 2, 1) := by decide +kernel
theorem dL_law_507 : decode (mc mL_law) 507 = .ok (.aload_n 0, 1) := by decide +kernel
theorem dL_law_508 : decode (mc mL_law) 508 = .ok (.iload_n 3, 1) := by decide +kernel
theorem dL_law_509 : decode (mc mL_law) 509 = .ok (.iconst 1, 1) := by decide +kernel
theorem dL_law_510 : decode (mc mL_law) 510 = .ok (.iadd, 1) := by decide +kernel
theorem dL_law_511 : decode (mc mL_law) 511 = .ok (.iaload, 1) := by decide +kernel
theorem dL_law_512 : decode (mc mL_law) 512 = .ok (.invokevirtual 72, 3) := by decide +kernel
theorem dL_law_515 : decode (mc mL_law) 515 = .ok (.if_icmp .eq 239, 3) := by decide +kernel
theorem dL_law_518 : decode (mc mL_law) 518 = .ok (.iconst 0, 1) := by decide +kernel
theorem dL_law_519 : decode (mc mL_law) 519 = .ok (.ireturn, 1) := by decide +kernel
theorem dL_law_520 : decode (mc mL_law) 520 = .ok (.aload_n 1, 1) := by decide +kernel
theorem dL_law_521 : decode (mc mL_law) 521 = .ok (.aload_n 0, 1) := by decide +kernel
theorem dL_law_522 : decode (mc mL_law) 522 = .ok (.iload_n 3, 1) := by decide +kernel
theorem dL_law_523 : decode (mc mL_law) 523 = .ok (.iconst 1, 1) := by decide +kernel
theorem dL_law_524 : decode (mc mL_law) 524 = .ok (.iadd, 1) := by decide +kernel
theorem dL_law_525 : decode (mc mL_law) 525 = .ok (.iaload, 1) := by decide +kernel
theorem dL_law_526 : decode (mc mL_law) 526 = .ok (.aload_n 0, 1) := by decide +kernel
theorem dL_law_527 : decode (mc mL_law) 527 = .ok (.iload_n 3, 1) := by decide +kernel
theorem dL_law_528 : decode (mc mL_law) 528 = .ok (.iconst 2, 1) := by decide +kernel
theorem dL_law_529 : decode (mc mL_law) 529 = .ok (.iadd, 1) := by decide +kernel
theorem dL_law_530 : decode (mc mL_law) 530 = .ok (.iaload, 1) := by decide +kernel
theorem dL_law_531 : decode (mc mL_law) 531 = .ok (.invokevirtual 73, 3) := by decide +kernel
theorem dL_law_534 : decode (mc mL_law) 534 = .ok (.aload_n 2, 1) := by decide +kernel
theorem dL_law_535 : decode (mc mL_law) 535 = .ok (.aload_n 0, 1) := by decide +kernel
theorem dL_law_536 : decode (mc mL_law) 536 = .ok (.iload_n 3, 1) := by decide +kernel
theorem dL_law_537 : decode (mc mL_law) 537 = .ok (.iconst 1, 1) := by decide +kernel
theorem dL_law_538 : decode (mc mL_law) 538 = .ok (.iadd, 1) := by decide +kernel
theorem dL_law_539 : decode (mc mL_law) 539 = .ok (.iaload, 1) := by decide +kernel
theorem dL_law_540 : decode (mc mL_law) 540 = .ok (.aload_n 0, 1) := by decide +kernel
theorem dL_law_541 : decode (mc mL_law) 541 = .ok (.iload_n 3, 1) := by decide +kernel
theorem dL_law_542 : decode (mc mL_law) 542 = .ok (.iconst 2, 1) := by decide +kernel
theorem dL_law_543 : decode (mc mL_law) 543 = .ok (.iadd, 1) := by decide +kernel
theorem dL_law_544 : decode (mc mL_law) 544 = .ok (.iaload, 1) := by decide +kernel
theorem dL_law_545 : decode (mc mL_law) 545 = .ok (.invokevirtual 76, 3) := by decide +kernel
theorem dL_law_548 : decode (mc mL_law) 548 = .ok (.if_icmp .eq 206, 3) := by decide +kernel
theorem dL_law_551 : decode (mc mL_law) 551 = .ok (.iconst 0, 1) := by decide +kernel
theorem dL_law_552 : decode (mc mL_law) 552 = .ok (.ireturn, 1) := by decide +kernel
theorem dL_law_553 : decode (mc mL_law) 553 = .ok (.aload_n 1, 1) := by decide +kernel
theorem dL_law_554 : decode (mc mL_law) 554 = .ok (.aload_n 0, 1) := by decide +kernel
theorem dL_law_555 : decode (mc mL_law) 555 = .ok (.iload_n 3, 1) := by decide +kernel
theorem dL_law_556 : decode (mc mL_law) 556 = .ok (.iconst 1, 1) := by decide +kernel
theorem dL_law_557 : decode (mc mL_law) 557 = .ok (.iadd, 1) := by decide +kernel
theorem dL_law_558 : decode (mc mL_law) 558 = .ok (.iaload, 1) := by decide +kernel
theorem dL_law_559 : decode (mc mL_law) 559 = .ok (.invokevirtual 77, 3) := by decide +kernel
theorem dL_law_562 : decode (mc mL_law) 562 = .ok (.aload_n 2, 1) := by decide +kernel
theorem dL_law_563 : decode (mc mL_law) 563 = .ok (.aload_n 0, 1) := by decide +kernel
theorem dL_law_564 : decode (mc mL_law) 564 = .ok (.iload_n 3, 1) := by decide +kernel
theorem dL_law_565 : decode (mc mL_law) 565 = .ok (.iconst 1, 1) := by decide +kernel
theorem dL_law_566 : decode (mc mL_law) 566 = .ok (.iadd, 1) := by decide +kernel
theorem dL_law_567 : decode (mc mL_law) 567 = .ok (.iaload, 1) := by decide +kernel
theorem dL_law_568 : decode (mc mL_law) 568 = .ok (.invokevirtual 80, 3) := by decide +kernel
theorem dL_law_571 : decode (mc mL_law) 571 = .ok (.if_icmp .eq 183, 3) := by decide +kernel
theorem dL_law_574 : decode (mc mL_law) 574 = .ok (.iconst 0, 1) := by decide +kernel
theorem dL_law_575 : decode (mc mL_law) 575 = .ok (.ireturn, 1) := by decide +kernel
theorem dL_law_576 : decode (mc mL_law) 576 = .ok (.aload_n 1, 1) := by decide +kernel
theorem dL_law_577 : decode (mc mL_law) 577 = .ok (.aload_n 0, 1) := by decide +kernel
theorem dL_law_578 : decode (mc mL_law) 578 = .ok (.iload_n 3, 1) := by decide +kernel
theorem dL_law_579 : decode (mc mL_law) 579 = .ok (.iconst 1, 1) := by decide +kernel
theorem dL_law_580 : decode (mc mL_law) 580 = .ok (.iadd, 1) := by decide +kernel
theorem dL_law_581 : decode (mc mL_law) 581 = .ok (.iaload, 1) := by decide +kernel
theorem dL_law_582 : decode (mc mL_law) 582 = .ok (.invokevirtual 81, 3) := by decide +kernel
theorem dL_law_585 : decode (mc mL_law) 585 = .ok (.aload_n 2, 1) := by decide +kernel
theorem dL_law_586 : decode (mc mL_law) 586 = .ok (.aload_n 0, 1) := by decide +kernel
theorem dL_law_587 : decode (mc mL_law) 587 = .ok (.iload_n 3, 1) := by decide +kernel
theorem dL_law_588 : decode (mc mL_law) 588 = .ok (.iconst 1, 1) := by decide +kernel
theorem dL_law_589 : decode (mc mL_law) 589 = .ok (.iadd, 1) := by decide +kernel
theorem dL_law_590 : decode (mc mL_law) 590 = .ok (.iaload, 1) := by decide +kernel
theorem dL_law_591 : decode (mc mL_law) 591 = .ok (.invokevirtual 84, 3) := by decide +kernel
theorem dL_law_594 : decode (mc mL_law) 594 = .ok (.if_icmp .eq 160, 3) := by decide +kernel
theorem dL_law_597 : decode (mc mL_law) 597 = .ok (.iconst 0, 1) := by decide +kernel
theorem dL_law_598 : decode (mc mL_law) 598 = .ok (.ireturn, 1) := by decide +kernel
theorem dL_law_599 : decode (mc mL_law) 599 = .ok (.aload_n 1, 1) := by decide +kernel
theorem dL_law_600 : decode (mc mL_law) 600 = .ok (.aload_n 0, 1) := by decide +kernel
theorem dL_law_601 : decode (mc mL_law) 601 = .ok (.iload_n 3, 1) := by decide +kernel
theorem dL_law_602 : decode (mc mL_law) 602 = .ok (.iconst 1, 1) := by decide +kernel
theorem dL_law_603 : decode (mc mL_law) 603 = .ok (.iadd, 1) := by decide +kernel
theorem dL_law_604 : decode (mc mL_law) 604 = .ok (.iaload, 1) := by decide +kernel
theorem dL_law_605 : decode (mc mL_law) 605 = .ok (.invokevirtual 85, 3) := by decide +kernel
theorem dL_law_608 : decode (mc mL_law) 608 = .ok (.aload_n 2, 1) := by decide +kernel
theorem dL_law_609 : decode (mc mL_law) 609 = .ok (.aload_n 0, 1) := by decide +kernel
theorem dL_law_610 : decode (mc mL_law) 610 = .ok (.iload_n 3, 1) := by decide +kernel
theorem dL_law_611 : decode (mc mL_law) 611 = .ok (.iconst 1, 1) := by decide +kernel
theorem dL_law_612 : decode (mc mL_law) 612 = .ok (.iadd, 1) := by decide +kernel
theorem dL_law_613 : decode (mc mL_law) 613 = .ok (.iaload, 1) := by decide +kernel
theorem dL_law_614 : decode (mc mL_law) 614 = .ok (.invokevirtual 88, 3) := by decide +kernel
theorem dL_law_617 : decode (mc mL_law) 617 = .ok (.if_icmp .eq 137, 3) := by decide +kernel
theorem dL_law_620 : decode (mc mL_law) 620 = .ok (.iconst 0, 1) := by decide +kernel
theorem dL_law_621 : decode (mc mL_law) 621 = .ok (.ireturn, 1) := by decide +kernel
theorem dL_law_622 : decode (mc mL_law) 622 = .ok (.aload_n 1, 1) := by decide +kernel
theorem dL_law_623 : decode (mc mL_law) 623 = .ok (.aload_n 0, 1) := by decide +kernel
theorem dL_law_624 : decode (mc mL_law) 624 = .ok (.iload_n 3, 1) := by decide +kernel
theorem dL_law_625 : decode (mc mL_law) 625 = .ok (.iconst 1, 1) := by decide +kernel
theorem dL_law_626 : decode (mc mL_law) 626 = .ok (.iadd, 1) := by decide +kernel
theorem dL_law_627 : decode (mc mL_law) 627 = .ok (.iaload, 1) := by decide +kernel
theorem dL_law_628 : decode (mc mL_law) 628 = .ok (.invokevirtual 89, 3) := by decide +kernel
theorem dL_law_631 : decode (mc mL_law) 631 = .ok (.aload_n 2, 1) := by decide +kernel
theorem dL_law_632 : decode (mc mL_law) 632 = .ok (.aload_n 0, 1) := by decide +kernel
theorem dL_law_633 : decode (mc mL_law) 633 = .ok (.iload_n 3, 1) := by decide +kernel
theorem dL_law_634 : decode (mc mL_law) 634 = .ok (.iconst 1, 1) := by decide +kernel
theorem dL_law_635 : decode (mc mL_law) 635 = .ok (.iadd, 1) := by decide +kernel
theorem dL_law_636 : decode (mc mL_law) 636 = .ok (.iaload, 1) := by decide +kernel
theorem dL_law_637 : decode (mc mL_law) 637 = .ok (.invokevirtual 92, 3) := by decide +kernel
theorem dL_law_640 : decode (mc mL_law) 640 = .ok (.if_icmp .eq 114, 3) := by decide +kernel
theorem dL_law_643 : decode (mc mL_law) 643 = .ok (.iconst 0, 1) := by decide +kernel
theorem dL_law_644 : decode (mc mL_law) 644 = .ok (.ireturn, 1) := by decide +kernel
theorem dL_law_645 : decode (mc mL_law) 645 = .ok (.aload_n 1, 1) := by decide +kernel
theorem dL_law_646 : decode (mc mL_law) 646 = .ok (.aload_n 0, 1) := by decide +kernel
theorem dL_law_647 : decode (mc mL_law) 647 = .ok (.iload_n 3, 1) := by decide +kernel
theorem dL_law_648 : decode (mc mL_law) 648 = .ok (.iconst 1, 1) := by decide +kernel
theorem dL_law_649 : decode (mc mL_law) 649 = .ok (.iadd, 1) := by decide +kernel
theorem dL_law_650 : decode (mc mL_law) 650 = .ok (.iaload, 1) := by decide +kernel
theorem dL_law_651 : decode (mc mL_law) 651 = .ok (.aload_n 0, 1) := by decide +kernel
theorem dL_law_652 : decode (mc mL_law) 652 = .ok (.iload_n 3, 1) := by decide +kernel
theorem dL_law_653 : decode (mc mL_law) 653 = .ok (.iconst 2, 1) := by decide +kernel
theorem dL_law_654 : decode (mc mL_law) 654 = .ok (.iadd, 1) := by decide +kernel
theorem dL_law_655 : decode (mc mL_law) 655 = .ok (.iaload, 1) := by decide +kernel
theorem dL_law_656 : decode (mc mL_law) 656 = .ok (.invokevirtual 93, 3) := by decide +kernel
theorem dL_law_659 : decode (mc mL_law) 659 = .ok (.aload_n 2, 1) := by decide +kernel
theorem dL_law_660 : decode (mc mL_law) 660 = .ok (.aload_n 0, 1) := by decide +kernel
theorem dL_law_661 : decode (mc mL_law) 661 = .ok (.iload_n 3, 1) := by decide +kernel
theorem dL_law_662 : decode (mc mL_law) 662 = .ok (.iconst 1, 1) := by decide +kernel
theorem dL_law_663 : decode (mc mL_law) 663 = .ok (.iadd, 1) := by decide +kernel
theorem dL_law_664 : decode (mc mL_law) 664 = .ok (.iaload, 1) := by decide +kernel
theorem dL_law_665 : decode (mc mL_law) 665 = .ok (.aload_n 0, 1) := by decide +kernel
theorem dL_law_666 : decode (mc mL_law) 666 = .ok (.iload_n 3, 1) := by decide +kernel
theorem dL_law_667 : decode (mc mL_law) 667 = .ok (.iconst 2, 1) := by decide +kernel
theorem dL_law_668 : decode (mc mL_law) 668 = .ok (.iadd, 1) := by decide +kernel
theorem dL_law_669 : decode (mc mL_law) 669 = .ok (.iaload, 1) := by decide +kernel
theorem dL_law_670 : decode (mc mL_law) 670 = .ok (.invokevirtual 96, 3) := by decide +kernel
theorem dL_law_673 : decode (mc mL_law) 673 = .ok (.if_icmp .eq 81, 3) := by decide +kernel
theorem dL_law_676 : decode (mc mL_law) 676 = .ok (.iconst 0, 1) := by decide +kernel
theorem dL_law_677 : decode (mc mL_law) 677 = .ok (.ireturn, 1) := by decide +kernel
theorem dL_law_678 : decode (mc mL_law) 678 = .ok (.aload_n 1, 1) := by decide +kernel
theorem dL_law_679 : decode (mc mL_law) 679 = .ok (.aload_n 0, 1) := by decide +kernel
theorem dL_law_680 : decode (mc mL_law) 680 = .ok (.iload_n 3, 1) := by decide +kernel
theorem dL_law_681 : decode (mc mL_law) 681 = .ok (.iconst 1, 1) := by decide +kernel
theorem dL_law_682 : decode (mc mL_law) 682 = .ok (.iadd, 1) := by decide +kernel
theorem dL_law_683 : decode (mc mL_law) 683 = .ok (.iaload, 1) := by decide +kernel
theorem dL_law_684 : decode (mc mL_law) 684 = .ok (.invokevirtual 97, 3) := by decide +kernel
theorem dL_law_687 : decode (mc mL_law) 687 = .ok (.aload_n 2, 1) := by decide +kernel
theorem dL_law_688 : decode (mc mL_law) 688 = .ok (.aload_n 0, 1) := by decide +kernel
theorem dL_law_689 : decode (mc mL_law) 689 = .ok (.iload_n 3, 1) := by decide +kernel
theorem dL_law_690 : decode (mc mL_law) 690 = .ok (.iconst 1, 1) := by decide +kernel
theorem dL_law_691 : decode (mc mL_law) 691 = .ok (.iadd, 1) := by decide +kernel
theorem dL_law_692 : decode (mc mL_law) 692 = .ok (.iaload, 1) := by decide +kernel
theorem dL_law_693 : decode (mc mL_law) 693 = .ok (.invokevirtual 100, 3) := by decide +kernel
theorem dL_law_696 : decode (mc mL_law) 696 = .ok (.if_icmp .eq 58, 3) := by decide +kernel
theorem dL_law_699 : decode (mc mL_law) 699 = .ok (.iconst 0, 1) := by decide +kernel
theorem dL_law_700 : decode (mc mL_law) 700 = .ok (.ireturn, 1) := by decide +kernel
theorem dL_law_701 : decode (mc mL_law) 701 = .ok (.aload_n 1, 1) := by decide +kernel
theorem dL_law_702 : decode (mc mL_law) 702 = .ok (.invokevirtual 101, 3) := by decide +kernel
theorem dL_law_705 : decode (mc mL_law) 705 = .ok (.aload_n 2, 1) := by decide +kernel
theorem dL_law_706 : decode (mc mL_law) 706 = .ok (.invokevirtual 104, 3) := by decide +kernel
theorem dL_law_709 : decode (mc mL_law) 709 = .ok (.if_icmp .eq 45, 3) := by decide +kernel
theorem dL_law_712 : decode (mc mL_law) 712 = .ok (.iconst 0, 1) := by decide +kernel
theorem dL_law_713 : decode (mc mL_law) 713 = .ok (.ireturn, 1) := by decide +kernel
theorem dL_law_714 : decode (mc mL_law) 714 = .ok (.aload_n 1, 1) := by decide +kernel
theorem dL_law_715 : decode (mc mL_law) 715 = .ok (.invokevirtual 105, 3) := by decide +kernel
theorem dL_law_718 : decode (mc mL_law) 718 = .ok (.aload_n 2, 1) := by decide +kernel
theorem dL_law_719 : decode (mc mL_law) 719 = .ok (.invokevirtual 108, 3) := by decide +kernel
theorem dL_law_722 : decode (mc mL_law) 722 = .ok (.if_icmp .eq 32, 3) := by decide +kernel
theorem dL_law_725 : decode (mc mL_law) 725 = .ok (.iconst 0, 1) := by decide +kernel
theorem dL_law_726 : decode (mc mL_law) 726 = .ok (.ireturn, 1) := by decide +kernel
theorem dL_law_727 : decode (mc mL_law) 727 = .ok (.aload_n 1, 1) := by decide +kernel
theorem dL_law_728 : decode (mc mL_law) 728 = .ok (.invokevirtual 109, 3) := by decide +kernel
theorem dL_law_731 : decode (mc mL_law) 731 = .ok (.aload_n 2, 1) := by decide +kernel
theorem dL_law_732 : decode (mc mL_law) 732 = .ok (.invokevirtual 112, 3) := by decide +kernel
theorem dL_law_735 : decode (mc mL_law) 735 = .ok (.if_icmp .eq 19, 3) := by decide +kernel
theorem dL_law_738 : decode (mc mL_law) 738 = .ok (.iconst 0, 1) := by decide +kernel
theorem dL_law_739 : decode (mc mL_law) 739 = .ok (.ireturn, 1) := by decide +kernel
theorem dL_law_740 : decode (mc mL_law) 740 = .ok (.aload_n 1, 1) := by decide +kernel
theorem dL_law_741 : decode (mc mL_law) 741 = .ok (.invokevirtual 113, 3) := by decide +kernel
theorem dL_law_744 : decode (mc mL_law) 744 = .ok (.aload_n 2, 1) := by decide +kernel
theorem dL_law_745 : decode (mc mL_law) 745 = .ok (.invokevirtual 117, 3) := by decide +kernel
theorem dL_law_748 : decode (mc mL_law) 748 = .ok (.lcmp, 1) := by decide +kernel
theorem dL_law_749 : decode (mc mL_law) 749 = .ok (.ifCond .eq 5, 3) := by decide +kernel
theorem dL_law_752 : decode (mc mL_law) 752 = .ok (.iconst 0, 1) := by decide +kernel
theorem dL_law_753 : decode (mc mL_law) 753 = .ok (.ireturn, 1) := by decide +kernel
theorem dL_law_754 : decode (mc mL_law) 754 = .ok (.iinc 3 4, 3) := by decide +kernel
theorem dL_law_757 : decode (mc mL_law) 757 = .ok (.goto (-739), 3) := by decide +kernel
theorem dL_law_760 : decode (mc mL_law) 760 = .ok (.iconst 1, 1) := by decide +kernel
theorem dL_law_761 : decode (mc mL_law) 761 = .ok (.ireturn, 1) := by decide +kernel
