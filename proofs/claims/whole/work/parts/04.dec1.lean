theorem dX0_init_0 : decode cX0_init 0 = .ok (.aload_n 0, 1) := by decide +kernel
theorem dX0_init_1 : decode cX0_init 1 = .ok (.invokespecial 3, 3) := by decide +kernel
theorem dX0_init_4 : decode cX0_init 4 = .ok (.aload_n 0, 1) := by decide +kernel
theorem dX0_init_5 : decode cX0_init 5 = .ok (.bipush 8, 2) := by decide +kernel
theorem dX0_init_7 : decode cX0_init 7 = .ok (.anewarray 9, 3) := by decide +kernel
theorem dX0_init_10 : decode cX0_init 10 = .ok (.putfield 11, 3) := by decide +kernel
theorem dX0_init_13 : decode cX0_init 13 = .ok (.iconst 0, 1) := by decide +kernel
theorem dX0_init_14 : decode cX0_init 14 = .ok (.istore_n 1, 1) := by decide +kernel
theorem dX0_init_15 : decode cX0_init 15 = .ok (.iload_n 1, 1) := by decide +kernel
theorem dX0_init_16 : decode cX0_init 16 = .ok (.aload_n 0, 1) := by decide +kernel
theorem dX0_init_17 : decode cX0_init 17 = .ok (.getfield 11, 3) := by decide +kernel
theorem dX0_init_20 : decode cX0_init 20 = .ok (.arraylength, 1) := by decide +kernel
theorem dX0_init_21 : decode cX0_init 21 = .ok (.if_icmp .ge 22, 3) := by decide +kernel
theorem dX0_init_24 : decode cX0_init 24 = .ok (.aload_n 0, 1) := by decide +kernel
theorem dX0_init_25 : decode cX0_init 25 = .ok (.getfield 11, 3) := by decide +kernel
theorem dX0_init_28 : decode cX0_init 28 = .ok (.iload_n 1, 1) := by decide +kernel
theorem dX0_init_29 : decode cX0_init 29 = .ok (.new 9, 3) := by decide +kernel
theorem dX0_init_32 : decode cX0_init 32 = .ok (.dup, 1) := by decide +kernel
theorem dX0_init_33 : decode cX0_init 33 = .ok (.invokespecial 17, 3) := by decide +kernel
theorem dX0_init_36 : decode cX0_init 36 = .ok (.aastore, 1) := by decide +kernel
theorem dX0_init_37 : decode cX0_init 37 = .ok (.iinc 1 1, 3) := by decide +kernel
theorem dX0_init_40 : decode cX0_init 40 = .ok (.goto (-25), 3) := by decide +kernel
theorem dX0_init_43 : decode cX0_init 43 = .ok (.return_, 1) := by decide +kernel
theorem dX0_keep_0 : decode cX0_keep 0 = .ok (.aload_n 0, 1) := by decide +kernel
theorem dX0_keep_1 : decode cX0_keep 1 = .ok (.aload_n 0, 1) := by decide +kernel
theorem dX0_keep_2 : decode cX0_keep 2 = .ok (.getfield 18, 3) := by decide +kernel
theorem dX0_keep_5 : decode cX0_keep 5 = .ok (.invokevirtual 22, 3) := by decide +kernel
theorem dX0_keep_8 : decode cX0_keep 8 = .ok (.astore_n 2, 1) := by decide +kernel
theorem dX0_keep_9 : decode cX0_keep 9 = .ok (.aload_n 2, 1) := by decide +kernel
theorem dX0_keep_10 : decode cX0_keep 10 = .ok (.ifnonnull 4, 3) := by decide +kernel
theorem dX0_keep_13 : decode cX0_keep 13 = .ok (.return_, 1) := by decide +kernel
theorem dX0_keep_14 : decode cX0_keep 14 = .ok (.aload_n 2, 1) := by decide +kernel
theorem dX0_keep_15 : decode cX0_keep 15 = .ok (.aload_n 1, 1) := by decide +kernel
theorem dX0_keep_16 : decode cX0_keep 16 = .ok (.invokevirtual 26, 3) := by decide +kernel
theorem dX0_keep_19 : decode cX0_keep 19 = .ok (.aload_n 0, 1) := by decide +kernel
theorem dX0_keep_20 : decode cX0_keep 20 = .ok (.aload_n 0, 1) := by decide +kernel
theorem dX0_keep_21 : decode cX0_keep 21 = .ok (.getfield 18, 3) := by decide +kernel
theorem dX0_keep_24 : decode cX0_keep 24 = .ok (.iconst 1, 1) := by decide +kernel
theorem dX0_keep_25 : decode cX0_keep 25 = .ok (.iadd, 1) := by decide +kernel
theorem dX0_keep_26 : decode cX0_keep 26 = .ok (.bipush 8, 2) := by decide +kernel
theorem dX0_keep_28 : decode cX0_keep 28 = .ok (.if_icmp .ge 12, 3) := by decide +kernel
theorem dX0_keep_31 : decode cX0_keep 31 = .ok (.aload_n 0, 1) := by decide +kernel
theorem dX0_keep_32 : decode cX0_keep 32 = .ok (.getfield 18, 3) := by decide +kernel
theorem dX0_keep_35 : decode cX0_keep 35 = .ok (.iconst 1, 1) := by decide +kernel
theorem dX0_keep_36 : decode cX0_keep 36 = .ok (.iadd, 1) := by decide +kernel
theorem dX0_keep_37 : decode cX0_keep 37 = .ok (.goto 4, 3) := by decide +kernel
theorem dX0_keep_40 : decode cX0_keep 40 = .ok (.iconst 0, 1) := by decide +kernel
theorem dX0_keep_41 : decode cX0_keep 41 = .ok (.putfield 18, 3) := by decide +kernel
theorem dX0_keep_44 : decode cX0_keep 44 = .ok (.aload_n 0, 1) := by decide +kernel
theorem dX0_keep_45 : decode cX0_keep 45 = .ok (.aload_n 0, 1) := by decide +kernel
theorem dX0_keep_46 : decode cX0_keep 46 = .ok (.getfield 30, 3) := by decide +kernel
theorem dX0_keep_49 : decode cX0_keep 49 = .ok (.iconst 1, 1) := by decide +kernel
theorem dX0_keep_50 : decode cX0_keep 50 = .ok (.iadd, 1) := by decide +kernel
theorem dX0_keep_51 : decode cX0_keep 51 = .ok (.bipush 8, 2) := by decide +kernel
theorem dX0_keep_53 : decode cX0_keep 53 = .ok (.invokestatic 33, 3) := by decide +kernel
theorem dX0_keep_56 : decode cX0_keep 56 = .ok (.putfield 30, 3) := by decide +kernel
theorem dX0_keep_59 : decode cX0_keep 59 = .ok (.return_, 1) := by decide +kernel
theorem dX0_takeBack_0 : decode cX0_takeBack 0 = .ok (.aload_n 0, 1) := by decide +kernel
theorem dX0_takeBack_1 : decode cX0_takeBack 1 = .ok (.getfield 18, 3) := by decide +kernel
theorem dX0_takeBack_4 : decode cX0_takeBack 4 = .ok (.ifCond .le 12, 3) := by decide +kernel
theorem dX0_takeBack_7 : decode cX0_takeBack 7 = .ok (.aload_n 0, 1) := by decide +kernel
theorem dX0_takeBack_8 : decode cX0_takeBack 8 = .ok (.getfield 18, 3) := by decide +kernel
theorem dX0_takeBack_11 : decode cX0_takeBack 11 = .ok (.iconst 1, 1) := by decide +kernel
theorem dX0_takeBack_12 : decode cX0_takeBack 12 = .ok (.isub, 1) := by decide +kernel
theorem dX0_takeBack_13 : decode cX0_takeBack 13 = .ok (.goto 5, 3) := by decide +kernel
theorem dX0_takeBack_16 : decode cX0_takeBack 16 = .ok (.bipush 7, 2) := by decide +kernel
theorem dX0_takeBack_18 : decode cX0_takeBack 18 = .ok (.istore_n 2, 1) := by decide +kernel
theorem dX0_takeBack_19 : decode cX0_takeBack 19 = .ok (.aload_n 0, 1) := by decide +kernel
theorem dX0_takeBack_20 : decode cX0_takeBack 20 = .ok (.iload_n 2, 1) := by decide +kernel
theorem dX0_takeBack_21 : decode cX0_takeBack 21 = .ok (.invokevirtual 22, 3) := by decide +kernel
theorem dX0_takeBack_24 : decode cX0_takeBack 24 = .ok (.astore_n 3, 1) := by decide +kernel
theorem dX0_takeBack_25 : decode cX0_takeBack 25 = .ok (.aload_n 0, 1) := by decide +kernel
theorem dX0_takeBack_26 : decode cX0_takeBack 26 = .ok (.getfield 30, 3) := by decide +kernel
theorem dX0_takeBack_29 : decode cX0_takeBack 29 = .ok (.ifCond .eq 7, 3) := by decide +kernel
theorem dX0_takeBack_32 : decode cX0_takeBack 32 = .ok (.aload_n 3, 1) := by decide +kernel
theorem dX0_takeBack_33 : decode cX0_takeBack 33 = .ok (.ifnonnull 5, 3) := by decide +kernel
theorem dX0_takeBack_36 : decode cX0_takeBack 36 = .ok (.iconst 0, 1) := by decide +kernel
theorem dX0_takeBack_37 : decode cX0_takeBack 37 = .ok (.ireturn, 1) := by decide +kernel
theorem dX0_takeBack_38 : decode cX0_takeBack 38 = .ok (.aload_n 1, 1) := by decide +kernel
theorem dX0_takeBack_39 : decode cX0_takeBack 39 = .ok (.aload_n 3, 1) := by decide +kernel
theorem dX0_takeBack_40 : decode cX0_takeBack 40 = .ok (.invokevirtual 26, 3) := by decide +kernel
theorem dX0_takeBack_43 : decode cX0_takeBack 43 = .ok (.aload_n 0, 1) := by decide +kernel
theorem dX0_takeBack_44 : decode cX0_takeBack 44 = .ok (.iload_n 2, 1) := by decide +kernel
theorem dX0_takeBack_45 : decode cX0_takeBack 45 = .ok (.putfield 18, 3) := by decide +kernel
theorem dX0_takeBack_48 : decode cX0_takeBack 48 = .ok (.aload_n 0, 1) := by decide +kernel
theorem dX0_takeBack_49 : decode cX0_takeBack 49 = .ok (.dup, 1) := by decide +kernel
theorem dX0_takeBack_50 : decode cX0_takeBack 50 = .ok (.getfield 30, 3) := by decide +kernel
theorem dX0_takeBack_53 : decode cX0_takeBack 53 = .ok (.iconst 1, 1) := by decide +kernel
theorem dX0_takeBack_54 : decode cX0_takeBack 54 = .ok (.isub, 1) := by decide +kernel
theorem dX0_takeBack_55 : decode cX0_takeBack 55 = .ok (.putfield 30, 3) := by decide +kernel
theorem dX0_takeBack_58 : decode cX0_takeBack 58 = .ok (.iconst 1, 1) := by decide +kernel
theorem dX0_takeBack_59 : decode cX0_takeBack 59 = .ok (.ireturn, 1) := by decide +kernel
theorem dX0_stateAt_0 : decode cX0_stateAt 0 = .ok (.iload_n 1, 1) := by decide +kernel
theorem dX0_stateAt_1 : decode cX0_stateAt 1 = .ok (.ifCond .lt 21, 3) := by decide +kernel
theorem dX0_stateAt_4 : decode cX0_stateAt 4 = .ok (.iload_n 1, 1) := by decide +kernel
theorem dX0_stateAt_5 : decode cX0_stateAt 5 = .ok (.aload_n 0, 1) := by decide +kernel
theorem dX0_stateAt_6 : decode cX0_stateAt 6 = .ok (.getfield 11, 3) := by decide +kernel
theorem dX0_stateAt_9 : decode cX0_stateAt 9 = .ok (.arraylength, 1) := by decide +kernel
theorem dX0_stateAt_10 : decode cX0_stateAt 10 = .ok (.if_icmp .ge 12, 3) := by decide +kernel
theorem dX0_stateAt_13 : decode cX0_stateAt 13 = .ok (.aload_n 0, 1) := by decide +kernel
theorem dX0_stateAt_14 : decode cX0_stateAt 14 = .ok (.getfield 11, 3) := by decide +kernel
theorem dX0_stateAt_17 : decode cX0_stateAt 17 = .ok (.iload_n 1, 1) := by decide +kernel
theorem dX0_stateAt_18 : decode cX0_stateAt 18 = .ok (.aaload, 1) := by decide +kernel
theorem dX0_stateAt_19 : decode cX0_stateAt 19 = .ok (.goto 4, 3) := by decide +kernel
theorem dX0_stateAt_22 : decode cX0_stateAt 22 = .ok (.aconst_null, 1) := by decide +kernel
theorem dX0_stateAt_23 : decode cX0_stateAt 23 = .ok (.areturn, 1) := by decide +kernel
theorem dX1_init_0 : decode cX1_init 0 = .ok (.aload_n 0, 1) := by decide +kernel
theorem dX1_init_1 : decode cX1_init 1 = .ok (.invokespecial 1, 3) := by decide +kernel
theorem dX1_init_4 : decode cX1_init 4 = .ok (.return_, 1) := by decide +kernel
theorem dX1_drop_0 : decode cX1_drop 0 = .ok (.aload_n 0, 1) := by decide +kernel
theorem dX1_drop_1 : decode cX1_drop 1 = .ok (.lconst 0, 1) := by decide +kernel
theorem dX1_drop_2 : decode cX1_drop 2 = .ok (.putfield 7, 3) := by decide +kernel
theorem dX1_drop_5 : decode cX1_drop 5 = .ok (.aload_n 0, 1) := by decide +kernel
theorem dX1_drop_6 : decode cX1_drop 6 = .ok (.lconst 0, 1) := by decide +kernel
theorem dX1_drop_7 : decode cX1_drop 7 = .ok (.putfield 13, 3) := by decide +kernel
theorem dX1_drop_10 : decode cX1_drop 10 = .ok (.return_, 1) := by decide +kernel
theorem dX1_copyFrom_0 : decode cX1_copyFrom 0 = .ok (.aload_n 0, 1) := by decide +kernel
theorem dX1_copyFrom_1 : decode cX1_copyFrom 1 = .ok (.aload_n 1, 1) := by decide +kernel
theorem dX1_copyFrom_2 : decode cX1_copyFrom 2 = .ok (.getfield 7, 3) := by decide +kernel
theorem dX1_copyFrom_5 : decode cX1_copyFrom 5 = .ok (.putfield 7, 3) := by decide +kernel
theorem dX1_copyFrom_8 : decode cX1_copyFrom 8 = .ok (.aload_n 0, 1) := by decide +kernel
theorem dX1_copyFrom_9 : decode cX1_copyFrom 9 = .ok (.aload_n 1, 1) := by decide +kernel
theorem dX1_copyFrom_10 : decode cX1_copyFrom 10 = .ok (.getfield 13, 3) := by decide +kernel
theorem dX1_copyFrom_13 : decode cX1_copyFrom 13 = .ok (.putfield 13, 3) := by decide +kernel
theorem dX1_copyFrom_16 : decode cX1_copyFrom 16 = .ok (.return_, 1) := by decide +kernel
theorem dX1_isNone_0 : decode cX1_isNone 0 = .ok (.aload_n 0, 1) := by decide +kernel
theorem dX1_isNone_1 : decode cX1_isNone 1 = .ok (.getfield 13, 3) := by decide +kernel
theorem dX1_isNone_4 : decode cX1_isNone 4 = .ok (.lconst 0, 1) := by decide +kernel
theorem dX1_isNone_5 : decode cX1_isNone 5 = .ok (.lcmp, 1) := by decide +kernel
theorem dX1_isNone_6 : decode cX1_isNone 6 = .ok (.ifCond .ne 7, 3) := by decide +kernel
theorem dX1_isNone_9 : decode cX1_isNone 9 = .ok (.iconst 1, 1) := by decide +kernel
theorem dX1_isNone_10 : decode cX1_isNone 10 = .ok (.goto 4, 3) := by decide +kernel
theorem dX1_isNone_13 : decode cX1_isNone 13 = .ok (.iconst 0, 1) := by decide +kernel
theorem dX1_isNone_14 : decode cX1_isNone 14 = .ok (.ireturn, 1) := by decide +kernel
theorem dX1_isLessThan_0 : decode cX1_isLessThan 0 = .ok (.aload_n 0, 1) := by decide +kernel
theorem dX1_isLessThan_1 : decode cX1_isLessThan 1 = .ok (.getfield 7, 3) := by decide +kernel
theorem dX1_isLessThan_4 : decode cX1_isLessThan 4 = .ok (.aload_n 1, 1) := by decide +kernel
theorem dX1_isLessThan_5 : decode cX1_isLessThan 5 = .ok (.getfield 13, 3) := by decide +kernel
theorem dX1_isLessThan_8 : decode cX1_isLessThan 8 = .ok (.lmul, 1) := by decide +kernel
theorem dX1_isLessThan_9 : decode cX1_isLessThan 9 = .ok (.aload_n 1, 1) := by decide +kernel
theorem dX1_isLessThan_10 : decode cX1_isLessThan 10 = .ok (.getfield 7, 3) := by decide +kernel
theorem dX1_isLessThan_13 : decode cX1_isLessThan 13 = .ok (.aload_n 0, 1) := by decide +kernel
theorem dX1_isLessThan_14 : decode cX1_isLessThan 14 = .ok (.getfield 13, 3) := by decide +kernel
theorem dX1_isLessThan_17 : decode cX1_isLessThan 17 = .ok (.lmul, 1) := by decide +kernel
theorem dX1_isLessThan_18 : decode cX1_isLessThan 18 = .ok (.lcmp, 1) := by decide +kernel
theorem dX1_isLessThan_19 : decode cX1_isLessThan 19 = .ok (.ifCond .ge 7, 3) := by decide +kernel
theorem dX1_isLessThan_22 : decode cX1_isLessThan 22 = .ok (.iconst 1, 1) := by decide +kernel
theorem dX1_isLessThan_23 : decode cX1_isLessThan 23 = .ok (.goto 4, 3) := by decide +kernel
theorem dX1_isLessThan_26 : decode cX1_isLessThan 26 = .ok (.iconst 0, 1) := by decide +kernel
theorem dX1_isLessThan_27 : decode cX1_isLessThan 27 = .ok (.ireturn, 1) := by decide +kernel
theorem dX1_lowerTo_0 : decode cX1_lowerTo 0 = .ok (.aload_n 0, 1) := by decide +kernel
theorem dX1_lowerTo_1 : decode cX1_lowerTo 1 = .ok (.getfield 13, 3) := by decide +kernel
theorem dX1_lowerTo_4 : decode cX1_lowerTo 4 = .ok (.lconst 0, 1) := by decide +kernel
theorem dX1_lowerTo_5 : decode cX1_lowerTo 5 = .ok (.lcmp, 1) := by decide +kernel
theorem dX1_lowerTo_6 : decode cX1_lowerTo 6 = .ok (.ifCond .eq 19, 3) := by decide +kernel
theorem dX1_lowerTo_9 : decode cX1_lowerTo 9 = .ok (.aload_n 0, 1) := by decide +kernel
theorem dX1_lowerTo_10 : decode cX1_lowerTo 10 = .ok (.getfield 7, 3) := by decide +kernel
theorem dX1_lowerTo_13 : decode cX1_lowerTo 13 = .ok (.lload_n 3, 1) := by decide +kernel
theorem dX1_lowerTo_14 : decode cX1_lowerTo 14 = .ok (.lmul, 1) := by decide +kernel
theorem dX1_lowerTo_15 : decode cX1_lowerTo 15 = .ok (.lload_n 1, 1) := by decide +kernel
theorem dX1_lowerTo_16 : decode cX1_lowerTo 16 = .ok (.aload_n 0, 1) := by decide +kernel
theorem dX1_lowerTo_17 : decode cX1_lowerTo 17 = .ok (.getfield 13, 3) := by decide +kernel
theorem dX1_lowerTo_20 : decode cX1_lowerTo 20 = .ok (.lmul, 1) := by decide +kernel
theorem dX1_lowerTo_21 : decode cX1_lowerTo 21 = .ok (.lcmp, 1) := by decide +kernel
theorem dX1_lowerTo_22 : decode cX1_lowerTo 22 = .ok (.ifCond .le 13, 3) := by decide +kernel
theorem dX1_lowerTo_25 : decode cX1_lowerTo 25 = .ok (.aload_n 0, 1) := by decide +kernel
theorem dX1_lowerTo_26 : decode cX1_lowerTo 26 = .ok (.lload_n 1, 1) := by decide +kernel
theorem dX1_lowerTo_27 : decode cX1_lowerTo 27 = .ok (.putfield 7, 3) := by decide +kernel
theorem dX1_lowerTo_30 : decode cX1_lowerTo 30 = .ok (.aload_n 0, 1) := by decide +kernel
theorem dX1_lowerTo_31 : decode cX1_lowerTo 31 = .ok (.lload_n 3, 1) := by decide +kernel
theorem dX1_lowerTo_32 : decode cX1_lowerTo 32 = .ok (.putfield 13, 3) := by decide +kernel
theorem dX1_lowerTo_35 : decode cX1_lowerTo 35 = .ok (.return_, 1) := by decide +kernel
theorem dX1_raiseTo_0 : decode cX1_raiseTo 0 = .ok (.aload_n 0, 1) := by decide +kernel
theorem dX1_raiseTo_1 : decode cX1_raiseTo 1 = .ok (.getfield 13, 3) := by decide +kernel
theorem dX1_raiseTo_4 : decode cX1_raiseTo 4 = .ok (.lconst 0, 1) := by decide +kernel
theorem dX1_raiseTo_5 : decode cX1_raiseTo 5 = .ok (.lcmp, 1) := by decide +kernel
theorem dX1_raiseTo_6 : decode cX1_raiseTo 6 = .ok (.ifCond .eq 19, 3) := by decide +kernel
theorem dX1_raiseTo_9 : decode cX1_raiseTo 9 = .ok (.aload_n 0, 1) := by decide +kernel
theorem dX1_raiseTo_10 : decode cX1_raiseTo 10 = .ok (.getfield 7, 3) := by decide +kernel
theorem dX1_raiseTo_13 : decode cX1_raiseTo 13 = .ok (.lload_n 3, 1) := by decide +kernel
theorem dX1_raiseTo_14 : decode cX1_raiseTo 14 = .ok (.lmul, 1) := by decide +kernel
theorem dX1_raiseTo_15 : decode cX1_raiseTo 15 = .ok (.lload_n 1, 1) := by decide +kernel
theorem dX1_raiseTo_16 : decode cX1_raiseTo 16 = .ok (.aload_n 0, 1) := by decide +kernel
theorem dX1_raiseTo_17 : decode cX1_raiseTo 17 = .ok (.getfield 13, 3) := by decide +kernel
theorem dX1_raiseTo_20 : decode cX1_raiseTo 20 = .ok (.lmul, 1) := by decide +kernel
theorem dX1_raiseTo_21 : decode cX1_raiseTo 21 = .ok (.lcmp, 1) := by decide +kernel
theorem dX1_raiseTo_22 : decode cX1_raiseTo 22 = .ok (.ifCond .ge 13, 3) := by decide +kernel
theorem dX1_raiseTo_25 : decode cX1_raiseTo 25 = .ok (.aload_n 0, 1) := by decide +kernel
theorem dX1_raiseTo_26 : decode cX1_raiseTo 26 = .ok (.lload_n 1, 1) := by decide +kernel
theorem dX1_raiseTo_27 : decode cX1_raiseTo 27 = .ok (.putfield 7, 3) := by decide +kernel
theorem dX1_raiseTo_30 : decode cX1_raiseTo 30 = .ok (.aload_n 0, 1) := by decide +kernel
theorem dX1_raiseTo_31 : decode cX1_raiseTo 31 = .ok (.lload_n 3, 1) := by decide +kernel
theorem dX1_raiseTo_32 : decode cX1_raiseTo 32 = .ok (.putfield 13, 3) := by decide +kernel
theorem dX1_raiseTo_35 : decode cX1_raiseTo 35 = .ok (.return_, 1) := by decide +kernel
theorem dX1_shorten_0 : decode cX1_shorten 0 = .ok (.aload_n 0, 1) := by decide +kernel
theorem dX1_shorten_1 : decode cX1_shorten 1 = .ok (.getfield 13, 3) := by decide +kernel
theorem dX1_shorten_4 : decode cX1_shorten 4 = .ok (.lstore_n 1, 1) := by decide +kernel
theorem dX1_shorten_5 : decode cX1_shorten 5 = .ok (.aload_n 0, 1) := by decide +kernel
theorem dX1_shorten_6 : decode cX1_shorten 6 = .ok (.getfield 7, 3) := by decide +kernel
theorem dX1_shorten_9 : decode cX1_shorten 9 = .ok (.invokestatic 16, 3) := by decide +kernel
theorem dX1_shorten_12 : decode cX1_shorten 12 = .ok (.lstore_n 3, 1) := by decide +kernel
theorem dX1_shorten_13 : decode cX1_shorten 13 = .ok (.iconst 0, 1) := by decide +kernel
theorem dX1_shorten_14 : decode cX1_shorten 14 = .ok (.istore 5, 2) := by decide +kernel
theorem dX1_shorten_16 : decode cX1_shorten 16 = .ok (.iload 5, 2) := by decide +kernel
theorem dX1_shorten_18 : decode cX1_shorten 18 = .ok (.bipush 100, 2) := by decide +kernel
theorem dX1_shorten_20 : decode cX1_shorten 20 = .ok (.if_icmp .ge 25, 3) := by decide +kernel
theorem dX1_shorten_23 : decode cX1_shorten 23 = .ok (.lload_n 3, 1) := by decide +kernel
theorem dX1_shorten_24 : decode cX1_shorten 24 = .ok (.lconst 0, 1) := by decide +kernel
theorem dX1_shorten_25 : decode cX1_shorten 25 = .ok (.lcmp, 1) := by decide +kernel
theorem dX1_shorten_26 : decode cX1_shorten 26 = .ok (.ifCond .eq 19, 3) := by decide +kernel
theorem dX1_shorten_29 : decode cX1_shorten 29 = .ok (.lload_n 1, 1) := by decide +kernel
theorem dX1_shorten_30 : decode cX1_shorten 30 = .ok (.lload_n 3, 1) := by decide +kernel
theorem dX1_shorten_31 : decode cX1_shorten 31 = .ok (.lrem, 1) := by decide +kernel
theorem dX1_shorten_32 : decode cX1_shorten 32 = .ok (.lstore 6, 2) := by decide +kernel
theorem dX1_shorten_34 : decode cX1_shorten 34 = .ok (.lload_n 3, 1) := by decide +kernel
theorem dX1_shorten_35 : decode cX1_shorten 35 = .ok (.lstore_n 1, 1) := by decide +kernel
theorem dX1_shorten_36 : decode cX1_shorten 36 = .ok (.lload 6, 2) := by decide +kernel
theorem dX1_shorten_38 : decode cX1_shorten 38 = .ok (.lstore_n 3, 1) := by decide +kernel
theorem dX1_shorten_39 : decode cX1_shorten 39 = .ok (.iinc 5 1, 3) := by decide +kernel
theorem dX1_shorten_42 : decode cX1_shorten 42 = .ok (.goto (-26), 3) := by decide +kernel
theorem dX1_shorten_45 : decode cX1_shorten 45 = .ok (.lload_n 1, 1) := by decide +kernel
theorem dX1_shorten_46 : decode cX1_shorten 46 = .ok (.lconst 0, 1) := by decide +kernel
theorem dX1_shorten_47 : decode cX1_shorten 47 = .ok (.lcmp, 1) := by decide +kernel
theorem dX1_shorten_48 : decode cX1_shorten 48 = .ok (.ifCond .le 23, 3) := by decide +kernel
theorem dX1_shorten_51 : decode cX1_shorten 51 = .ok (.aload_n 0, 1) := by decide +kernel
theorem dX1_shorten_52 : decode cX1_shorten 52 = .ok (.dup, 1) := by decide +kernel
theorem dX1_shorten_53 : decode cX1_shorten 53 = .ok (.getfield 7, 3) := by decide +kernel
theorem dX1_shorten_56 : decode cX1_shorten 56 = .ok (.lload_n 1, 1) := by decide +kernel
theorem dX1_shorten_57 : decode cX1_shorten 57 = .ok (.ldiv, 1) := by decide +kernel
theorem dX1_shorten_58 : decode cX1_shorten 58 = .ok (.putfield 7, 3) := by decide +kernel
theorem dX1_shorten_61 : decode cX1_shorten 61 = .ok (.aload_n 0, 1) := by decide +kernel
theorem dX1_shorten_62 : decode cX1_shorten 62 = .ok (.dup, 1) := by decide +kernel
theorem dX1_shorten_63 : decode cX1_shorten 63 = .ok (.getfield 13, 3) := by decide +kernel
theorem dX1_shorten_66 : decode cX1_shorten 66 = .ok (.lload_n 1, 1) := by decide +kernel
theorem dX1_shorten_67 : decode cX1_shorten 67 = .ok (.ldiv, 1) := by decide +kernel
theorem dX1_shorten_68 : decode cX1_shorten 68 = .ok (.putfield 13, 3) := by decide +kernel
theorem dX1_shorten_71 : decode cX1_shorten 71 = .ok (.return_, 1) := by decide +kernel
theorem dX2_init_0 : decode cX2_init 0 = .ok (.aload_n 0, 1) := by decide +kernel
theorem dX2_init_1 : decode cX2_init 1 = .ok (.invokespecial 1, 3) := by decide +kernel
theorem dX2_init_4 : decode cX2_init 4 = .ok (.aload_n 0, 1) := by decide +kernel
theorem dX2_init_5 : decode cX2_init 5 = .ok (.iload_n 1, 1) := by decide +kernel
theorem dX2_init_6 : decode cX2_init 6 = .ok (.iconst 0, 1) := by decide +kernel
theorem dX2_init_7 : decode cX2_init 7 = .ok (.invokestatic 7, 3) := by decide +kernel
theorem dX2_init_10 : decode cX2_init 10 = .ok (.newarray .int, 2) := by decide +kernel
theorem dX2_init_12 : decode cX2_init 12 = .ok (.putfield 13, 3) := by decide +kernel
theorem dX2_init_15 : decode cX2_init 15 = .ok (.return_, 1) := by decide +kernel
theorem dX2_at_0 : decode cX2_at 0 = .ok (.iload_n 1, 1) := by decide +kernel
theorem dX2_at_1 : decode cX2_at 1 = .ok (.ifCond .lt 21, 3) := by decide +kernel
theorem dX2_at_4 : decode cX2_at 4 = .ok (.iload_n 1, 1) := by decide +kernel
theorem dX2_at_5 : decode cX2_at 5 = .ok (.aload_n 0, 1) := by decide +kernel
theorem dX2_at_6 : decode cX2_at 6 = .ok (.getfield 13, 3) := by decide +kernel
theorem dX2_at_9 : decode cX2_at 9 = .ok (.arraylength, 1) := by decide +kernel
theorem dX2_at_10 : decode cX2_at 10 = .ok (.if_icmp .ge 12, 3) := by decide +kernel
theorem dX2_at_13 : decode cX2_at 13 = .ok (.aload_n 0, 1) := by decide +kernel
theorem dX2_at_14 : decode cX2_at 14 = .ok (.getfield 13, 3) := by decide +kernel
theorem dX2_at_17 : decode cX2_at 17 = .ok (.iload_n 1, 1) := by decide +kernel
theorem dX2_at_18 : decode cX2_at 18 = .ok (.iaload, 1) := by decide +kernel
theorem dX2_at_19 : decode cX2_at 19 = .ok (.goto 4, 3) := by decide +kernel
theorem dX2_at_22 : decode cX2_at 22 = .ok (.iconst 0, 1) := by decide +kernel
theorem dX2_at_23 : decode cX2_at 23 = .ok (.ireturn, 1) := by decide +kernel
theorem dX2_put_0 : decode cX2_put 0 = .ok (.iload_n 1, 1) := by decide +kernel
theorem dX2_put_1 : decode cX2_put 1 = .ok (.ifCond .lt 19, 3) := by decide +kernel
theorem dX2_put_4 : decode cX2_put 4 = .ok (.iload_n 1, 1) := by decide +kernel
theorem dX2_put_5 : decode cX2_put 5 = .ok (.aload_n 0, 1) := by decide +kernel
theorem dX2_put_6 : decode cX2_put 6 = .ok (.getfield 13, 3) := by decide +kernel
theorem dX2_put_9 : decode cX2_put 9 = .ok (.arraylength, 1) := by decide +kernel
theorem dX2_put_10 : decode cX2_put 10 = .ok (.if_icmp .ge 10, 3) := by decide +kernel
theorem dX2_put_13 : decode cX2_put 13 = .ok (.aload_n 0, 1) := by decide +kernel
theorem dX2_put_14 : decode cX2_put 14 = .ok (.getfield 13, 3) := by decide +kernel
theorem dX2_put_17 : decode cX2_put 17 = .ok (.iload_n 1, 1) := by decide +kernel
theorem dX2_put_18 : decode cX2_put 18 = .ok (.iload_n 2, 1) := by decide +kernel
theorem dX2_put_19 : decode cX2_put 19 = .ok (.iastore, 1) := by decide +kernel
theorem dX2_put_20 : decode cX2_put 20 = .ok (.return_, 1) := by decide +kernel
theorem dX2_copyFrom_0 : decode cX2_copyFrom 0 = .ok (.iconst 0, 1) := by decide +kernel
theorem dX2_copyFrom_1 : decode cX2_copyFrom 1 = .ok (.istore_n 2, 1) := by decide +kernel
theorem dX2_copyFrom_2 : decode cX2_copyFrom 2 = .ok (.iload_n 2, 1) := by decide +kernel
theorem dX2_copyFrom_3 : decode cX2_copyFrom 3 = .ok (.aload_n 0, 1) := by decide +kernel
theorem dX2_copyFrom_4 : decode cX2_copyFrom 4 = .ok (.getfield 13, 3) := by decide +kernel
theorem dX2_copyFrom_7 : decode cX2_copyFrom 7 = .ok (.arraylength, 1) := by decide +kernel
theorem dX2_copyFrom_8 : decode cX2_copyFrom 8 = .ok (.if_icmp .ge 20, 3) := by decide +kernel
theorem dX2_copyFrom_11 : decode cX2_copyFrom 11 = .ok (.aload_n 0, 1) := by decide +kernel
theorem dX2_copyFrom_12 : decode cX2_copyFrom 12 = .ok (.getfield 13, 3) := by decide +kernel
theorem dX2_copyFrom_15 : decode cX2_copyFrom 15 = .ok (.iload_n 2, 1) := by decide +kernel
theorem dX2_copyFrom_16 : decode cX2_copyFrom 16 = .ok (.aload_n 1, 1) := by decide +kernel
theorem dX2_copyFrom_17 : decode cX2_copyFrom 17 = .ok (.iload_n 2, 1) := by decide +kernel
theorem dX2_copyFrom_18 : decode cX2_copyFrom 18 = .ok (.invokevirtual 19, 3) := by decide +kernel
theorem dX2_copyFrom_21 : decode cX2_copyFrom 21 = .ok (.iastore, 1) := by decide +kernel
theorem dX2_copyFrom_22 : decode cX2_copyFrom 22 = .ok (.iinc 2 1, 3) := by decide +kernel
theorem dX2_copyFrom_25 : decode cX2_copyFrom 25 = .ok (.goto (-23), 3) := by decide +kernel
theorem dX2_copyFrom_28 : decode cX2_copyFrom 28 = .ok (.return_, 1) := by decide +kernel
theorem dX3_init_0 : decode cX3_init 0 = .ok (.aload_n 0, 1) := by decide +kernel
theorem dX3_init_1 : decode cX3_init 1 = .ok (.invokespecial 3, 3) := by decide +kernel
theorem dX3_init_4 : decode cX3_init 4 = .ok (.aload_n 0, 1) := by decide +kernel
theorem dX3_init_5 : decode cX3_init 5 = .ok (.new 9, 3) := by decide +kernel
theorem dX3_init_8 : decode cX3_init 8 = .ok (.dup, 1) := by decide +kernel
theorem dX3_init_9 : decode cX3_init 9 = .ok (.invokespecial 11, 3) := by decide +kernel
theorem dX3_init_12 : decode cX3_init 12 = .ok (.putfield 12, 3) := by decide +kernel
theorem dX3_init_15 : decode cX3_init 15 = .ok (.aload_n 0, 1) := by decide +kernel
theorem dX3_init_16 : decode cX3_init 16 = .ok (.aload_n 0, 1) := by decide +kernel
theorem dX3_init_17 : decode cX3_init 17 = .ok (.getfield 12, 3) := by decide +kernel
theorem dX3_init_20 : decode cX3_init 20 = .ok (.getfield 18, 3) := by decide +kernel
theorem dX3_init_23 : decode cX3_init 23 = .ok (.putfield 22, 3) := by decide +kernel
theorem dX3_init_26 : decode cX3_init 26 = .ok (.aload_n 0, 1) := by decide +kernel
theorem dX3_init_27 : decode cX3_init 27 = .ok (.new 23, 3) := by decide +kernel
theorem dX3_init_30 : decode cX3_init 30 = .ok (.dup, 1) := by decide +kernel
theorem dX3_init_31 : decode cX3_init 31 = .ok (.bipush 8, 2) := by decide +kernel
theorem dX3_init_33 : decode cX3_init 33 = .ok (.invokespecial 25, 3) := by decide +kernel
theorem dX3_init_36 : decode cX3_init 36 = .ok (.putfield 28, 3) := by decide +kernel
theorem dX3_init_39 : decode cX3_init 39 = .ok (.aload_n 0, 1) := by decide +kernel
theorem dX3_init_40 : decode cX3_init 40 = .ok (.new 23, 3) := by decide +kernel
theorem dX3_init_43 : decode cX3_init 43 = .ok (.dup, 1) := by decide +kernel
theorem dX3_init_44 : decode cX3_init 44 = .ok (.bipush 79, 2) := by decide +kernel
theorem dX3_init_46 : decode cX3_init 46 = .ok (.invokespecial 25, 3) := by decide +kernel
theorem dX3_init_49 : decode cX3_init 49 = .ok (.putfield 32, 3) := by decide +kernel
theorem dX3_init_52 : decode cX3_init 52 = .ok (.return_, 1) := by decide +kernel
theorem dX3_start_0 : decode cX3_start 0 = .ok (.aload_n 0, 1) := by decide +kernel
theorem dX3_start_1 : decode cX3_start 1 = .ok (.iload_n 2, 1) := by decide +kernel
theorem dX3_start_2 : decode cX3_start 2 = .ok (.putfield 35, 3) := by decide +kernel
theorem dX3_start_5 : decode cX3_start 5 = .ok (.iconst 0, 1) := by decide +kernel
theorem dX3_start_6 : decode cX3_start 6 = .ok (.istore_n 3, 1) := by decide +kernel
theorem dX3_start_7 : decode cX3_start 7 = .ok (.iload_n 3, 1) := by decide +kernel
theorem dX3_start_8 : decode cX3_start 8 = .ok (.aload_n 0, 1) := by decide +kernel
theorem dX3_start_9 : decode cX3_start 9 = .ok (.getfield 22, 3) := by decide +kernel
theorem dX3_start_12 : decode cX3_start 12 = .ok (.getfield 39, 3) := by decide +kernel
theorem dX3_start_15 : decode cX3_start 15 = .ok (.if_icmp .ge 18, 3) := by decide +kernel
theorem dX3_start_18 : decode cX3_start 18 = .ok (.aload_n 0, 1) := by decide +kernel
theorem dX3_start_19 : decode cX3_start 19 = .ok (.getfield 28, 3) := by decide +kernel
theorem dX3_start_22 : decode cX3_start 22 = .ok (.iload_n 3, 1) := by decide +kernel
theorem dX3_start_23 : decode cX3_start 23 = .ok (.iconst 0, 1) := by decide +kernel
theorem dX3_start_24 : decode cX3_start 24 = .ok (.invokevirtual 44, 3) := by decide +kernel
theorem dX3_start_27 : decode cX3_start 27 = .ok (.iinc 3 1, 3) := by decide +kernel
theorem dX3_start_30 : decode cX3_start 30 = .ok (.goto (-23), 3) := by decide +kernel
theorem dX3_start_33 : decode cX3_start 33 = .ok (.aload_n 0, 1) := by decide +kernel
theorem dX3_start_34 : decode cX3_start 34 = .ok (.getfield 22, 3) := by decide +kernel
theorem dX3_start_37 : decode cX3_start 37 = .ok (.iload_n 1, 1) := by decide +kernel
theorem dX3_start_38 : decode cX3_start 38 = .ok (.iload_n 2, 1) := by decide +kernel
theorem dX3_start_39 : decode cX3_start 39 = .ok (.iconst 0, 1) := by decide +kernel
theorem dX3_start_40 : decode cX3_start 40 = .ok (.invokevirtual 48, 3) := by decide +kernel
theorem dX3_start_43 : decode cX3_start 43 = .ok (.aload_n 0, 1) := by decide +kernel
theorem dX3_start_44 : decode cX3_start 44 = .ok (.getfield 12, 3) := by decide +kernel
theorem dX3_start_47 : decode cX3_start 47 = .ok (.invokevirtual 52, 3) := by decide +kernel
theorem dX3_start_50 : decode cX3_start 50 = .ok (.aload_n 0, 1) := by decide +kernel
theorem dX3_start_51 : decode cX3_start 51 = .ok (.getfield 22, 3) := by decide +kernel
theorem dX3_start_54 : decode cX3_start 54 = .ok (.getfield 55, 3) := by decide +kernel
theorem dX3_start_57 : decode cX3_start 57 = .ok (.ifCond .ne 18, 3) := by decide +kernel
theorem dX3_start_60 : decode cX3_start 60 = .ok (.aload_n 0, 1) := by decide +kernel
theorem dX3_start_61 : decode cX3_start 61 = .ok (.getfield 12, 3) := by decide +kernel
theorem dX3_start_64 : decode cX3_start 64 = .ok (.invokevirtual 58, 3) := by decide +kernel
theorem dX3_start_67 : decode cX3_start 67 = .ok (.aload_n 0, 1) := by decide +kernel
theorem dX3_start_68 : decode cX3_start 68 = .ok (.getfield 12, 3) := by decide +kernel
theorem dX3_start_71 : decode cX3_start 71 = .ok (.iconst 1, 1) := by decide +kernel
theorem dX3_start_72 : decode cX3_start 72 = .ok (.putfield 61, 3) := by decide +kernel
theorem dX3_start_75 : decode cX3_start 75 = .ok (.iload_n 1, 1) := by decide +kernel
theorem dX3_start_76 : decode cX3_start 76 = .ok (.aload_n 0, 1) := by decide +kernel
theorem dX3_start_77 : decode cX3_start 77 = .ok (.getfield 22, 3) := by decide +kernel
theorem dX3_start_80 : decode cX3_start 80 = .ok (.getfield 39, 3) := by decide +kernel
theorem dX3_start_83 : decode cX3_start 83 = .ok (.invokestatic 65, 3) := by decide +kernel
theorem dX3_start_86 : decode cX3_start 86 = .ok (.ireturn, 1) := by decide +kernel
theorem dX3_goOn_0 : decode cX3_goOn 0 = .ok (.iconst 1, 1) := by decide +kernel
theorem dX3_goOn_1 : decode cX3_goOn 1 = .ok (.istore_n 1, 1) := by decide +kernel
theorem dX3_goOn_2 : decode cX3_goOn 2 = .ok (.aload_n 0, 1) := by decide +kernel
theorem dX3_goOn_3 : decode cX3_goOn 3 = .ok (.getfield 22, 3) := by decide +kernel
theorem dX3_goOn_6 : decode cX3_goOn 6 = .ok (.getfield 39, 3) := by decide +kernel
theorem dX3_goOn_9 : decode cX3_goOn 9 = .ok (.iconst 1, 1) := by decide +kernel
theorem dX3_goOn_10 : decode cX3_goOn 10 = .ok (.isub, 1) := by decide +kernel
theorem dX3_goOn_11 : decode cX3_goOn 11 = .ok (.istore_n 2, 1) := by decide +kernel
theorem dX3_goOn_12 : decode cX3_goOn 12 = .ok (.iload_n 1, 1) := by decide +kernel
theorem dX3_goOn_13 : decode cX3_goOn 13 = .ok (.ifCond .eq 86, 3) := by decide +kernel
theorem dX3_goOn_16 : decode cX3_goOn 16 = .ok (.iload_n 2, 1) := by decide +kernel
theorem dX3_goOn_17 : decode cX3_goOn 17 = .ok (.ifCond .le 82, 3) := by decide +kernel
theorem dX3_goOn_20 : decode cX3_goOn 20 = .ok (.aload_n 0, 1) := by decide +kernel
theorem dX3_goOn_21 : decode cX3_goOn 21 = .ok (.getfield 28, 3) := by decide +kernel
theorem dX3_goOn_24 : decode cX3_goOn 24 = .ok (.iload_n 2, 1) := by decide +kernel
theorem dX3_goOn_25 : decode cX3_goOn 25 = .ok (.invokevirtual 69, 3) := by decide +kernel
theorem dX3_goOn_28 : decode cX3_goOn 28 = .ok (.iconst 1, 1) := by decide +kernel
theorem dX3_goOn_29 : decode cX3_goOn 29 = .ok (.iadd, 1) := by decide +kernel
theorem dX3_goOn_30 : decode cX3_goOn 30 = .ok (.istore_n 3, 1) := by decide +kernel
theorem dX3_goOn_31 : decode cX3_goOn 31 = .ok (.iload_n 3, 1) := by decide +kernel
theorem dX3_goOn_32 : decode cX3_goOn 32 = .ok (.aload_n 0, 1) := by decide +kernel
theorem dX3_goOn_33 : decode cX3_goOn 33 = .ok (.getfield 22, 3) := by decide +kernel
theorem dX3_goOn_36 : decode cX3_goOn 36 = .ok (.getfield 73, 3) := by decide +kernel
theorem dX3_goOn_39 : decode cX3_goOn 39 = .ok (.if_icmp .lt 7, 3) := by decide +kernel
theorem dX3_goOn_42 : decode cX3_goOn 42 = .ok (.iconst 1, 1) := by decide +kernel
theorem dX3_goOn_43 : decode cX3_goOn 43 = .ok (.goto 4, 3) := by decide +kernel
theorem dX3_goOn_46 : decode cX3_goOn 46 = .ok (.iconst 0, 1) := by decide +kernel
theorem dX3_goOn_47 : decode cX3_goOn 47 = .ok (.istore_n 1, 1) := by decide +kernel
theorem dX3_goOn_48 : decode cX3_goOn 48 = .ok (.aload_n 0, 1) := by decide +kernel
theorem dX3_goOn_49 : decode cX3_goOn 49 = .ok (.getfield 28, 3) := by decide +kernel
theorem dX3_goOn_52 : decode cX3_goOn 52 = .ok (.iload_n 2, 1) := by decide +kernel
theorem dX3_goOn_53 : decode cX3_goOn 53 = .ok (.iload_n 1, 1) := by decide +kernel
theorem dX3_goOn_54 : decode cX3_goOn 54 = .ok (.ifCond .eq 7, 3) := by decide +kernel
theorem dX3_goOn_57 : decode cX3_goOn 57 = .ok (.iconst 0, 1) := by decide +kernel
theorem dX3_goOn_58 : decode cX3_goOn 58 = .ok (.goto 4, 3) := by decide +kernel
theorem dX3_goOn_61 : decode cX3_goOn 61 = .ok (.iload_n 3, 1) := by decide +kernel
theorem dX3_goOn_62 : decode cX3_goOn 62 = .ok (.invokevirtual 44, 3) := by decide +kernel
theorem dX3_goOn_65 : decode cX3_goOn 65 = .ok (.aload_n 0, 1) := by decide +kernel
theorem dX3_goOn_66 : decode cX3_goOn 66 = .ok (.getfield 22, 3) := by decide +kernel
theorem dX3_goOn_69 : decode cX3_goOn 69 = .ok (.iload_n 2, 1) := by decide +kernel
theorem dX3_goOn_70 : decode cX3_goOn 70 = .ok (.aload_n 0, 1) := by decide +kernel
theorem dX3_goOn_71 : decode cX3_goOn 71 = .ok (.getfield 35, 3) := by decide +kernel
theorem dX3_goOn_74 : decode cX3_goOn 74 = .ok (.aload_n 0, 1) := by decide +kernel
theorem dX3_goOn_75 : decode cX3_goOn 75 = .ok (.getfield 28, 3) := by decide +kernel
theorem dX3_goOn_78 : decode cX3_goOn 78 = .ok (.iload_n 2, 1) := by decide +kernel
theorem dX3_goOn_79 : decode cX3_goOn 79 = .ok (.invokevirtual 69, 3) := by decide +kernel
theorem dX3_goOn_82 : decode cX3_goOn 82 = .ok (.invokevirtual 76, 3) := by decide +kernel
theorem dX3_goOn_85 : decode cX3_goOn 85 = .ok (.aload_n 0, 1) := by decide +kernel
theorem dX3_goOn_86 : decode cX3_goOn 86 = .ok (.getfield 12, 3) := by decide +kernel
theorem dX3_goOn_89 : decode cX3_goOn 89 = .ok (.iload_n 2, 1) := by decide +kernel
theorem dX3_goOn_90 : decode cX3_goOn 90 = .ok (.invokevirtual 79, 3) := by decide +kernel
theorem dX3_goOn_93 : decode cX3_goOn 93 = .ok (.iinc 2 (-1), 3) := by decide +kernel
theorem dX3_goOn_96 : decode cX3_goOn 96 = .ok (.goto (-84), 3) := by decide +kernel
theorem dX3_goOn_99 : decode cX3_goOn 99 = .ok (.return_, 1) := by decide +kernel
theorem dX3_packedOffsets_0 : decode cX3_packedOffsets 0 = .ok (.iconst 0, 1) := by decide +kernel
theorem dX3_packedOffsets_1 : decode cX3_packedOffsets 1 = .ok (.istore_n 1, 1) := by decide +kernel
theorem dX3_packedOffsets_2 : decode cX3_packedOffsets 2 = .ok (.iconst 1, 1) := by decide +kernel
theorem dX3_packedOffsets_3 : decode cX3_packedOffsets 3 = .ok (.istore_n 2, 1) := by decide +kernel
theorem dX3_packedOffsets_4 : decode cX3_packedOffsets 4 = .ok (.iload_n 2, 1) := by decide +kernel
theorem dX3_packedOffsets_5 : decode cX3_packedOffsets 5 = .ok (.aload_n 0, 1) := by decide +kernel
theorem dX3_packedOffsets_6 : decode cX3_packedOffsets 6 = .ok (.getfield 22, 3) := by decide +kernel
theorem dX3_packedOffsets_9 : decode cX3_packedOffsets 9 = .ok (.getfield 39, 3) := by decide +kernel
theorem dX3_packedOffsets_12 : decode cX3_packedOffsets 12 = .ok (.if_icmp .ge 24, 3) := by decide +kernel
theorem dX3_packedOffsets_15 : decode cX3_packedOffsets 15 = .ok (.iload_n 1, 1) := by decide +kernel
theorem dX3_packedOffsets_16 : decode cX3_packedOffsets 16 = .ok (.aload_n 0, 1) := by decide +kernel
theorem dX3_packedOffsets_17 : decode cX3_packedOffsets 17 = .ok (.getfield 28, 3) := by decide +kernel
theorem dX3_packedOffsets_20 : decode cX3_packedOffsets 20 = .ok (.iload_n 2, 1) := by decide +kernel
theorem dX3_packedOffsets_21 : decode cX3_packedOffsets 21 = .ok (.invokevirtual 69, 3) := by decide +kernel
theorem dX3_packedOffsets_24 : decode cX3_packedOffsets 24 = .ok (.iconst 4, 1) := by decide +kernel
theorem dX3_packedOffsets_25 : decode cX3_packedOffsets 25 = .ok (.iload_n 2, 1) := by decide +kernel
theorem dX3_packedOffsets_26 : decode cX3_packedOffsets 26 = .ok (.imul, 1) := by decide +kernel
theorem dX3_packedOffsets_27 : decode cX3_packedOffsets 27 = .ok (.ishl, 1) := by decide +kernel
theorem dX3_packedOffsets_28 : decode cX3_packedOffsets 28 = .ok (.ior, 1) := by decide +kernel
theorem dX3_packedOffsets_29 : decode cX3_packedOffsets 29 = .ok (.istore_n 1, 1) := by decide +kernel
theorem dX3_packedOffsets_30 : decode cX3_packedOffsets 30 = .ok (.iinc 2 1, 3) := by decide +kernel
theorem dX3_packedOffsets_33 : decode cX3_packedOffsets 33 = .ok (.goto (-29), 3) := by decide +kernel
theorem dX3_packedOffsets_36 : decode cX3_packedOffsets 36 = .ok (.iload_n 1, 1) := by decide +kernel
theorem dX3_packedOffsets_37 : decode cX3_packedOffsets 37 = .ok (.ireturn, 1) := by decide +kernel
theorem dX3_countUnlike_0 : decode cX3_countUnlike 0 = .ok (.aload_n 0, 1) := by decide +kernel
theorem dX3_countUnlike_1 : decode cX3_countUnlike 1 = .ok (.iload_n 1, 1) := by decide +kernel
theorem dX3_countUnlike_2 : decode cX3_countUnlike 2 = .ok (.iload_n 2, 1) := by decide +kernel
theorem dX3_countUnlike_3 : decode cX3_countUnlike 3 = .ok (.invokevirtual 82, 3) := by decide +kernel
theorem dX3_countUnlike_6 : decode cX3_countUnlike 6 = .ok (.istore_n 3, 1) := by decide +kernel
theorem dX3_countUnlike_7 : decode cX3_countUnlike 7 = .ok (.iconst 0, 1) := by decide +kernel
theorem dX3_countUnlike_8 : decode cX3_countUnlike 8 = .ok (.istore 4, 2) := by decide +kernel
theorem dX3_countUnlike_10 : decode cX3_countUnlike 10 = .ok (.iconst 0, 1) := by decide +kernel
theorem dX3_countUnlike_11 : decode cX3_countUnlike 11 = .ok (.istore 5, 2) := by decide +kernel
theorem dX3_countUnlike_13 : decode cX3_countUnlike 13 = .ok (.iload 5, 2) := by decide +kernel
theorem dX3_countUnlike_15 : decode cX3_countUnlike 15 = .ok (.iload_n 3, 1) := by decide +kernel
theorem dX3_countUnlike_16 : decode cX3_countUnlike 16 = .ok (.if_icmp .ge 47, 3) := by decide +kernel
theorem dX3_countUnlike_19 : decode cX3_countUnlike 19 = .ok (.aload_n 0, 1) := by decide +kernel
theorem dX3_countUnlike_20 : decode cX3_countUnlike 20 = .ok (.getfield 12, 3) := by decide +kernel
theorem dX3_countUnlike_23 : decode cX3_countUnlike 23 = .ok (.invokevirtual 85, 3) := by decide +kernel
theorem dX3_countUnlike_26 : decode cX3_countUnlike 26 = .ok (.istore 6, 2) := by decide +kernel
theorem dX3_countUnlike_28 : decode cX3_countUnlike 28 = .ok (.aload_n 0, 1) := by decide +kernel
theorem dX3_countUnlike_29 : decode cX3_countUnlike 29 = .ok (.iload 5, 2) := by decide +kernel
theorem dX3_countUnlike_31 : decode cX3_countUnlike 31 = .ok (.iload 6, 2) := by decide +kernel
theorem dX3_countUnlike_33 : decode cX3_countUnlike 33 = .ok (.invokevirtual 89, 3) := by decide +kernel
theorem dX3_countUnlike_36 : decode cX3_countUnlike 36 = .ok (.iload 6, 2) := by decide +kernel
theorem dX3_countUnlike_38 : decode cX3_countUnlike 38 = .ok (.ifCond .eq 15, 3) := by decide +kernel
theorem dX3_countUnlike_41 : decode cX3_countUnlike 41 = .ok (.aload_n 0, 1) := by decide +kernel
theorem dX3_countUnlike_42 : decode cX3_countUnlike 42 = .ok (.iload 5, 2) := by decide +kernel
theorem dX3_countUnlike_44 : decode cX3_countUnlike 44 = .ok (.invokevirtual 93, 3) := by decide +kernel
theorem dX3_countUnlike_47 : decode cX3_countUnlike 47 = .ok (.ifCond .ne 6, 3) := by decide +kernel
theorem dX3_countUnlike_50 : decode cX3_countUnlike 50 = .ok (.iinc 4 1, 3) := by decide +kernel
theorem dX3_countUnlike_53 : decode cX3_countUnlike 53 = .ok (.aload_n 0, 1) := by decide +kernel
theorem dX3_countUnlike_54 : decode cX3_countUnlike 54 = .ok (.invokevirtual 97, 3) := by decide +kernel
theorem dX3_countUnlike_57 : decode cX3_countUnlike 57 = .ok (.iinc 5 1, 3) := by decide +kernel
theorem dX3_countUnlike_60 : decode cX3_countUnlike 60 = .ok (.goto (-47), 3) := by decide +kernel
theorem dX3_countUnlike_63 : decode cX3_countUnlike 63 = .ok (.iload 4, 2) := by decide +kernel
theorem dX3_countUnlike_65 : decode cX3_countUnlike 65 = .ok (.ireturn, 1) := by decide +kernel
theorem dX3_mark_0 : decode cX3_mark 0 = .ok (.iconst 1, 1) := by decide +kernel
theorem dX3_mark_1 : decode cX3_mark 1 = .ok (.iload_n 1, 1) := by decide +kernel
theorem dX3_mark_2 : decode cX3_mark 2 = .ok (.bipush 31, 2) := by decide +kernel
theorem dX3_mark_4 : decode cX3_mark 4 = .ok (.iand, 1) := by decide +kernel
theorem dX3_mark_5 : decode cX3_mark 5 = .ok (.ishl, 1) := by decide +kernel
theorem dX3_mark_6 : decode cX3_mark 6 = .ok (.istore_n 3, 1) := by decide +kernel
theorem dX3_mark_7 : decode cX3_mark 7 = .ok (.aload_n 0, 1) := by decide +kernel
theorem dX3_mark_8 : decode cX3_mark 8 = .ok (.getfield 32, 3) := by decide +kernel
theorem dX3_mark_11 : decode cX3_mark 11 = .ok (.iload_n 1, 1) := by decide +kernel
theorem dX3_mark_12 : decode cX3_mark 12 = .ok (.iconst 5, 1) := by decide +kernel
theorem dX3_mark_13 : decode cX3_mark 13 = .ok (.ishr, 1) := by decide +kernel
theorem dX3_mark_14 : decode cX3_mark 14 = .ok (.invokevirtual 69, 3) := by decide +kernel
theorem dX3_mark_17 : decode cX3_mark 17 = .ok (.iload_n 3, 1) := by decide +kernel
theorem dX3_mark_18 : decode cX3_mark 18 = .ok (.iconst (-1), 1) := by decide +kernel
theorem dX3_mark_19 : decode cX3_mark 19 = .ok (.ixor, 1) := by decide +kernel
theorem dX3_mark_20 : decode cX3_mark 20 = .ok (.iand, 1) := by decide +kernel
theorem dX3_mark_21 : decode cX3_mark 21 = .ok (.istore 4, 2) := by decide +kernel
theorem dX3_mark_23 : decode cX3_mark 23 = .ok (.aload_n 0, 1) := by decide +kernel
theorem dX3_mark_24 : decode cX3_mark 24 = .ok (.getfield 32, 3) := by decide +kernel
theorem dX3_mark_27 : decode cX3_mark 27 = .ok (.iload_n 1, 1) := by decide +kernel
theorem dX3_mark_28 : decode cX3_mark 28 = .ok (.iconst 5, 1) := by decide +kernel
theorem dX3_mark_29 : decode cX3_mark 29 = .ok (.ishr, 1) := by decide +kernel
theorem dX3_mark_30 : decode cX3_mark 30 = .ok (.iload_n 2, 1) := by decide +kernel
theorem dX3_mark_31 : decode cX3_mark 31 = .ok (.ifCond .eq 10, 3) := by decide +kernel
theorem dX3_mark_34 : decode cX3_mark 34 = .ok (.iload 4, 2) := by decide +kernel
theorem dX3_mark_36 : decode cX3_mark 36 = .ok (.iload_n 3, 1) := by decide +kernel
theorem dX3_mark_37 : decode cX3_mark 37 = .ok (.ior, 1) := by decide +kernel
theorem dX3_mark_38 : decode cX3_mark 38 = .ok (.goto 5, 3) := by decide +kernel
theorem dX3_mark_41 : decode cX3_mark 41 = .ok (.iload 4, 2) := by decide +kernel
theorem dX3_mark_43 : decode cX3_mark 43 = .ok (.invokevirtual 44, 3) := by decide +kernel
theorem dX3_mark_46 : decode cX3_mark 46 = .ok (.return_, 1) := by decide +kernel
theorem dX3_hasEarlierMirror_0 : decode cX3_hasEarlierMirror 0 = .ok (.aload_n 0, 1) := by decide +kernel
theorem dX3_hasEarlierMirror_1 : decode cX3_hasEarlierMirror 1 = .ok (.invokevirtual 100, 3) := by decide +kernel
theorem dX3_hasEarlierMirror_4 : decode cX3_hasEarlierMirror 4 = .ok (.istore_n 2, 1) := by decide +kernel
theorem dX3_hasEarlierMirror_5 : decode cX3_hasEarlierMirror 5 = .ok (.iload_n 2, 1) := by decide +kernel
theorem dX3_hasEarlierMirror_6 : decode cX3_hasEarlierMirror 6 = .ok (.iload_n 1, 1) := by decide +kernel
theorem dX3_hasEarlierMirror_7 : decode cX3_hasEarlierMirror 7 = .ok (.if_icmp .ge 28, 3) := by decide +kernel
theorem dX3_hasEarlierMirror_10 : decode cX3_hasEarlierMirror 10 = .ok (.aload_n 0, 1) := by decide +kernel
theorem dX3_hasEarlierMirror_11 : decode cX3_hasEarlierMirror 11 = .ok (.getfield 32, 3) := by decide +kernel
theorem dX3_hasEarlierMirror_14 : decode cX3_hasEarlierMirror 14 = .ok (.iload_n 2, 1) := by decide +kernel
theorem dX3_hasEarlierMirror_15 : decode cX3_hasEarlierMirror 15 = .ok (.iconst 5, 1) := by decide +kernel
theorem dX3_hasEarlierMirror_16 : decode cX3_hasEarlierMirror 16 = .ok (.ishr, 1) := by decide +kernel
theorem dX3_hasEarlierMirror_17 : decode cX3_hasEarlierMirror 17 = .ok (.invokevirtual 69, 3) := by decide +kernel
theorem dX3_hasEarlierMirror_20 : decode cX3_hasEarlierMirror 20 = .ok (.iload_n 2, 1) := by decide +kernel
theorem dX3_hasEarlierMirror_21 : decode cX3_hasEarlierMirror 21 = .ok (.bipush 31, 2) := by decide +kernel
theorem dX3_hasEarlierMirror_23 : decode cX3_hasEarlierMirror 23 = .ok (.iand, 1) := by decide +kernel
theorem dX3_hasEarlierMirror_24 : decode cX3_hasEarlierMirror 24 = .ok (.iushr, 1) := by decide +kernel
theorem dX3_hasEarlierMirror_25 : decode cX3_hasEarlierMirror 25 = .ok (.iconst 1, 1) := by decide +kernel
theorem dX3_hasEarlierMirror_26 : decode cX3_hasEarlierMirror 26 = .ok (.iand, 1) := by decide +kernel
theorem dX3_hasEarlierMirror_27 : decode cX3_hasEarlierMirror 27 = .ok (.iconst 1, 1) := by decide +kernel
theorem dX3_hasEarlierMirror_28 : decode cX3_hasEarlierMirror 28 = .ok (.if_icmp .ne 7, 3) := by decide +kernel
theorem dX3_hasEarlierMirror_31 : decode cX3_hasEarlierMirror 31 = .ok (.iconst 1, 1) := by decide +kernel
theorem dX3_hasEarlierMirror_32 : decode cX3_hasEarlierMirror 32 = .ok (.goto 4, 3) := by decide +kernel
theorem dX3_hasEarlierMirror_35 : decode cX3_hasEarlierMirror 35 = .ok (.iconst 0, 1) := by decide +kernel
theorem dX3_hasEarlierMirror_36 : decode cX3_hasEarlierMirror 36 = .ok (.ireturn, 1) := by decide +kernel
theorem dX3_mirrorIndex_0 : decode cX3_mirrorIndex 0 = .ok (.aload_n 0, 1) := by decide +kernel
theorem dX3_mirrorIndex_1 : decode cX3_mirrorIndex 1 = .ok (.getfield 28, 3) := by decide +kernel
theorem dX3_mirrorIndex_4 : decode cX3_mirrorIndex 4 = .ok (.aload_n 0, 1) := by decide +kernel
theorem dX3_mirrorIndex_5 : decode cX3_mirrorIndex 5 = .ok (.getfield 22, 3) := by decide +kernel
theorem dX3_mirrorIndex_8 : decode cX3_mirrorIndex 8 = .ok (.iconst 0, 1) := by decide +kernel
theorem dX3_mirrorIndex_9 : decode cX3_mirrorIndex 9 = .ok (.invokevirtual 104, 3) := by decide +kernel
theorem dX3_mirrorIndex_12 : decode cX3_mirrorIndex 12 = .ok (.invokevirtual 69, 3) := by decide +kernel
theorem dX3_mirrorIndex_15 : decode cX3_mirrorIndex 15 = .ok (.istore_n 1, 1) := by decide +kernel
theorem dX3_mirrorIndex_16 : decode cX3_mirrorIndex 16 = .ok (.iconst 0, 1) := by decide +kernel
theorem dX3_mirrorIndex_17 : decode cX3_mirrorIndex 17 = .ok (.istore_n 2, 1) := by decide +kernel
theorem dX3_mirrorIndex_18 : decode cX3_mirrorIndex 18 = .ok (.iconst 1, 1) := by decide +kernel
theorem dX3_mirrorIndex_19 : decode cX3_mirrorIndex 19 = .ok (.istore_n 3, 1) := by decide +kernel
theorem dX3_mirrorIndex_20 : decode cX3_mirrorIndex 20 = .ok (.iload_n 3, 1) := by decide +kernel
theorem dX3_mirrorIndex_21 : decode cX3_mirrorIndex 21 = .ok (.aload_n 0, 1) := by decide +kernel
theorem dX3_mirrorIndex_22 : decode cX3_mirrorIndex 22 = .ok (.getfield 22, 3) := by decide +kernel
theorem dX3_mirrorIndex_25 : decode cX3_mirrorIndex 25 = .ok (.getfield 39, 3) := by decide +kernel
theorem dX3_mirrorIndex_28 : decode cX3_mirrorIndex 28 = .ok (.if_icmp .ge 59, 3) := by decide +kernel
theorem dX3_mirrorIndex_31 : decode cX3_mirrorIndex 31 = .ok (.aload_n 0, 1) := by decide +kernel
theorem dX3_mirrorIndex_32 : decode cX3_mirrorIndex 32 = .ok (.getfield 28, 3) := by decide +kernel
theorem dX3_mirrorIndex_35 : decode cX3_mirrorIndex 35 = .ok (.aload_n 0, 1) := by decide +kernel
theorem dX3_mirrorIndex_36 : decode cX3_mirrorIndex 36 = .ok (.getfield 22, 3) := by decide +kernel
theorem dX3_mirrorIndex_39 : decode cX3_mirrorIndex 39 = .ok (.iload_n 3, 1) := by decide +kernel
theorem dX3_mirrorIndex_40 : decode cX3_mirrorIndex 40 = .ok (.invokevirtual 104, 3) := by decide +kernel
theorem dX3_mirrorIndex_43 : decode cX3_mirrorIndex 43 = .ok (.invokevirtual 69, 3) := by decide +kernel
theorem dX3_mirrorIndex_46 : decode cX3_mirrorIndex 46 = .ok (.iload_n 1, 1) := by decide +kernel
theorem dX3_mirrorIndex_47 : decode cX3_mirrorIndex 47 = .ok (.isub, 1) := by decide +kernel
theorem dX3_mirrorIndex_48 : decode cX3_mirrorIndex 48 = .ok (.istore 4, 2) := by decide +kernel
theorem dX3_mirrorIndex_50 : decode cX3_mirrorIndex 50 = .ok (.iload_n 2, 1) := by decide +kernel
theorem dX3_mirrorIndex_51 : decode cX3_mirrorIndex 51 = .ok (.aload_n 0, 1) := by decide +kernel
theorem dX3_mirrorIndex_52 : decode cX3_mirrorIndex 52 = .ok (.getfield 22, 3) := by decide +kernel
theorem dX3_mirrorIndex_55 : decode cX3_mirrorIndex 55 = .ok (.getfield 73, 3) := by decide +kernel
theorem dX3_mirrorIndex_58 : decode cX3_mirrorIndex 58 = .ok (.imul, 1) := by decide +kernel
theorem dX3_mirrorIndex_59 : decode cX3_mirrorIndex 59 = .ok (.iload 4, 2) := by decide +kernel
theorem dX3_mirrorIndex_61 : decode cX3_mirrorIndex 61 = .ok (.ifCond .ge 16, 3) := by decide +kernel
theorem dX3_mirrorIndex_64 : decode cX3_mirrorIndex 64 = .ok (.iload 4, 2) := by decide +kernel
theorem dX3_mirrorIndex_66 : decode cX3_mirrorIndex 66 = .ok (.aload_n 0, 1) := by decide +kernel
theorem dX3_mirrorIndex_67 : decode cX3_mirrorIndex 67 = .ok (.getfield 22, 3) := by decide +kernel
theorem dX3_mirrorIndex_70 : decode cX3_mirrorIndex 70 = .ok (.getfield 73, 3) := by decide +kernel
theorem dX3_mirrorIndex_73 : decode cX3_mirrorIndex 73 = .ok (.iadd, 1) := by decide +kernel
theorem dX3_mirrorIndex_74 : decode cX3_mirrorIndex 74 = .ok (.goto 5, 3) := by decide +kernel
theorem dX3_mirrorIndex_77 : decode cX3_mirrorIndex 77 = .ok (.iload 4, 2) := by decide +kernel
theorem dX3_mirrorIndex_79 : decode cX3_mirrorIndex 79 = .ok (.iadd, 1) := by decide +kernel
theorem dX3_mirrorIndex_80 : decode cX3_mirrorIndex 80 = .ok (.istore_n 2, 1) := by decide +kernel
theorem dX3_mirrorIndex_81 : decode cX3_mirrorIndex 81 = .ok (.iinc 3 1, 3) := by decide +kernel
theorem dX3_mirrorIndex_84 : decode cX3_mirrorIndex 84 = .ok (.goto (-64), 3) := by decide +kernel
theorem dX3_mirrorIndex_87 : decode cX3_mirrorIndex 87 = .ok (.iload_n 2, 1) := by decide +kernel
theorem dX3_mirrorIndex_88 : decode cX3_mirrorIndex 88 = .ok (.ireturn, 1) := by decide +kernel
theorem dX4_init_0 : decode cX4_init 0 = .ok (.aload_n 0, 1) := by decide +kernel
theorem dX4_init_1 : decode cX4_init 1 = .ok (.invokespecial 3, 3) := by decide +kernel
theorem dX4_init_4 : decode cX4_init 4 = .ok (.aload_n 0, 1) := by decide +kernel
theorem dX4_init_5 : decode cX4_init 5 = .ok (.new 9, 3) := by decide +kernel
theorem dX4_init_8 : decode cX4_init 8 = .ok (.dup, 1) := by decide +kernel
theorem dX4_init_9 : decode cX4_init 9 = .ok (.bipush 8, 2) := by decide +kernel
theorem dX4_init_11 : decode cX4_init 11 = .ok (.invokespecial 11, 3) := by decide +kernel
theorem dX4_init_14 : decode cX4_init 14 = .ok (.putfield 14, 3) := by decide +kernel
theorem dX4_init_17 : decode cX4_init 17 = .ok (.aload_n 0, 1) := by decide +kernel
theorem dX4_init_18 : decode cX4_init 18 = .ok (.new 9, 3) := by decide +kernel
theorem dX4_init_21 : decode cX4_init 21 = .ok (.dup, 1) := by decide +kernel
theorem dX4_init_22 : decode cX4_init 22 = .ok (.bipush 8, 2) := by decide +kernel
theorem dX4_init_24 : decode cX4_init 24 = .ok (.invokespecial 11, 3) := by decide +kernel
theorem dX4_init_27 : decode cX4_init 27 = .ok (.putfield 20, 3) := by decide +kernel
theorem dX4_init_30 : decode cX4_init 30 = .ok (.aload_n 0, 1) := by decide +kernel
theorem dX4_init_31 : decode cX4_init 31 = .ok (.new 9, 3) := by decide +kernel
theorem dX4_init_34 : decode cX4_init 34 = .ok (.dup, 1) := by decide +kernel
theorem dX4_init_35 : decode cX4_init 35 = .ok (.bipush 8, 2) := by decide +kernel
theorem dX4_init_37 : decode cX4_init 37 = .ok (.invokespecial 11, 3) := by decide +kernel
theorem dX4_init_40 : decode cX4_init 40 = .ok (.putfield 23, 3) := by decide +kernel
theorem dX4_init_43 : decode cX4_init 43 = .ok (.aload_n 0, 1) := by decide +kernel
theorem dX4_init_44 : decode cX4_init 44 = .ok (.new 9, 3) := by decide +kernel
theorem dX4_init_47 : decode cX4_init 47 = .ok (.dup, 1) := by decide +kernel
theorem dX4_init_48 : decode cX4_init 48 = .ok (.bipush 8, 2) := by decide +kernel
theorem dX4_init_50 : decode cX4_init 50 = .ok (.invokespecial 11, 3) := by decide +kernel
theorem dX4_init_53 : decode cX4_init 53 = .ok (.putfield 26, 3) := by decide +kernel
theorem dX4_init_56 : decode cX4_init 56 = .ok (.aload_n 0, 1) := by decide +kernel
theorem dX4_init_57 : decode cX4_init 57 = .ok (.new 29, 3) := by decide +kernel
theorem dX4_init_60 : decode cX4_init 60 = .ok (.dup, 1) := by decide +kernel
theorem dX4_init_61 : decode cX4_init 61 = .ok (.invokespecial 31, 3) := by decide +kernel
theorem dX4_init_64 : decode cX4_init 64 = .ok (.putfield 32, 3) := by decide +kernel
theorem dX4_init_67 : decode cX4_init 67 = .ok (.aload_n 0, 1) := by decide +kernel
theorem dX4_init_68 : decode cX4_init 68 = .ok (.new 29, 3) := by decide +kernel
theorem dX4_init_71 : decode cX4_init 71 = .ok (.dup, 1) := by decide +kernel
theorem dX4_init_72 : decode cX4_init 72 = .ok (.invokespecial 31, 3) := by decide +kernel
theorem dX4_init_75 : decode cX4_init 75 = .ok (.putfield 36, 3) := by decide +kernel
theorem dX4_init_78 : decode cX4_init 78 = .ok (.aload_n 0, 1) := by decide +kernel
theorem dX4_init_79 : decode cX4_init 79 = .ok (.new 29, 3) := by decide +kernel
theorem dX4_init_82 : decode cX4_init 82 = .ok (.dup, 1) := by decide +kernel
theorem dX4_init_83 : decode cX4_init 83 = .ok (.invokespecial 31, 3) := by decide +kernel
theorem dX4_init_86 : decode cX4_init 86 = .ok (.putfield 39, 3) := by decide +kernel
theorem dX4_init_89 : decode cX4_init 89 = .ok (.return_, 1) := by decide +kernel
theorem dX4_empty_0 : decode cX4_empty 0 = .ok (.aload_n 0, 1) := by decide +kernel
theorem dX4_empty_1 : decode cX4_empty 1 = .ok (.iconst 0, 1) := by decide +kernel
theorem dX4_empty_2 : decode cX4_empty 2 = .ok (.putfield 42, 3) := by decide +kernel
theorem dX4_empty_5 : decode cX4_empty 5 = .ok (.aload_n 0, 1) := by decide +kernel
theorem dX4_empty_6 : decode cX4_empty 6 = .ok (.iconst 0, 1) := by decide +kernel
theorem dX4_empty_7 : decode cX4_empty 7 = .ok (.putfield 46, 3) := by decide +kernel
theorem dX4_empty_10 : decode cX4_empty 10 = .ok (.aload_n 0, 1) := by decide +kernel
theorem dX4_empty_11 : decode cX4_empty 11 = .ok (.getfield 32, 3) := by decide +kernel
theorem dX4_empty_14 : decode cX4_empty 14 = .ok (.invokevirtual 49, 3) := by decide +kernel
theorem dX4_empty_17 : decode cX4_empty 17 = .ok (.aload_n 0, 1) := by decide +kernel
theorem dX4_empty_18 : decode cX4_empty 18 = .ok (.getfield 36, 3) := by decide +kernel
theorem dX4_empty_21 : decode cX4_empty 21 = .ok (.invokevirtual 49, 3) := by decide +kernel
theorem dX4_empty_24 : decode cX4_empty 24 = .ok (.return_, 1) := by decide +kernel
theorem dX4_add_0 : decode cX4_add 0 = .ok (.iload_n 1, 1) := by decide +kernel
theorem dX4_add_1 : decode cX4_add 1 = .ok (.ifCond .ge 40, 3) := by decide +kernel
theorem dX4_add_4 : decode cX4_add 4 = .ok (.aload_n 0, 1) := by decide +kernel
theorem dX4_add_5 : decode cX4_add 5 = .ok (.getfield 14, 3) := by decide +kernel
theorem dX4_add_8 : decode cX4_add 8 = .ok (.aload_n 0, 1) := by decide +kernel
theorem dX4_add_9 : decode cX4_add 9 = .ok (.getfield 42, 3) := by decide +kernel
theorem dX4_add_12 : decode cX4_add 12 = .ok (.iload_n 1, 1) := by decide +kernel
theorem dX4_add_13 : decode cX4_add 13 = .ok (.invokevirtual 52, 3) := by decide +kernel
theorem dX4_add_16 : decode cX4_add 16 = .ok (.aload_n 0, 1) := by decide +kernel
theorem dX4_add_17 : decode cX4_add 17 = .ok (.getfield 20, 3) := by decide +kernel
theorem dX4_add_20 : decode cX4_add 20 = .ok (.aload_n 0, 1) := by decide +kernel
theorem dX4_add_21 : decode cX4_add 21 = .ok (.getfield 42, 3) := by decide +kernel
theorem dX4_add_24 : decode cX4_add 24 = .ok (.iload_n 2, 1) := by decide +kernel
theorem dX4_add_25 : decode cX4_add 25 = .ok (.invokevirtual 52, 3) := by decide +kernel
theorem dX4_add_28 : decode cX4_add 28 = .ok (.aload_n 0, 1) := by decide +kernel
theorem dX4_add_29 : decode cX4_add 29 = .ok (.dup, 1) := by decide +kernel
theorem dX4_add_30 : decode cX4_add 30 = .ok (.getfield 42, 3) := by decide +kernel
theorem dX4_add_33 : decode cX4_add 33 = .ok (.iconst 1, 1) := by decide +kernel
theorem dX4_add_34 : decode cX4_add 34 = .ok (.iadd, 1) := by decide +kernel
theorem dX4_add_35 : decode cX4_add 35 = .ok (.putfield 42, 3) := by decide +kernel
theorem dX4_add_38 : decode cX4_add 38 = .ok (.goto 64, 3) := by decide +kernel
theorem dX4_add_41 : decode cX4_add 41 = .ok (.iload_n 1, 1) := by decide +kernel
theorem dX4_add_42 : decode cX4_add 42 = .ok (.ifCond .le 40, 3) := by decide +kernel
theorem dX4_add_45 : decode cX4_add 45 = .ok (.aload_n 0, 1) := by decide +kernel
theorem dX4_add_46 : decode cX4_add 46 = .ok (.getfield 23, 3) := by decide +kernel
theorem dX4_add_49 : decode cX4_add 49 = .ok (.aload_n 0, 1) := by decide +kernel
theorem dX4_add_50 : decode cX4_add 50 = .ok (.getfield 46, 3) := by decide +kernel
theorem dX4_add_53 : decode cX4_add 53 = .ok (.iload_n 1, 1) := by decide +kernel
theorem dX4_add_54 : decode cX4_add 54 = .ok (.invokevirtual 52, 3) := by decide +kernel
theorem dX4_add_57 : decode cX4_add 57 = .ok (.aload_n 0, 1) := by decide +kernel
theorem dX4_add_58 : decode cX4_add 58 = .ok (.getfield 26, 3) := by decide +kernel
theorem dX4_add_61 : decode cX4_add 61 = .ok (.aload_n 0, 1) := by decide +kernel
theorem dX4_add_62 : decode cX4_add 62 = .ok (.getfield 46, 3) := by decide +kernel
theorem dX4_add_65 : decode cX4_add 65 = .ok (.iload_n 2, 1) := by decide +kernel
theorem dX4_add_66 : decode cX4_add 66 = .ok (.invokevirtual 52, 3) := by decide +kernel
theorem dX4_add_69 : decode cX4_add 69 = .ok (.aload_n 0, 1) := by decide +kernel
theorem dX4_add_70 : decode cX4_add 70 = .ok (.dup, 1) := by decide +kernel
theorem dX4_add_71 : decode cX4_add 71 = .ok (.getfield 46, 3) := by decide +kernel
theorem dX4_add_74 : decode cX4_add 74 = .ok (.iconst 1, 1) := by decide +kernel
theorem dX4_add_75 : decode cX4_add 75 = .ok (.iadd, 1) := by decide +kernel
theorem dX4_add_76 : decode cX4_add 76 = .ok (.putfield 46, 3) := by decide +kernel
theorem dX4_add_79 : decode cX4_add 79 = .ok (.goto 23, 3) := by decide +kernel
theorem dX4_add_82 : decode cX4_add 82 = .ok (.aload_n 0, 1) := by decide +kernel
theorem dX4_add_83 : decode cX4_add 83 = .ok (.getfield 32, 3) := by decide +kernel
theorem dX4_add_86 : decode cX4_add 86 = .ok (.iload_n 2, 1) := by decide +kernel
theorem dX4_add_87 : decode cX4_add 87 = .ok (.i2l, 1) := by decide +kernel
theorem dX4_add_88 : decode cX4_add 88 = .ok (.lconst 1, 1) := by decide +kernel
theorem dX4_add_89 : decode cX4_add 89 = .ok (.invokevirtual 56, 3) := by decide +kernel
theorem dX4_add_92 : decode cX4_add 92 = .ok (.aload_n 0, 1) := by decide +kernel
theorem dX4_add_93 : decode cX4_add 93 = .ok (.getfield 36, 3) := by decide +kernel
theorem dX4_add_96 : decode cX4_add 96 = .ok (.iload_n 2, 1) := by decide +kernel
theorem dX4_add_97 : decode cX4_add 97 = .ok (.i2l, 1) := by decide +kernel
theorem dX4_add_98 : decode cX4_add 98 = .ok (.lconst 1, 1) := by decide +kernel
theorem dX4_add_99 : decode cX4_add 99 = .ok (.invokevirtual 60, 3) := by decide +kernel
theorem dX4_add_102 : decode cX4_add 102 = .ok (.return_, 1) := by decide +kernel
theorem dX4_holdsMiddle_0 : decode cX4_holdsMiddle 0 = .ok (.aload_n 0, 1) := by decide +kernel
theorem dX4_holdsMiddle_1 : decode cX4_holdsMiddle 1 = .ok (.getfield 32, 3) := by decide +kernel
theorem dX4_holdsMiddle_4 : decode cX4_holdsMiddle 4 = .ok (.invokevirtual 63, 3) := by decide +kernel
theorem dX4_holdsMiddle_7 : decode cX4_holdsMiddle 7 = .ok (.ifCond .ne 19, 3) := by decide +kernel
theorem dX4_holdsMiddle_10 : decode cX4_holdsMiddle 10 = .ok (.aload_n 0, 1) := by decide +kernel
theorem dX4_holdsMiddle_11 : decode cX4_holdsMiddle 11 = .ok (.getfield 32, 3) := by decide +kernel
theorem dX4_holdsMiddle_14 : decode cX4_holdsMiddle 14 = .ok (.getfield 67, 3) := by decide +kernel
theorem dX4_holdsMiddle_17 : decode cX4_holdsMiddle 17 = .ok (.lconst 0, 1) := by decide +kernel
theorem dX4_holdsMiddle_18 : decode cX4_holdsMiddle 18 = .ok (.lcmp, 1) := by decide +kernel
theorem dX4_holdsMiddle_19 : decode cX4_holdsMiddle 19 = .ok (.ifCond .gt 7, 3) := by decide +kernel
theorem dX4_holdsMiddle_22 : decode cX4_holdsMiddle 22 = .ok (.iconst 1, 1) := by decide +kernel
theorem dX4_holdsMiddle_23 : decode cX4_holdsMiddle 23 = .ok (.goto 4, 3) := by decide +kernel
theorem dX4_holdsMiddle_26 : decode cX4_holdsMiddle 26 = .ok (.iconst 0, 1) := by decide +kernel
theorem dX4_holdsMiddle_27 : decode cX4_holdsMiddle 27 = .ok (.istore_n 1, 1) := by decide +kernel
theorem dX4_holdsMiddle_28 : decode cX4_holdsMiddle 28 = .ok (.aload_n 0, 1) := by decide +kernel
theorem dX4_holdsMiddle_29 : decode cX4_holdsMiddle 29 = .ok (.getfield 36, 3) := by decide +kernel
theorem dX4_holdsMiddle_32 : decode cX4_holdsMiddle 32 = .ok (.invokevirtual 63, 3) := by decide +kernel
theorem dX4_holdsMiddle_35 : decode cX4_holdsMiddle 35 = .ok (.ifCond .ne 19, 3) := by decide +kernel
theorem dX4_holdsMiddle_38 : decode cX4_holdsMiddle 38 = .ok (.aload_n 0, 1) := by decide +kernel
theorem dX4_holdsMiddle_39 : decode cX4_holdsMiddle 39 = .ok (.getfield 36, 3) := by decide +kernel
theorem dX4_holdsMiddle_42 : decode cX4_holdsMiddle 42 = .ok (.getfield 67, 3) := by decide +kernel
theorem dX4_holdsMiddle_45 : decode cX4_holdsMiddle 45 = .ok (.lconst 0, 1) := by decide +kernel
theorem dX4_holdsMiddle_46 : decode cX4_holdsMiddle 46 = .ok (.lcmp, 1) := by decide +kernel
theorem dX4_holdsMiddle_47 : decode cX4_holdsMiddle 47 = .ok (.ifCond .lt 7, 3) := by decide +kernel
theorem dX4_holdsMiddle_50 : decode cX4_holdsMiddle 50 = .ok (.iconst 1, 1) := by decide +kernel
theorem dX4_holdsMiddle_51 : decode cX4_holdsMiddle 51 = .ok (.goto 4, 3) := by decide +kernel
theorem dX4_holdsMiddle_54 : decode cX4_holdsMiddle 54 = .ok (.iconst 0, 1) := by decide +kernel
theorem dX4_holdsMiddle_55 : decode cX4_holdsMiddle 55 = .ok (.istore_n 2, 1) := by decide +kernel
theorem dX4_holdsMiddle_56 : decode cX4_holdsMiddle 56 = .ok (.iconst 0, 1) := by decide +kernel
theorem dX4_holdsMiddle_57 : decode cX4_holdsMiddle 57 = .ok (.istore_n 3, 1) := by decide +kernel
theorem dX4_holdsMiddle_58 : decode cX4_holdsMiddle 58 = .ok (.iload_n 3, 1) := by decide +kernel
theorem dX4_holdsMiddle_59 : decode cX4_holdsMiddle 59 = .ok (.aload_n 0, 1) := by decide +kernel
theorem dX4_holdsMiddle_60 : decode cX4_holdsMiddle 60 = .ok (.getfield 42, 3) := by decide +kernel
theorem dX4_holdsMiddle_63 : decode cX4_holdsMiddle 63 = .ok (.if_icmp .ge 74, 3) := by decide +kernel
theorem dX4_holdsMiddle_66 : decode cX4_holdsMiddle 66 = .ok (.iload_n 1, 1) := by decide +kernel
theorem dX4_holdsMiddle_67 : decode cX4_holdsMiddle 67 = .ok (.ifCond .eq 7, 3) := by decide +kernel
theorem dX4_holdsMiddle_70 : decode cX4_holdsMiddle 70 = .ok (.iload_n 2, 1) := by decide +kernel
theorem dX4_holdsMiddle_71 : decode cX4_holdsMiddle 71 = .ok (.ifCond .ne 66, 3) := by decide +kernel
theorem dX4_holdsMiddle_74 : decode cX4_holdsMiddle 74 = .ok (.iconst 0, 1) := by decide +kernel
theorem dX4_holdsMiddle_75 : decode cX4_holdsMiddle 75 = .ok (.istore 4, 2) := by decide +kernel
theorem dX4_holdsMiddle_77 : decode cX4_holdsMiddle 77 = .ok (.iload 4, 2) := by decide +kernel
theorem dX4_holdsMiddle_79 : decode cX4_holdsMiddle 79 = .ok (.aload_n 0, 1) := by decide +kernel
theorem dX4_holdsMiddle_80 : decode cX4_holdsMiddle 80 = .ok (.getfield 46, 3) := by decide +kernel
theorem dX4_holdsMiddle_83 : decode cX4_holdsMiddle 83 = .ok (.if_icmp .ge 48, 3) := by decide +kernel
theorem dX4_holdsMiddle_86 : decode cX4_holdsMiddle 86 = .ok (.aload_n 0, 1) := by decide +kernel
theorem dX4_holdsMiddle_87 : decode cX4_holdsMiddle 87 = .ok (.iload_n 3, 1) := by decide +kernel
theorem dX4_holdsMiddle_88 : decode cX4_holdsMiddle 88 = .ok (.iload 4, 2) := by decide +kernel
theorem dX4_holdsMiddle_90 : decode cX4_holdsMiddle 90 = .ok (.invokevirtual 71, 3) := by decide +kernel
theorem dX4_holdsMiddle_93 : decode cX4_holdsMiddle 93 = .ok (.istore 5, 2) := by decide +kernel
theorem dX4_holdsMiddle_95 : decode cX4_holdsMiddle 95 = .ok (.iload_n 1, 1) := by decide +kernel
theorem dX4_holdsMiddle_96 : decode cX4_holdsMiddle 96 = .ok (.ifCond .ne 8, 3) := by decide +kernel
theorem dX4_holdsMiddle_99 : decode cX4_holdsMiddle 99 = .ok (.iload 5, 2) := by decide +kernel
theorem dX4_holdsMiddle_101 : decode cX4_holdsMiddle 101 = .ok (.ifCond .gt 7, 3) := by decide +kernel
theorem dX4_holdsMiddle_104 : decode cX4_holdsMiddle 104 = .ok (.iconst 1, 1) := by decide +kernel
theorem dX4_holdsMiddle_105 : decode cX4_holdsMiddle 105 = .ok (.goto 4, 3) := by decide +kernel
theorem dX4_holdsMiddle_108 : decode cX4_holdsMiddle 108 = .ok (.iconst 0, 1) := by decide +kernel
theorem dX4_holdsMiddle_109 : decode cX4_holdsMiddle 109 = .ok (.istore_n 1, 1) := by decide +kernel
theorem dX4_holdsMiddle_110 : decode cX4_holdsMiddle 110 = .ok (.iload_n 2, 1) := by decide +kernel
theorem dX4_holdsMiddle_111 : decode cX4_holdsMiddle 111 = .ok (.ifCond .ne 8, 3) := by decide +kernel
theorem dX4_holdsMiddle_114 : decode cX4_holdsMiddle 114 = .ok (.iload 5, 2) := by decide +kernel
theorem dX4_holdsMiddle_116 : decode cX4_holdsMiddle 116 = .ok (.ifCond .lt 7, 3) := by decide +kernel
theorem dX4_holdsMiddle_119 : decode cX4_holdsMiddle 119 = .ok (.iconst 1, 1) := by decide +kernel
theorem dX4_holdsMiddle_120 : decode cX4_holdsMiddle 120 = .ok (.goto 4, 3) := by decide +kernel
theorem dX4_holdsMiddle_123 : decode cX4_holdsMiddle 123 = .ok (.iconst 0, 1) := by decide +kernel
theorem dX4_holdsMiddle_124 : decode cX4_holdsMiddle 124 = .ok (.istore_n 2, 1) := by decide +kernel
theorem dX4_holdsMiddle_125 : decode cX4_holdsMiddle 125 = .ok (.iinc 4 1, 3) := by decide +kernel
theorem dX4_holdsMiddle_128 : decode cX4_holdsMiddle 128 = .ok (.goto (-51), 3) := by decide +kernel
theorem dX4_holdsMiddle_131 : decode cX4_holdsMiddle 131 = .ok (.iinc 3 1, 3) := by decide +kernel
theorem dX4_holdsMiddle_134 : decode cX4_holdsMiddle 134 = .ok (.goto (-76), 3) := by decide +kernel
theorem dX4_holdsMiddle_137 : decode cX4_holdsMiddle 137 = .ok (.iload_n 1, 1) := by decide +kernel
theorem dX4_holdsMiddle_138 : decode cX4_holdsMiddle 138 = .ok (.ifCond .eq 11, 3) := by decide +kernel
theorem dX4_holdsMiddle_141 : decode cX4_holdsMiddle 141 = .ok (.iload_n 2, 1) := by decide +kernel
theorem dX4_holdsMiddle_142 : decode cX4_holdsMiddle 142 = .ok (.ifCond .eq 7, 3) := by decide +kernel
theorem dX4_holdsMiddle_145 : decode cX4_holdsMiddle 145 = .ok (.iconst 1, 1) := by decide +kernel
theorem dX4_holdsMiddle_146 : decode cX4_holdsMiddle 146 = .ok (.goto 4, 3) := by decide +kernel
theorem dX4_holdsMiddle_149 : decode cX4_holdsMiddle 149 = .ok (.iconst 0, 1) := by decide +kernel
theorem dX4_holdsMiddle_150 : decode cX4_holdsMiddle 150 = .ok (.ireturn, 1) := by decide +kernel
theorem dX4_measure_0 : decode cX4_measure 0 = .ok (.iconst 0, 1) := by decide +kernel
theorem dX4_measure_1 : decode cX4_measure 1 = .ok (.istore_n 1, 1) := by decide +kernel
theorem dX4_measure_2 : decode cX4_measure 2 = .ok (.iload_n 1, 1) := by decide +kernel
theorem dX4_measure_3 : decode cX4_measure 3 = .ok (.aload_n 0, 1) := by decide +kernel
theorem dX4_measure_4 : decode cX4_measure 4 = .ok (.getfield 42, 3) := by decide +kernel
theorem dX4_measure_7 : decode cX4_measure 7 = .ok (.if_icmp .ge 75, 3) := by decide +kernel
theorem dX4_measure_10 : decode cX4_measure 10 = .ok (.iconst 0, 1) := by decide +kernel
theorem dX4_measure_11 : decode cX4_measure 11 = .ok (.istore_n 2, 1) := by decide +kernel
theorem dX4_measure_12 : decode cX4_measure 12 = .ok (.iload_n 2, 1) := by decide +kernel
theorem dX4_measure_13 : decode cX4_measure 13 = .ok (.aload_n 0, 1) := by decide +kernel
theorem dX4_measure_14 : decode cX4_measure 14 = .ok (.getfield 46, 3) := by decide +kernel
theorem dX4_measure_17 : decode cX4_measure 17 = .ok (.if_icmp .ge 59, 3) := by decide +kernel
theorem dX4_measure_20 : decode cX4_measure 20 = .ok (.aload_n 0, 1) := by decide +kernel
theorem dX4_measure_21 : decode cX4_measure 21 = .ok (.iload_n 1, 1) := by decide +kernel
theorem dX4_measure_22 : decode cX4_measure 22 = .ok (.iload_n 2, 1) := by decide +kernel
theorem dX4_measure_23 : decode cX4_measure 23 = .ok (.invokevirtual 71, 3) := by decide +kernel
theorem dX4_measure_26 : decode cX4_measure 26 = .ok (.istore_n 3, 1) := by decide +kernel
theorem dX4_measure_27 : decode cX4_measure 27 = .ok (.aload_n 0, 1) := by decide +kernel
theorem dX4_measure_28 : decode cX4_measure 28 = .ok (.getfield 23, 3) := by decide +kernel
theorem dX4_measure_31 : decode cX4_measure 31 = .ok (.iload_n 2, 1) := by decide +kernel
theorem dX4_measure_32 : decode cX4_measure 32 = .ok (.invokevirtual 75, 3) := by decide +kernel
theorem dX4_measure_35 : decode cX4_measure 35 = .ok (.aload_n 0, 1) := by decide +kernel
theorem dX4_measure_36 : decode cX4_measure 36 = .ok (.getfield 14, 3) := by decide +kernel
theorem dX4_measure_39 : decode cX4_measure 39 = .ok (.iload_n 1, 1) := by decide +kernel
theorem dX4_measure_40 : decode cX4_measure 40 = .ok (.invokevirtual 75, 3) := by decide +kernel
theorem dX4_measure_43 : decode cX4_measure 43 = .ok (.isub, 1) := by decide +kernel
theorem dX4_measure_44 : decode cX4_measure 44 = .ok (.istore 4, 2) := by decide +kernel
theorem dX4_measure_46 : decode cX4_measure 46 = .ok (.aload_n 0, 1) := by decide +kernel
theorem dX4_measure_47 : decode cX4_measure 47 = .ok (.getfield 32, 3) := by decide +kernel
theorem dX4_measure_50 : decode cX4_measure 50 = .ok (.iload_n 3, 1) := by decide +kernel
theorem dX4_measure_51 : decode cX4_measure 51 = .ok (.i2l, 1) := by decide +kernel
theorem dX4_measure_52 : decode cX4_measure 52 = .ok (.iload 4, 2) := by decide +kernel
theorem dX4_measure_54 : decode cX4_measure 54 = .ok (.i2l, 1) := by decide +kernel
theorem dX4_measure_55 : decode cX4_measure 55 = .ok (.invokevirtual 56, 3) := by decide +kernel
theorem dX4_measure_58 : decode cX4_measure 58 = .ok (.aload_n 0, 1) := by decide +kernel
theorem dX4_measure_59 : decode cX4_measure 59 = .ok (.getfield 36, 3) := by decide +kernel
theorem dX4_measure_62 : decode cX4_measure 62 = .ok (.iload_n 3, 1) := by decide +kernel
theorem dX4_measure_63 : decode cX4_measure 63 = .ok (.i2l, 1) := by decide +kernel
theorem dX4_measure_64 : decode cX4_measure 64 = .ok (.iload 4, 2) := by decide +kernel
theorem dX4_measure_66 : decode cX4_measure 66 = .ok (.i2l, 1) := by decide +kernel
theorem dX4_measure_67 : decode cX4_measure 67 = .ok (.invokevirtual 60, 3) := by decide +kernel
theorem dX4_measure_70 : decode cX4_measure 70 = .ok (.iinc 2 1, 3) := by decide +kernel
theorem dX4_measure_73 : decode cX4_measure 73 = .ok (.goto (-61), 3) := by decide +kernel
theorem dX4_measure_76 : decode cX4_measure 76 = .ok (.iinc 1 1, 3) := by decide +kernel
theorem dX4_measure_79 : decode cX4_measure 79 = .ok (.goto (-77), 3) := by decide +kernel
theorem dX4_measure_82 : decode cX4_measure 82 = .ok (.aload_n 0, 1) := by decide +kernel
theorem dX4_measure_83 : decode cX4_measure 83 = .ok (.getfield 39, 3) := by decide +kernel
theorem dX4_measure_86 : decode cX4_measure 86 = .ok (.invokevirtual 49, 3) := by decide +kernel
theorem dX4_measure_89 : decode cX4_measure 89 = .ok (.aload_n 0, 1) := by decide +kernel
theorem dX4_measure_90 : decode cX4_measure 90 = .ok (.getfield 32, 3) := by decide +kernel
theorem dX4_measure_93 : decode cX4_measure 93 = .ok (.invokevirtual 63, 3) := by decide +kernel
theorem dX4_measure_96 : decode cX4_measure 96 = .ok (.ifCond .ne 54, 3) := by decide +kernel
theorem dX4_measure_99 : decode cX4_measure 99 = .ok (.aload_n 0, 1) := by decide +kernel
theorem dX4_measure_100 : decode cX4_measure 100 = .ok (.getfield 39, 3) := by decide +kernel
theorem dX4_measure_103 : decode cX4_measure 103 = .ok (.aload_n 0, 1) := by decide +kernel
theorem dX4_measure_104 : decode cX4_measure 104 = .ok (.getfield 32, 3) := by decide +kernel
theorem dX4_measure_107 : decode cX4_measure 107 = .ok (.getfield 67, 3) := by decide +kernel
theorem dX4_measure_110 : decode cX4_measure 110 = .ok (.lneg, 1) := by decide +kernel
theorem dX4_measure_111 : decode cX4_measure 111 = .ok (.ldc2_w 79, 3) := by decide +kernel
theorem dX4_measure_114 : decode cX4_measure 114 = .ok (.aload_n 0, 1) := by decide +kernel
theorem dX4_measure_115 : decode cX4_measure 115 = .ok (.getfield 32, 3) := by decide +kernel
theorem dX4_measure_118 : decode cX4_measure 118 = .ok (.getfield 81, 3) := by decide +kernel
theorem dX4_measure_121 : decode cX4_measure 121 = .ok (.lmul, 1) := by decide +kernel
theorem dX4_measure_122 : decode cX4_measure 122 = .ok (.invokevirtual 56, 3) := by decide +kernel
theorem dX4_measure_125 : decode cX4_measure 125 = .ok (.aload_n 0, 1) := by decide +kernel
theorem dX4_measure_126 : decode cX4_measure 126 = .ok (.getfield 39, 3) := by decide +kernel
theorem dX4_measure_129 : decode cX4_measure 129 = .ok (.aload_n 0, 1) := by decide +kernel
theorem dX4_measure_130 : decode cX4_measure 130 = .ok (.getfield 36, 3) := by decide +kernel
theorem dX4_measure_133 : decode cX4_measure 133 = .ok (.getfield 67, 3) := by decide +kernel
theorem dX4_measure_136 : decode cX4_measure 136 = .ok (.ldc2_w 79, 3) := by decide +kernel
theorem dX4_measure_139 : decode cX4_measure 139 = .ok (.aload_n 0, 1) := by decide +kernel
theorem dX4_measure_140 : decode cX4_measure 140 = .ok (.getfield 36, 3) := by decide +kernel
theorem dX4_measure_143 : decode cX4_measure 143 = .ok (.getfield 81, 3) := by decide +kernel
theorem dX4_measure_146 : decode cX4_measure 146 = .ok (.lmul, 1) := by decide +kernel
theorem dX4_measure_147 : decode cX4_measure 147 = .ok (.invokevirtual 56, 3) := by decide +kernel
theorem dX4_measure_150 : decode cX4_measure 150 = .ok (.aload_n 0, 1) := by decide +kernel
theorem dX4_measure_151 : decode cX4_measure 151 = .ok (.getfield 39, 3) := by decide +kernel
theorem dX4_measure_154 : decode cX4_measure 154 = .ok (.areturn, 1) := by decide +kernel
theorem dX4_heightAbove_0 : decode cX4_heightAbove 0 = .ok (.aload_n 0, 1) := by decide +kernel
theorem dX4_heightAbove_1 : decode cX4_heightAbove 1 = .ok (.getfield 20, 3) := by decide +kernel
theorem dX4_heightAbove_4 : decode cX4_heightAbove 4 = .ok (.iload_n 1, 1) := by decide +kernel
theorem dX4_heightAbove_5 : decode cX4_heightAbove 5 = .ok (.invokevirtual 75, 3) := by decide +kernel
theorem dX4_heightAbove_8 : decode cX4_heightAbove 8 = .ok (.aload_n 0, 1) := by decide +kernel
theorem dX4_heightAbove_9 : decode cX4_heightAbove 9 = .ok (.getfield 23, 3) := by decide +kernel
theorem dX4_heightAbove_12 : decode cX4_heightAbove 12 = .ok (.iload_n 2, 1) := by decide +kernel
theorem dX4_heightAbove_13 : decode cX4_heightAbove 13 = .ok (.invokevirtual 75, 3) := by decide +kernel
theorem dX4_heightAbove_16 : decode cX4_heightAbove 16 = .ok (.imul, 1) := by decide +kernel
theorem dX4_heightAbove_17 : decode cX4_heightAbove 17 = .ok (.aload_n 0, 1) := by decide +kernel
theorem dX4_heightAbove_18 : decode cX4_heightAbove 18 = .ok (.getfield 26, 3) := by decide +kernel
theorem dX4_heightAbove_21 : decode cX4_heightAbove 21 = .ok (.iload_n 2, 1) := by decide +kernel
theorem dX4_heightAbove_22 : decode cX4_heightAbove 22 = .ok (.invokevirtual 75, 3) := by decide +kernel
theorem dX4_heightAbove_25 : decode cX4_heightAbove 25 = .ok (.aload_n 0, 1) := by decide +kernel
theorem dX4_heightAbove_26 : decode cX4_heightAbove 26 = .ok (.getfield 14, 3) := by decide +kernel
theorem dX4_heightAbove_29 : decode cX4_heightAbove 29 = .ok (.iload_n 1, 1) := by decide +kernel
theorem dX4_heightAbove_30 : decode cX4_heightAbove 30 = .ok (.invokevirtual 75, 3) := by decide +kernel
theorem dX4_heightAbove_33 : decode cX4_heightAbove 33 = .ok (.imul, 1) := by decide +kernel
theorem dX4_heightAbove_34 : decode cX4_heightAbove 34 = .ok (.isub, 1) := by decide +kernel
theorem dX4_heightAbove_35 : decode cX4_heightAbove 35 = .ok (.ireturn, 1) := by decide +kernel
theorem dX5_init_0 : decode cX5_init 0 = .ok (.aload_n 0, 1) := by decide +kernel
theorem dX5_init_1 : decode cX5_init 1 = .ok (.invokespecial 3, 3) := by decide +kernel
theorem dX5_init_4 : decode cX5_init 4 = .ok (.aload_n 0, 1) := by decide +kernel
theorem dX5_init_5 : decode cX5_init 5 = .ok (.new 9, 3) := by decide +kernel
theorem dX5_init_8 : decode cX5_init 8 = .ok (.dup, 1) := by decide +kernel
theorem dX5_init_9 : decode cX5_init 9 = .ok (.invokespecial 11, 3) := by decide +kernel
theorem dX5_init_12 : decode cX5_init 12 = .ok (.putfield 12, 3) := by decide +kernel
theorem dX5_init_15 : decode cX5_init 15 = .ok (.aload_n 0, 1) := by decide +kernel
theorem dX5_init_16 : decode cX5_init 16 = .ok (.new 18, 3) := by decide +kernel
theorem dX5_init_19 : decode cX5_init 19 = .ok (.dup, 1) := by decide +kernel
theorem dX5_init_20 : decode cX5_init 20 = .ok (.sipush 128, 3) := by decide +kernel
theorem dX5_init_23 : decode cX5_init 23 = .ok (.invokespecial 20, 3) := by decide +kernel
theorem dX5_init_26 : decode cX5_init 26 = .ok (.putfield 23, 3) := by decide +kernel
theorem dX5_init_29 : decode cX5_init 29 = .ok (.aload_n 0, 1) := by decide +kernel
theorem dX5_init_30 : decode cX5_init 30 = .ok (.new 18, 3) := by decide +kernel
theorem dX5_init_33 : decode cX5_init 33 = .ok (.dup, 1) := by decide +kernel
theorem dX5_init_34 : decode cX5_init 34 = .ok (.bipush 8, 2) := by decide +kernel
theorem dX5_init_36 : decode cX5_init 36 = .ok (.invokespecial 20, 3) := by decide +kernel
theorem dX5_init_39 : decode cX5_init 39 = .ok (.putfield 27, 3) := by decide +kernel
theorem dX5_init_42 : decode cX5_init 42 = .ok (.aload_n 0, 1) := by decide +kernel
theorem dX5_init_43 : decode cX5_init 43 = .ok (.new 18, 3) := by decide +kernel
theorem dX5_init_46 : decode cX5_init 46 = .ok (.dup, 1) := by decide +kernel
theorem dX5_init_47 : decode cX5_init 47 = .ok (.sipush 256, 3) := by decide +kernel
theorem dX5_init_50 : decode cX5_init 50 = .ok (.invokespecial 20, 3) := by decide +kernel
theorem dX5_init_53 : decode cX5_init 53 = .ok (.putfield 30, 3) := by decide +kernel
theorem dX5_init_56 : decode cX5_init 56 = .ok (.aload_n 0, 1) := by decide +kernel
theorem dX5_init_57 : decode cX5_init 57 = .ok (.new 33, 3) := by decide +kernel
theorem dX5_init_60 : decode cX5_init 60 = .ok (.dup, 1) := by decide +kernel
theorem dX5_init_61 : decode cX5_init 61 = .ok (.invokespecial 35, 3) := by decide +kernel
theorem dX5_init_64 : decode cX5_init 64 = .ok (.putfield 36, 3) := by decide +kernel
theorem dX5_init_67 : decode cX5_init 67 = .ok (.aload_n 0, 1) := by decide +kernel
theorem dX5_init_68 : decode cX5_init 68 = .ok (.new 40, 3) := by decide +kernel
theorem dX5_init_71 : decode cX5_init 71 = .ok (.dup, 1) := by decide +kernel
theorem dX5_init_72 : decode cX5_init 72 = .ok (.invokespecial 42, 3) := by decide +kernel
theorem dX5_init_75 : decode cX5_init 75 = .ok (.putfield 43, 3) := by decide +kernel
theorem dX5_init_78 : decode cX5_init 78 = .ok (.return_, 1) := by decide +kernel
theorem dX5_readGait_0 : decode cX5_readGait 0 = .ok (.aload_n 0, 1) := by decide +kernel
theorem dX5_readGait_1 : decode cX5_readGait 1 = .ok (.iconst 0, 1) := by decide +kernel
theorem dX5_readGait_2 : decode cX5_readGait 2 = .ok (.putfield 47, 3) := by decide +kernel
theorem dX5_readGait_5 : decode cX5_readGait 5 = .ok (.iconst 0, 1) := by decide +kernel
theorem dX5_readGait_6 : decode cX5_readGait 6 = .ok (.istore_n 1, 1) := by decide +kernel
theorem dX5_readGait_7 : decode cX5_readGait 7 = .ok (.iload_n 1, 1) := by decide +kernel
theorem dX5_readGait_8 : decode cX5_readGait 8 = .ok (.aload_n 0, 1) := by decide +kernel
theorem dX5_readGait_9 : decode cX5_readGait 9 = .ok (.getfield 12, 3) := by decide +kernel
theorem dX5_readGait_12 : decode cX5_readGait 12 = .ok (.getfield 51, 3) := by decide +kernel
theorem dX5_readGait_15 : decode cX5_readGait 15 = .ok (.if_icmp .ge 14, 3) := by decide +kernel
theorem dX5_readGait_18 : decode cX5_readGait 18 = .ok (.aload_n 0, 1) := by decide +kernel
theorem dX5_readGait_19 : decode cX5_readGait 19 = .ok (.iload_n 1, 1) := by decide +kernel
theorem dX5_readGait_20 : decode cX5_readGait 20 = .ok (.invokevirtual 55, 3) := by decide +kernel
theorem dX5_readGait_23 : decode cX5_readGait 23 = .ok (.iinc 1 1, 3) := by decide +kernel
theorem dX5_readGait_26 : decode cX5_readGait 26 = .ok (.goto (-19), 3) := by decide +kernel
theorem dX5_readGait_29 : decode cX5_readGait 29 = .ok (.return_, 1) := by decide +kernel
theorem dX5_readPlaces_0 : decode cX5_readPlaces 0 = .ok (.aload_n 0, 1) := by decide +kernel
theorem dX5_readPlaces_1 : decode cX5_readPlaces 1 = .ok (.getfield 12, 3) := by decide +kernel
theorem dX5_readPlaces_4 : decode cX5_readPlaces 4 = .ok (.invokevirtual 58, 3) := by decide +kernel
theorem dX5_readPlaces_7 : decode cX5_readPlaces 7 = .ok (.istore_n 1, 1) := by decide +kernel
theorem dX5_readPlaces_8 : decode cX5_readPlaces 8 = .ok (.iconst 0, 1) := by decide +kernel
theorem dX5_readPlaces_9 : decode cX5_readPlaces 9 = .ok (.istore_n 2, 1) := by decide +kernel
theorem dX5_readPlaces_10 : decode cX5_readPlaces 10 = .ok (.iload_n 2, 1) := by decide +kernel
theorem dX5_readPlaces_11 : decode cX5_readPlaces 11 = .ok (.iload_n 1, 1) := by decide +kernel
theorem dX5_readPlaces_12 : decode cX5_readPlaces 12 = .ok (.if_icmp .gt 30, 3) := by decide +kernel
theorem dX5_readPlaces_15 : decode cX5_readPlaces 15 = .ok (.aload_n 0, 1) := by decide +kernel
theorem dX5_readPlaces_16 : decode cX5_readPlaces 16 = .ok (.getfield 30, 3) := by decide +kernel
theorem dX5_readPlaces_19 : decode cX5_readPlaces 19 = .ok (.iload_n 2, 1) := by decide +kernel
theorem dX5_readPlaces_20 : decode cX5_readPlaces 20 = .ok (.aload_n 0, 1) := by decide +kernel
theorem dX5_readPlaces_21 : decode cX5_readPlaces 21 = .ok (.iload_n 2, 1) := by decide +kernel
theorem dX5_readPlaces_22 : decode cX5_readPlaces 22 = .ok (.invokevirtual 62, 3) := by decide +kernel
theorem dX5_readPlaces_25 : decode cX5_readPlaces 25 = .ok (.ifCond .eq 7, 3) := by decide +kernel
theorem dX5_readPlaces_28 : decode cX5_readPlaces 28 = .ok (.iconst 1, 1) := by decide +kernel
theorem dX5_readPlaces_29 : decode cX5_readPlaces 29 = .ok (.goto 4, 3) := by decide +kernel
theorem dX5_readPlaces_32 : decode cX5_readPlaces 32 = .ok (.iconst 0, 1) := by decide +kernel
theorem dX5_readPlaces_33 : decode cX5_readPlaces 33 = .ok (.invokevirtual 66, 3) := by decide +kernel
theorem dX5_readPlaces_36 : decode cX5_readPlaces 36 = .ok (.iinc 2 1, 3) := by decide +kernel
theorem dX5_readPlaces_39 : decode cX5_readPlaces 39 = .ok (.goto (-29), 3) := by decide +kernel
theorem dX5_readPlaces_42 : decode cX5_readPlaces 42 = .ok (.return_, 1) := by decide +kernel
theorem dX5_isSound_0 : decode cX5_isSound 0 = .ok (.aload_n 0, 1) := by decide +kernel
theorem dX5_isSound_1 : decode cX5_isSound 1 = .ok (.getfield 30, 3) := by decide +kernel
theorem dX5_isSound_4 : decode cX5_isSound 4 = .ok (.iload_n 1, 1) := by decide +kernel
theorem dX5_isSound_5 : decode cX5_isSound 5 = .ok (.invokevirtual 70, 3) := by decide +kernel
theorem dX5_isSound_8 : decode cX5_isSound 8 = .ok (.iconst 1, 1) := by decide +kernel
theorem dX5_isSound_9 : decode cX5_isSound 9 = .ok (.if_icmp .ne 7, 3) := by decide +kernel
theorem dX5_isSound_12 : decode cX5_isSound 12 = .ok (.iconst 1, 1) := by decide +kernel
theorem dX5_isSound_13 : decode cX5_isSound 13 = .ok (.goto 4, 3) := by decide +kernel
theorem dX5_isSound_16 : decode cX5_isSound 16 = .ok (.iconst 0, 1) := by decide +kernel
theorem dX5_isSound_17 : decode cX5_isSound 17 = .ok (.ireturn, 1) := by decide +kernel
theorem dX5_readLeg_0 : decode cX5_readLeg 0 = .ok (.aload_n 0, 1) := by decide +kernel
theorem dX5_readLeg_1 : decode cX5_readLeg 1 = .ok (.getfield 47, 3) := by decide +kernel
theorem dX5_readLeg_4 : decode cX5_readLeg 4 = .ok (.ifCond .eq 4, 3) := by decide +kernel
theorem dX5_readLeg_7 : decode cX5_readLeg 7 = .ok (.return_, 1) := by decide +kernel
theorem dX5_readLeg_8 : decode cX5_readLeg 8 = .ok (.aload_n 0, 1) := by decide +kernel
theorem dX5_readLeg_9 : decode cX5_readLeg 9 = .ok (.getfield 27, 3) := by decide +kernel
theorem dX5_readLeg_12 : decode cX5_readLeg 12 = .ok (.iload_n 1, 1) := by decide +kernel
theorem dX5_readLeg_13 : decode cX5_readLeg 13 = .ok (.iconst 0, 1) := by decide +kernel
theorem dX5_readLeg_14 : decode cX5_readLeg 14 = .ok (.invokevirtual 66, 3) := by decide +kernel
theorem dX5_readLeg_17 : decode cX5_readLeg 17 = .ok (.iconst 0, 1) := by decide +kernel
theorem dX5_readLeg_18 : decode cX5_readLeg 18 = .ok (.istore_n 2, 1) := by decide +kernel
theorem dX5_readLeg_19 : decode cX5_readLeg 19 = .ok (.iload_n 2, 1) := by decide +kernel
theorem dX5_readLeg_20 : decode cX5_readLeg 20 = .ok (.aload_n 0, 1) := by decide +kernel
theorem dX5_readLeg_21 : decode cX5_readLeg 21 = .ok (.getfield 12, 3) := by decide +kernel
theorem dX5_readLeg_24 : decode cX5_readLeg 24 = .ok (.getfield 74, 3) := by decide +kernel
theorem dX5_readLeg_27 : decode cX5_readLeg 27 = .ok (.if_icmp .ge 23, 3) := by decide +kernel
theorem dX5_readLeg_30 : decode cX5_readLeg 30 = .ok (.aload_n 0, 1) := by decide +kernel
theorem dX5_readLeg_31 : decode cX5_readLeg 31 = .ok (.getfield 23, 3) := by decide +kernel
theorem dX5_readLeg_34 : decode cX5_readLeg 34 = .ok (.iload_n 1, 1) := by decide +kernel
theorem dX5_readLeg_35 : decode cX5_readLeg 35 = .ok (.bipush 16, 2) := by decide +kernel
theorem dX5_readLeg_37 : decode cX5_readLeg 37 = .ok (.imul, 1) := by decide +kernel
theorem dX5_readLeg_38 : decode cX5_readLeg 38 = .ok (.iload_n 2, 1) := by decide +kernel
theorem dX5_readLeg_39 : decode cX5_readLeg 39 = .ok (.iadd, 1) := by decide +kernel
theorem dX5_readLeg_40 : decode cX5_readLeg 40 = .ok (.iconst 0, 1) := by decide +kernel
theorem dX5_readLeg_41 : decode cX5_readLeg 41 = .ok (.invokevirtual 66, 3) := by decide +kernel
theorem dX5_readLeg_44 : decode cX5_readLeg 44 = .ok (.iinc 2 1, 3) := by decide +kernel
theorem dX5_readLeg_47 : decode cX5_readLeg 47 = .ok (.goto (-28), 3) := by decide +kernel
theorem dX5_readLeg_50 : decode cX5_readLeg 50 = .ok (.iconst 0, 1) := by decide +kernel
theorem dX5_readLeg_51 : decode cX5_readLeg 51 = .ok (.istore_n 2, 1) := by decide +kernel
theorem dX5_readLeg_52 : decode cX5_readLeg 52 = .ok (.iload_n 2, 1) := by decide +kernel
theorem dX5_readLeg_53 : decode cX5_readLeg 53 = .ok (.aload_n 0, 1) := by decide +kernel
theorem dX5_readLeg_54 : decode cX5_readLeg 54 = .ok (.getfield 12, 3) := by decide +kernel
theorem dX5_readLeg_57 : decode cX5_readLeg 57 = .ok (.getfield 74, 3) := by decide +kernel
theorem dX5_readLeg_60 : decode cX5_readLeg 60 = .ok (.if_icmp .ge 46, 3) := by decide +kernel
theorem dX5_readLeg_63 : decode cX5_readLeg 63 = .ok (.aload_n 0, 1) := by decide +kernel
theorem dX5_readLeg_64 : decode cX5_readLeg 64 = .ok (.getfield 12, 3) := by decide +kernel
theorem dX5_readLeg_67 : decode cX5_readLeg 67 = .ok (.iload_n 1, 1) := by decide +kernel
theorem dX5_readLeg_68 : decode cX5_readLeg 68 = .ok (.iload_n 2, 1) := by decide +kernel
theorem dX5_readLeg_69 : decode cX5_readLeg 69 = .ok (.invokevirtual 77, 3) := by decide +kernel
theorem dX5_readLeg_72 : decode cX5_readLeg 72 = .ok (.ifCond .eq 28, 3) := by decide +kernel
theorem dX5_readLeg_75 : decode cX5_readLeg 75 = .ok (.aload_n 0, 1) := by decide +kernel
theorem dX5_readLeg_76 : decode cX5_readLeg 76 = .ok (.getfield 12, 3) := by decide +kernel
theorem dX5_readLeg_79 : decode cX5_readLeg 79 = .ok (.iload_n 1, 1) := by decide +kernel
theorem dX5_readLeg_80 : decode cX5_readLeg 80 = .ok (.aload_n 0, 1) := by decide +kernel
theorem dX5_readLeg_81 : decode cX5_readLeg 81 = .ok (.getfield 12, 3) := by decide +kernel
theorem dX5_readLeg_84 : decode cX5_readLeg 84 = .ok (.iload_n 2, 1) := by decide +kernel
theorem dX5_readLeg_85 : decode cX5_readLeg 85 = .ok (.invokevirtual 81, 3) := by decide +kernel
theorem dX5_readLeg_88 : decode cX5_readLeg 88 = .ok (.invokevirtual 77, 3) := by decide +kernel
theorem dX5_readLeg_91 : decode cX5_readLeg 91 = .ok (.ifCond .ne 9, 3) := by decide +kernel
theorem dX5_readLeg_94 : decode cX5_readLeg 94 = .ok (.aload_n 0, 1) := by decide +kernel
theorem dX5_readLeg_95 : decode cX5_readLeg 95 = .ok (.iload_n 1, 1) := by decide +kernel
theorem dX5_readLeg_96 : decode cX5_readLeg 96 = .ok (.iload_n 2, 1) := by decide +kernel
theorem dX5_readLeg_97 : decode cX5_readLeg 97 = .ok (.invokevirtual 84, 3) := by decide +kernel
theorem dX5_readLeg_100 : decode cX5_readLeg 100 = .ok (.iinc 2 1, 3) := by decide +kernel
theorem dX5_readLeg_103 : decode cX5_readLeg 103 = .ok (.goto (-51), 3) := by decide +kernel
theorem dX5_readLeg_106 : decode cX5_readLeg 106 = .ok (.return_, 1) := by decide +kernel
theorem dX5_readStance_0 : decode cX5_readStance 0 = .ok (.iconst 0, 1) := by decide +kernel
theorem dX5_readStance_1 : decode cX5_readStance 1 = .ok (.istore_n 3, 1) := by decide +kernel
theorem dX5_readStance_2 : decode cX5_readStance 2 = .ok (.iload_n 2, 1) := by decide +kernel
theorem dX5_readStance_3 : decode cX5_readStance 3 = .ok (.istore 4, 2) := by decide +kernel
theorem dX5_readStance_5 : decode cX5_readStance 5 = .ok (.iconst 1, 1) := by decide +kernel
theorem dX5_readStance_6 : decode cX5_readStance 6 = .ok (.istore 5, 2) := by decide +kernel
theorem dX5_readStance_8 : decode cX5_readStance 8 = .ok (.iload 5, 2) := by decide +kernel
theorem dX5_readStance_10 : decode cX5_readStance 10 = .ok (.aload_n 0, 1) := by decide +kernel
theorem dX5_readStance_11 : decode cX5_readStance 11 = .ok (.getfield 12, 3) := by decide +kernel
theorem dX5_readStance_14 : decode cX5_readStance 14 = .ok (.getfield 74, 3) := by decide +kernel
theorem dX5_readStance_17 : decode cX5_readStance 17 = .ok (.if_icmp .ge 43, 3) := by decide +kernel
theorem dX5_readStance_20 : decode cX5_readStance 20 = .ok (.aload_n 0, 1) := by decide +kernel
theorem dX5_readStance_21 : decode cX5_readStance 21 = .ok (.getfield 12, 3) := by decide +kernel
theorem dX5_readStance_24 : decode cX5_readStance 24 = .ok (.iload_n 1, 1) := by decide +kernel
theorem dX5_readStance_25 : decode cX5_readStance 25 = .ok (.aload_n 0, 1) := by decide +kernel
theorem dX5_readStance_26 : decode cX5_readStance 26 = .ok (.getfield 12, 3) := by decide +kernel
theorem dX5_readStance_29 : decode cX5_readStance 29 = .ok (.iload 4, 2) := by decide +kernel
theorem dX5_readStance_31 : decode cX5_readStance 31 = .ok (.invokevirtual 87, 3) := by decide +kernel
theorem dX5_readStance_34 : decode cX5_readStance 34 = .ok (.invokevirtual 77, 3) := by decide +kernel
theorem dX5_readStance_37 : decode cX5_readStance 37 = .ok (.ifCond .eq 23, 3) := by decide +kernel
theorem dX5_readStance_40 : decode cX5_readStance 40 = .ok (.aload_n 0, 1) := by decide +kernel
theorem dX5_readStance_41 : decode cX5_readStance 41 = .ok (.getfield 12, 3) := by decide +kernel
theorem dX5_readStance_44 : decode cX5_readStance 44 = .ok (.iload 4, 2) := by decide +kernel
theorem dX5_readStance_46 : decode cX5_readStance 46 = .ok (.invokevirtual 87, 3) := by decide +kernel
theorem dX5_readStance_49 : decode cX5_readStance 49 = .ok (.istore 4, 2) := by decide +kernel
theorem dX5_readStance_51 : decode cX5_readStance 51 = .ok (.iinc 3 1, 3) := by decide +kernel
theorem dX5_readStance_54 : decode cX5_readStance 54 = .ok (.iinc 5 1, 3) := by decide +kernel
theorem dX5_readStance_57 : decode cX5_readStance 57 = .ok (.goto (-49), 3) := by decide +kernel
theorem dX5_readStance_60 : decode cX5_readStance 60 = .ok (.aload_n 0, 1) := by decide +kernel
theorem dX5_readStance_61 : decode cX5_readStance 61 = .ok (.getfield 27, 3) := by decide +kernel
theorem dX5_readStance_64 : decode cX5_readStance 64 = .ok (.iload_n 1, 1) := by decide +kernel
theorem dX5_readStance_65 : decode cX5_readStance 65 = .ok (.aload_n 0, 1) := by decide +kernel
theorem dX5_readStance_66 : decode cX5_readStance 66 = .ok (.getfield 27, 3) := by decide +kernel
theorem dX5_readStance_69 : decode cX5_readStance 69 = .ok (.iload_n 1, 1) := by decide +kernel
theorem dX5_readStance_70 : decode cX5_readStance 70 = .ok (.invokevirtual 70, 3) := by decide +kernel
theorem dX5_readStance_73 : decode cX5_readStance 73 = .ok (.iload_n 3, 1) := by decide +kernel
theorem dX5_readStance_74 : decode cX5_readStance 74 = .ok (.invokestatic 90, 3) := by decide +kernel
theorem dX5_readStance_77 : decode cX5_readStance 77 = .ok (.invokevirtual 66, 3) := by decide +kernel
theorem dX5_readStance_80 : decode cX5_readStance 80 = .ok (.iload_n 2, 1) := by decide +kernel
theorem dX5_readStance_81 : decode cX5_readStance 81 = .ok (.istore 5, 2) := by decide +kernel
theorem dX5_readStance_83 : decode cX5_readStance 83 = .ok (.iconst 0, 1) := by decide +kernel
theorem dX5_readStance_84 : decode cX5_readStance 84 = .ok (.istore 6, 2) := by decide +kernel
theorem dX5_readStance_86 : decode cX5_readStance 86 = .ok (.iload 6, 2) := by decide +kernel
theorem dX5_readStance_88 : decode cX5_readStance 88 = .ok (.iload_n 3, 1) := by decide +kernel
theorem dX5_readStance_89 : decode cX5_readStance 89 = .ok (.if_icmp .gt 40, 3) := by decide +kernel
theorem dX5_readStance_92 : decode cX5_readStance 92 = .ok (.aload_n 0, 1) := by decide +kernel
theorem dX5_readStance_93 : decode cX5_readStance 93 = .ok (.getfield 23, 3) := by decide +kernel
theorem dX5_readStance_96 : decode cX5_readStance 96 = .ok (.iload_n 1, 1) := by decide +kernel
theorem dX5_readStance_97 : decode cX5_readStance 97 = .ok (.bipush 16, 2) := by decide +kernel
theorem dX5_readStance_99 : decode cX5_readStance 99 = .ok (.imul, 1) := by decide +kernel
theorem dX5_readStance_100 : decode cX5_readStance 100 = .ok (.iload 5, 2) := by decide +kernel
theorem dX5_readStance_102 : decode cX5_readStance 102 = .ok (.iadd, 1) := by decide +kernel
theorem dX5_readStance_103 : decode cX5_readStance 103 = .ok (.iload_n 3, 1) := by decide +kernel
theorem dX5_readStance_104 : decode cX5_readStance 104 = .ok (.iconst 2, 1) := by decide +kernel
theorem dX5_readStance_105 : decode cX5_readStance 105 = .ok (.iload 6, 2) := by decide +kernel
theorem dX5_readStance_107 : decode cX5_readStance 107 = .ok (.imul, 1) := by decide +kernel
theorem dX5_readStance_108 : decode cX5_readStance 108 = .ok (.isub, 1) := by decide +kernel
theorem dX5_readStance_109 : decode cX5_readStance 109 = .ok (.invokevirtual 66, 3) := by decide +kernel
theorem dX5_readStance_112 : decode cX5_readStance 112 = .ok (.aload_n 0, 1) := by decide +kernel
theorem dX5_readStance_113 : decode cX5_readStance 113 = .ok (.getfield 12, 3) := by decide +kernel
theorem dX5_readStance_116 : decode cX5_readStance 116 = .ok (.iload 5, 2) := by decide +kernel
theorem dX5_readStance_118 : decode cX5_readStance 118 = .ok (.invokevirtual 87, 3) := by decide +kernel
theorem dX5_readStance_121 : decode cX5_readStance 121 = .ok (.istore 5, 2) := by decide +kernel
theorem dX5_readStance_123 : decode cX5_readStance 123 = .ok (.iinc 6 1, 3) := by decide +kernel
theorem dX5_readStance_126 : decode cX5_readStance 126 = .ok (.goto (-40), 3) := by decide +kernel
theorem dX5_readStance_129 : decode cX5_readStance 129 = .ok (.return_, 1) := by decide +kernel
theorem dX5_twiceY_0 : decode cX5_twiceY 0 = .ok (.iconst 2, 1) := by decide +kernel
theorem dX5_twiceY_1 : decode cX5_twiceY 1 = .ok (.aload_n 0, 1) := by decide +kernel
theorem dX5_twiceY_2 : decode cX5_twiceY 2 = .ok (.getfield 12, 3) := by decide +kernel
theorem dX5_twiceY_5 : decode cX5_twiceY 5 = .ok (.getfield 96, 3) := by decide +kernel
theorem dX5_twiceY_8 : decode cX5_twiceY 8 = .ok (.iload_n 1, 1) := by decide +kernel
theorem dX5_twiceY_9 : decode cX5_twiceY 9 = .ok (.invokevirtual 70, 3) := by decide +kernel
theorem dX5_twiceY_12 : decode cX5_twiceY 12 = .ok (.imul, 1) := by decide +kernel
theorem dX5_twiceY_13 : decode cX5_twiceY 13 = .ok (.aload_n 0, 1) := by decide +kernel
theorem dX5_twiceY_14 : decode cX5_twiceY 14 = .ok (.getfield 12, 3) := by decide +kernel
theorem dX5_twiceY_17 : decode cX5_twiceY 17 = .ok (.getfield 99, 3) := by decide +kernel
theorem dX5_twiceY_20 : decode cX5_twiceY 20 = .ok (.aload_n 0, 1) := by decide +kernel
theorem dX5_twiceY_21 : decode cX5_twiceY 21 = .ok (.getfield 23, 3) := by decide +kernel
theorem dX5_twiceY_24 : decode cX5_twiceY 24 = .ok (.iload_n 1, 1) := by decide +kernel
theorem dX5_twiceY_25 : decode cX5_twiceY 25 = .ok (.bipush 16, 2) := by decide +kernel
theorem dX5_twiceY_27 : decode cX5_twiceY 27 = .ok (.imul, 1) := by decide +kernel
theorem dX5_twiceY_28 : decode cX5_twiceY 28 = .ok (.iload_n 2, 1) := by decide +kernel
theorem dX5_twiceY_29 : decode cX5_twiceY 29 = .ok (.iadd, 1) := by decide +kernel
theorem dX5_twiceY_30 : decode cX5_twiceY 30 = .ok (.invokevirtual 70, 3) := by decide +kernel
theorem dX5_twiceY_33 : decode cX5_twiceY 33 = .ok (.imul, 1) := by decide +kernel
theorem dX5_twiceY_34 : decode cX5_twiceY 34 = .ok (.iadd, 1) := by decide +kernel
theorem dX5_twiceY_35 : decode cX5_twiceY 35 = .ok (.ireturn, 1) := by decide +kernel
theorem dX5_isSteady_0 : decode cX5_isSteady 0 = .ok (.aload_n 0, 1) := by decide +kernel
theorem dX5_isSteady_1 : decode cX5_isSteady 1 = .ok (.invokevirtual 102, 3) := by decide +kernel
theorem dX5_isSteady_4 : decode cX5_isSteady 4 = .ok (.iconst (-1), 1) := by decide +kernel
theorem dX5_isSteady_5 : decode cX5_isSteady 5 = .ok (.if_icmp .ne 15, 3) := by decide +kernel
theorem dX5_isSteady_8 : decode cX5_isSteady 8 = .ok (.aload_n 0, 1) := by decide +kernel
theorem dX5_isSteady_9 : decode cX5_isSteady 9 = .ok (.invokevirtual 105, 3) := by decide +kernel
theorem dX5_isSteady_12 : decode cX5_isSteady 12 = .ok (.iconst (-1), 1) := by decide +kernel
theorem dX5_isSteady_13 : decode cX5_isSteady 13 = .ok (.if_icmp .ne 7, 3) := by decide +kernel
theorem dX5_isSteady_16 : decode cX5_isSteady 16 = .ok (.iconst 1, 1) := by decide +kernel
theorem dX5_isSteady_17 : decode cX5_isSteady 17 = .ok (.goto 4, 3) := by decide +kernel
theorem dX5_isSteady_20 : decode cX5_isSteady 20 = .ok (.iconst 0, 1) := by decide +kernel
theorem dX5_isSteady_21 : decode cX5_isSteady 21 = .ok (.ireturn, 1) := by decide +kernel
theorem dX5_firstBeyondReach_0 : decode cX5_firstBeyondReach 0 = .ok (.iconst 0, 1) := by decide +kernel
theorem dX5_firstBeyondReach_1 : decode cX5_firstBeyondReach 1 = .ok (.istore_n 1, 1) := by decide +kernel
theorem dX5_firstBeyondReach_2 : decode cX5_firstBeyondReach 2 = .ok (.iload_n 1, 1) := by decide +kernel
theorem dX5_firstBeyondReach_3 : decode cX5_firstBeyondReach 3 = .ok (.aload_n 0, 1) := by decide +kernel
theorem dX5_firstBeyondReach_4 : decode cX5_firstBeyondReach 4 = .ok (.getfield 12, 3) := by decide +kernel
theorem dX5_firstBeyondReach_7 : decode cX5_firstBeyondReach 7 = .ok (.getfield 51, 3) := by decide +kernel
theorem dX5_firstBeyondReach_10 : decode cX5_firstBeyondReach 10 = .ok (.if_icmp .ge 39, 3) := by decide +kernel
theorem dX5_firstBeyondReach_13 : decode cX5_firstBeyondReach 13 = .ok (.aload_n 0, 1) := by decide +kernel
theorem dX5_firstBeyondReach_14 : decode cX5_firstBeyondReach 14 = .ok (.getfield 12, 3) := by decide +kernel
theorem dX5_firstBeyondReach_17 : decode cX5_firstBeyondReach 17 = .ok (.getfield 99, 3) := by decide +kernel
theorem dX5_firstBeyondReach_20 : decode cX5_firstBeyondReach 20 = .ok (.aload_n 0, 1) := by decide +kernel
theorem dX5_firstBeyondReach_21 : decode cX5_firstBeyondReach 21 = .ok (.getfield 27, 3) := by decide +kernel
theorem dX5_firstBeyondReach_24 : decode cX5_firstBeyondReach 24 = .ok (.iload_n 1, 1) := by decide +kernel
theorem dX5_firstBeyondReach_25 : decode cX5_firstBeyondReach 25 = .ok (.invokevirtual 70, 3) := by decide +kernel
theorem dX5_firstBeyondReach_28 : decode cX5_firstBeyondReach 28 = .ok (.imul, 1) := by decide +kernel
theorem dX5_firstBeyondReach_29 : decode cX5_firstBeyondReach 29 = .ok (.iconst 2, 1) := by decide +kernel
theorem dX5_firstBeyondReach_30 : decode cX5_firstBeyondReach 30 = .ok (.aload_n 0, 1) := by decide +kernel
theorem dX5_firstBeyondReach_31 : decode cX5_firstBeyondReach 31 = .ok (.getfield 12, 3) := by decide +kernel
theorem dX5_firstBeyondReach_34 : decode cX5_firstBeyondReach 34 = .ok (.getfield 108, 3) := by decide +kernel
theorem dX5_firstBeyondReach_37 : decode cX5_firstBeyondReach 37 = .ok (.imul, 1) := by decide +kernel
theorem dX5_firstBeyondReach_38 : decode cX5_firstBeyondReach 38 = .ok (.if_icmp .le 5, 3) := by decide +kernel
theorem dX5_firstBeyondReach_41 : decode cX5_firstBeyondReach 41 = .ok (.iload_n 1, 1) := by decide +kernel
theorem dX5_firstBeyondReach_42 : decode cX5_firstBeyondReach 42 = .ok (.ireturn, 1) := by decide +kernel
theorem dX5_firstBeyondReach_43 : decode cX5_firstBeyondReach 43 = .ok (.iinc 1 1, 3) := by decide +kernel
theorem dX5_firstBeyondReach_46 : decode cX5_firstBeyondReach 46 = .ok (.goto (-44), 3) := by decide +kernel
theorem dX5_firstBeyondReach_49 : decode cX5_firstBeyondReach 49 = .ok (.iconst (-1), 1) := by decide +kernel
theorem dX5_firstBeyondReach_50 : decode cX5_firstBeyondReach 50 = .ok (.ireturn, 1) := by decide +kernel
theorem dX5_firstFall_0 : decode cX5_firstFall 0 = .ok (.iconst 0, 1) := by decide +kernel
theorem dX5_firstFall_1 : decode cX5_firstFall 1 = .ok (.istore_n 1, 1) := by decide +kernel
theorem dX5_firstFall_2 : decode cX5_firstFall 2 = .ok (.iload_n 1, 1) := by decide +kernel
theorem dX5_firstFall_3 : decode cX5_firstFall 3 = .ok (.aload_n 0, 1) := by decide +kernel
theorem dX5_firstFall_4 : decode cX5_firstFall 4 = .ok (.getfield 12, 3) := by decide +kernel
theorem dX5_firstFall_7 : decode cX5_firstFall 7 = .ok (.getfield 74, 3) := by decide +kernel
theorem dX5_firstFall_10 : decode cX5_firstFall 10 = .ok (.if_icmp .ge 19, 3) := by decide +kernel
theorem dX5_firstFall_13 : decode cX5_firstFall 13 = .ok (.aload_n 0, 1) := by decide +kernel
theorem dX5_firstFall_14 : decode cX5_firstFall 14 = .ok (.iload_n 1, 1) := by decide +kernel
theorem dX5_firstFall_15 : decode cX5_firstFall 15 = .ok (.invokevirtual 111, 3) := by decide +kernel
theorem dX5_firstFall_18 : decode cX5_firstFall 18 = .ok (.ifCond .ne 5, 3) := by decide +kernel
theorem dX5_firstFall_21 : decode cX5_firstFall 21 = .ok (.iload_n 1, 1) := by decide +kernel
theorem dX5_firstFall_22 : decode cX5_firstFall 22 = .ok (.ireturn, 1) := by decide +kernel
theorem dX5_firstFall_23 : decode cX5_firstFall 23 = .ok (.iinc 1 1, 3) := by decide +kernel
theorem dX5_firstFall_26 : decode cX5_firstFall 26 = .ok (.goto (-24), 3) := by decide +kernel
theorem dX5_firstFall_29 : decode cX5_firstFall 29 = .ok (.iconst (-1), 1) := by decide +kernel
theorem dX5_firstFall_30 : decode cX5_firstFall 30 = .ok (.ireturn, 1) := by decide +kernel
theorem dX5_isSteadyAt_0 : decode cX5_isSteadyAt 0 = .ok (.aload_n 0, 1) := by decide +kernel
theorem dX5_isSteadyAt_1 : decode cX5_isSteadyAt 1 = .ok (.getfield 12, 3) := by decide +kernel
theorem dX5_isSteadyAt_4 : decode cX5_isSteadyAt 4 = .ok (.getfield 114, 3) := by decide +kernel
theorem dX5_isSteadyAt_7 : decode cX5_isSteadyAt 7 = .ok (.iload_n 1, 1) := by decide +kernel
theorem dX5_isSteadyAt_8 : decode cX5_isSteadyAt 8 = .ok (.invokevirtual 70, 3) := by decide +kernel
theorem dX5_isSteadyAt_11 : decode cX5_isSteadyAt 11 = .ok (.istore_n 2, 1) := by decide +kernel
theorem dX5_isSteadyAt_12 : decode cX5_isSteadyAt 12 = .ok (.iload_n 2, 1) := by decide +kernel
theorem dX5_isSteadyAt_13 : decode cX5_isSteadyAt 13 = .ok (.ifCond .ne 28, 3) := by decide +kernel
theorem dX5_isSteadyAt_16 : decode cX5_isSteadyAt 16 = .ok (.aload_n 0, 1) := by decide +kernel
theorem dX5_isSteadyAt_17 : decode cX5_isSteadyAt 17 = .ok (.getfield 12, 3) := by decide +kernel
theorem dX5_isSteadyAt_20 : decode cX5_isSteadyAt 20 = .ok (.getfield 117, 3) := by decide +kernel
theorem dX5_isSteadyAt_23 : decode cX5_isSteadyAt 23 = .ok (.iconst 1, 1) := by decide +kernel
theorem dX5_isSteadyAt_24 : decode cX5_isSteadyAt 24 = .ok (.if_icmp .ne 15, 3) := by decide +kernel
theorem dX5_isSteadyAt_27 : decode cX5_isSteadyAt 27 = .ok (.aload_n 0, 1) := by decide +kernel
theorem dX5_isSteadyAt_28 : decode cX5_isSteadyAt 28 = .ok (.iload_n 1, 1) := by decide +kernel
theorem dX5_isSteadyAt_29 : decode cX5_isSteadyAt 29 = .ok (.invokevirtual 120, 3) := by decide +kernel
theorem dX5_isSteadyAt_32 : decode cX5_isSteadyAt 32 = .ok (.ifCond .eq 7, 3) := by decide +kernel
theorem dX5_isSteadyAt_35 : decode cX5_isSteadyAt 35 = .ok (.iconst 1, 1) := by decide +kernel
theorem dX5_isSteadyAt_36 : decode cX5_isSteadyAt 36 = .ok (.goto 4, 3) := by decide +kernel
theorem dX5_isSteadyAt_39 : decode cX5_isSteadyAt 39 = .ok (.iconst 0, 1) := by decide +kernel
theorem dX5_isSteadyAt_40 : decode cX5_isSteadyAt 40 = .ok (.ireturn, 1) := by decide +kernel
theorem dX5_isSteadyAt_41 : decode cX5_isSteadyAt 41 = .ok (.aload_n 0, 1) := by decide +kernel
theorem dX5_isSteadyAt_42 : decode cX5_isSteadyAt 42 = .ok (.getfield 47, 3) := by decide +kernel
theorem dX5_isSteadyAt_45 : decode cX5_isSteadyAt 45 = .ok (.ifCond .eq 9, 3) := by decide +kernel
theorem dX5_isSteadyAt_48 : decode cX5_isSteadyAt 48 = .ok (.aload_n 0, 1) := by decide +kernel
theorem dX5_isSteadyAt_49 : decode cX5_isSteadyAt 49 = .ok (.iload_n 2, 1) := by decide +kernel
theorem dX5_isSteadyAt_50 : decode cX5_isSteadyAt 50 = .ok (.invokevirtual 123, 3) := by decide +kernel
theorem dX5_isSteadyAt_53 : decode cX5_isSteadyAt 53 = .ok (.ireturn, 1) := by decide +kernel
theorem dX5_isSteadyAt_54 : decode cX5_isSteadyAt 54 = .ok (.aload_n 0, 1) := by decide +kernel
theorem dX5_isSteadyAt_55 : decode cX5_isSteadyAt 55 = .ok (.iload_n 2, 1) := by decide +kernel
theorem dX5_isSteadyAt_56 : decode cX5_isSteadyAt 56 = .ok (.invokevirtual 126, 3) := by decide +kernel
theorem dX5_isSteadyAt_59 : decode cX5_isSteadyAt 59 = .ok (.ifCond .ne 5, 3) := by decide +kernel
theorem dX5_isSteadyAt_62 : decode cX5_isSteadyAt 62 = .ok (.iconst 0, 1) := by decide +kernel
theorem dX5_isSteadyAt_63 : decode cX5_isSteadyAt 63 = .ok (.ireturn, 1) := by decide +kernel
theorem dX5_isSteadyAt_64 : decode cX5_isSteadyAt 64 = .ok (.aload_n 0, 1) := by decide +kernel
theorem dX5_isSteadyAt_65 : decode cX5_isSteadyAt 65 = .ok (.iload_n 1, 1) := by decide +kernel
theorem dX5_isSteadyAt_66 : decode cX5_isSteadyAt 66 = .ok (.invokevirtual 129, 3) := by decide +kernel
theorem dX5_isSteadyAt_69 : decode cX5_isSteadyAt 69 = .ok (.aload_n 0, 1) := by decide +kernel
theorem dX5_isSteadyAt_70 : decode cX5_isSteadyAt 70 = .ok (.getfield 36, 3) := by decide +kernel
theorem dX5_isSteadyAt_73 : decode cX5_isSteadyAt 73 = .ok (.invokevirtual 132, 3) := by decide +kernel
theorem dX5_isSteadyAt_76 : decode cX5_isSteadyAt 76 = .ok (.ireturn, 1) := by decide +kernel
theorem dX5_holdsAtPlaces_0 : decode cX5_holdsAtPlaces 0 = .ok (.aload_n 0, 1) := by decide +kernel
theorem dX5_holdsAtPlaces_1 : decode cX5_holdsAtPlaces 1 = .ok (.iload_n 1, 1) := by decide +kernel
theorem dX5_holdsAtPlaces_2 : decode cX5_holdsAtPlaces 2 = .ok (.invokevirtual 126, 3) := by decide +kernel
theorem dX5_holdsAtPlaces_5 : decode cX5_holdsAtPlaces 5 = .ok (.ifCond .ne 5, 3) := by decide +kernel
theorem dX5_holdsAtPlaces_8 : decode cX5_holdsAtPlaces 8 = .ok (.iconst 0, 1) := by decide +kernel
theorem dX5_holdsAtPlaces_9 : decode cX5_holdsAtPlaces 9 = .ok (.ireturn, 1) := by decide +kernel
theorem dX5_holdsAtPlaces_10 : decode cX5_holdsAtPlaces 10 = .ok (.aload_n 0, 1) := by decide +kernel
theorem dX5_holdsAtPlaces_11 : decode cX5_holdsAtPlaces 11 = .ok (.getfield 36, 3) := by decide +kernel
theorem dX5_holdsAtPlaces_14 : decode cX5_holdsAtPlaces 14 = .ok (.invokevirtual 136, 3) := by decide +kernel
theorem dX5_holdsAtPlaces_17 : decode cX5_holdsAtPlaces 17 = .ok (.iconst 0, 1) := by decide +kernel
theorem dX5_holdsAtPlaces_18 : decode cX5_holdsAtPlaces 18 = .ok (.istore_n 2, 1) := by decide +kernel
theorem dX5_holdsAtPlaces_19 : decode cX5_holdsAtPlaces 19 = .ok (.iload_n 2, 1) := by decide +kernel
theorem dX5_holdsAtPlaces_20 : decode cX5_holdsAtPlaces 20 = .ok (.aload_n 0, 1) := by decide +kernel
theorem dX5_holdsAtPlaces_21 : decode cX5_holdsAtPlaces 21 = .ok (.getfield 12, 3) := by decide +kernel
theorem dX5_holdsAtPlaces_24 : decode cX5_holdsAtPlaces 24 = .ok (.getfield 51, 3) := by decide +kernel
theorem dX5_holdsAtPlaces_27 : decode cX5_holdsAtPlaces 27 = .ok (.if_icmp .ge 65, 3) := by decide +kernel
theorem dX5_holdsAtPlaces_30 : decode cX5_holdsAtPlaces 30 = .ok (.iload_n 1, 1) := by decide +kernel
theorem dX5_holdsAtPlaces_31 : decode cX5_holdsAtPlaces 31 = .ok (.iload_n 2, 1) := by decide +kernel
theorem dX5_holdsAtPlaces_32 : decode cX5_holdsAtPlaces 32 = .ok (.ishr, 1) := by decide +kernel
theorem dX5_holdsAtPlaces_33 : decode cX5_holdsAtPlaces 33 = .ok (.iconst 1, 1) := by decide +kernel
theorem dX5_holdsAtPlaces_34 : decode cX5_holdsAtPlaces 34 = .ok (.iand, 1) := by decide +kernel
theorem dX5_holdsAtPlaces_35 : decode cX5_holdsAtPlaces 35 = .ok (.iconst 1, 1) := by decide +kernel
theorem dX5_holdsAtPlaces_36 : decode cX5_holdsAtPlaces 36 = .ok (.if_icmp .ne 50, 3) := by decide +kernel
theorem dX5_holdsAtPlaces_39 : decode cX5_holdsAtPlaces 39 = .ok (.aload_n 0, 1) := by decide +kernel
theorem dX5_holdsAtPlaces_40 : decode cX5_holdsAtPlaces 40 = .ok (.getfield 36, 3) := by decide +kernel
theorem dX5_holdsAtPlaces_43 : decode cX5_holdsAtPlaces 43 = .ok (.aload_n 0, 1) := by decide +kernel
theorem dX5_holdsAtPlaces_44 : decode cX5_holdsAtPlaces 44 = .ok (.getfield 12, 3) := by decide +kernel
theorem dX5_holdsAtPlaces_47 : decode cX5_holdsAtPlaces 47 = .ok (.getfield 139, 3) := by decide +kernel
theorem dX5_holdsAtPlaces_50 : decode cX5_holdsAtPlaces 50 = .ok (.iload_n 2, 1) := by decide +kernel
theorem dX5_holdsAtPlaces_51 : decode cX5_holdsAtPlaces 51 = .ok (.invokevirtual 70, 3) := by decide +kernel
theorem dX5_holdsAtPlaces_54 : decode cX5_holdsAtPlaces 54 = .ok (.aload_n 0, 1) := by decide +kernel
theorem dX5_holdsAtPlaces_55 : decode cX5_holdsAtPlaces 55 = .ok (.getfield 12, 3) := by decide +kernel
theorem dX5_holdsAtPlaces_58 : decode cX5_holdsAtPlaces 58 = .ok (.getfield 142, 3) := by decide +kernel
theorem dX5_holdsAtPlaces_61 : decode cX5_holdsAtPlaces 61 = .ok (.isub, 1) := by decide +kernel
theorem dX5_holdsAtPlaces_62 : decode cX5_holdsAtPlaces 62 = .ok (.iconst 2, 1) := by decide +kernel
theorem dX5_holdsAtPlaces_63 : decode cX5_holdsAtPlaces 63 = .ok (.aload_n 0, 1) := by decide +kernel
theorem dX5_holdsAtPlaces_64 : decode cX5_holdsAtPlaces 64 = .ok (.getfield 12, 3) := by decide +kernel
theorem dX5_holdsAtPlaces_67 : decode cX5_holdsAtPlaces 67 = .ok (.getfield 96, 3) := by decide +kernel
theorem dX5_holdsAtPlaces_70 : decode cX5_holdsAtPlaces 70 = .ok (.iload_n 2, 1) := by decide +kernel
theorem dX5_holdsAtPlaces_71 : decode cX5_holdsAtPlaces 71 = .ok (.invokevirtual 70, 3) := by decide +kernel
theorem dX5_holdsAtPlaces_74 : decode cX5_holdsAtPlaces 74 = .ok (.aload_n 0, 1) := by decide +kernel
theorem dX5_holdsAtPlaces_75 : decode cX5_holdsAtPlaces 75 = .ok (.getfield 12, 3) := by decide +kernel
theorem dX5_holdsAtPlaces_78 : decode cX5_holdsAtPlaces 78 = .ok (.getfield 145, 3) := by decide +kernel
theorem dX5_holdsAtPlaces_81 : decode cX5_holdsAtPlaces 81 = .ok (.isub, 1) := by decide +kernel
theorem dX5_holdsAtPlaces_82 : decode cX5_holdsAtPlaces 82 = .ok (.imul, 1) := by decide +kernel
theorem dX5_holdsAtPlaces_83 : decode cX5_holdsAtPlaces 83 = .ok (.invokevirtual 148, 3) := by decide +kernel
theorem dX5_holdsAtPlaces_86 : decode cX5_holdsAtPlaces 86 = .ok (.iinc 2 1, 3) := by decide +kernel
theorem dX5_holdsAtPlaces_89 : decode cX5_holdsAtPlaces 89 = .ok (.goto (-70), 3) := by decide +kernel
theorem dX5_holdsAtPlaces_92 : decode cX5_holdsAtPlaces 92 = .ok (.aload_n 0, 1) := by decide +kernel
theorem dX5_holdsAtPlaces_93 : decode cX5_holdsAtPlaces 93 = .ok (.getfield 36, 3) := by decide +kernel
theorem dX5_holdsAtPlaces_96 : decode cX5_holdsAtPlaces 96 = .ok (.invokevirtual 132, 3) := by decide +kernel
theorem dX5_holdsAtPlaces_99 : decode cX5_holdsAtPlaces 99 = .ok (.ireturn, 1) := by decide +kernel
theorem dX5_marginAt_0 : decode cX5_marginAt 0 = .ok (.aload_n 0, 1) := by decide +kernel
theorem dX5_marginAt_1 : decode cX5_marginAt 1 = .ok (.iload_n 1, 1) := by decide +kernel
theorem dX5_marginAt_2 : decode cX5_marginAt 2 = .ok (.invokevirtual 129, 3) := by decide +kernel
theorem dX5_marginAt_5 : decode cX5_marginAt 5 = .ok (.aload_n 0, 1) := by decide +kernel
theorem dX5_marginAt_6 : decode cX5_marginAt 6 = .ok (.getfield 36, 3) := by decide +kernel
theorem dX5_marginAt_9 : decode cX5_marginAt 9 = .ok (.invokevirtual 151, 3) := by decide +kernel
theorem dX5_marginAt_12 : decode cX5_marginAt 12 = .ok (.areturn, 1) := by decide +kernel
theorem dX5_findLeast_0 : decode cX5_findLeast 0 = .ok (.iconst (-1), 1) := by decide +kernel
theorem dX5_findLeast_1 : decode cX5_findLeast 1 = .ok (.istore_n 1, 1) := by decide +kernel
theorem dX5_findLeast_2 : decode cX5_findLeast 2 = .ok (.iconst 0, 1) := by decide +kernel
theorem dX5_findLeast_3 : decode cX5_findLeast 3 = .ok (.istore_n 2, 1) := by decide +kernel
theorem dX5_findLeast_4 : decode cX5_findLeast 4 = .ok (.iload_n 2, 1) := by decide +kernel
theorem dX5_findLeast_5 : decode cX5_findLeast 5 = .ok (.aload_n 0, 1) := by decide +kernel
theorem dX5_findLeast_6 : decode cX5_findLeast 6 = .ok (.getfield 12, 3) := by decide +kernel
theorem dX5_findLeast_9 : decode cX5_findLeast 9 = .ok (.getfield 74, 3) := by decide +kernel
theorem dX5_findLeast_12 : decode cX5_findLeast 12 = .ok (.if_icmp .ge 64, 3) := by decide +kernel
theorem dX5_findLeast_15 : decode cX5_findLeast 15 = .ok (.aload_n 0, 1) := by decide +kernel
theorem dX5_findLeast_16 : decode cX5_findLeast 16 = .ok (.getfield 12, 3) := by decide +kernel
theorem dX5_findLeast_19 : decode cX5_findLeast 19 = .ok (.getfield 114, 3) := by decide +kernel
theorem dX5_findLeast_22 : decode cX5_findLeast 22 = .ok (.iload_n 2, 1) := by decide +kernel
theorem dX5_findLeast_23 : decode cX5_findLeast 23 = .ok (.invokevirtual 70, 3) := by decide +kernel
theorem dX5_findLeast_26 : decode cX5_findLeast 26 = .ok (.ifCond .eq 44, 3) := by decide +kernel
theorem dX5_findLeast_29 : decode cX5_findLeast 29 = .ok (.aload_n 0, 1) := by decide +kernel
theorem dX5_findLeast_30 : decode cX5_findLeast 30 = .ok (.iload_n 2, 1) := by decide +kernel
theorem dX5_findLeast_31 : decode cX5_findLeast 31 = .ok (.invokevirtual 155, 3) := by decide +kernel
theorem dX5_findLeast_34 : decode cX5_findLeast 34 = .ok (.astore_n 3, 1) := by decide +kernel
theorem dX5_findLeast_35 : decode cX5_findLeast 35 = .ok (.aload_n 3, 1) := by decide +kernel
theorem dX5_findLeast_36 : decode cX5_findLeast 36 = .ok (.invokevirtual 159, 3) := by decide +kernel
theorem dX5_findLeast_39 : decode cX5_findLeast 39 = .ok (.ifCond .eq 5, 3) := by decide +kernel
theorem dX5_findLeast_42 : decode cX5_findLeast 42 = .ok (.iconst (-1), 1) := by decide +kernel
theorem dX5_findLeast_43 : decode cX5_findLeast 43 = .ok (.ireturn, 1) := by decide +kernel
theorem dX5_findLeast_44 : decode cX5_findLeast 44 = .ok (.iload_n 1, 1) := by decide +kernel
theorem dX5_findLeast_45 : decode cX5_findLeast 45 = .ok (.iconst (-1), 1) := by decide +kernel
theorem dX5_findLeast_46 : decode cX5_findLeast 46 = .ok (.if_icmp .eq 14, 3) := by decide +kernel
theorem dX5_findLeast_49 : decode cX5_findLeast 49 = .ok (.aload_n 3, 1) := by decide +kernel
theorem dX5_findLeast_50 : decode cX5_findLeast 50 = .ok (.aload_n 0, 1) := by decide +kernel
theorem dX5_findLeast_51 : decode cX5_findLeast 51 = .ok (.getfield 43, 3) := by decide +kernel
theorem dX5_findLeast_54 : decode cX5_findLeast 54 = .ok (.invokevirtual 162, 3) := by decide +kernel
theorem dX5_findLeast_57 : decode cX5_findLeast 57 = .ok (.ifCond .eq 13, 3) := by decide +kernel
theorem dX5_findLeast_60 : decode cX5_findLeast 60 = .ok (.aload_n 0, 1) := by decide +kernel
theorem dX5_findLeast_61 : decode cX5_findLeast 61 = .ok (.getfield 43, 3) := by decide +kernel
theorem dX5_findLeast_64 : decode cX5_findLeast 64 = .ok (.aload_n 3, 1) := by decide +kernel
theorem dX5_findLeast_65 : decode cX5_findLeast 65 = .ok (.invokevirtual 166, 3) := by decide +kernel
theorem dX5_findLeast_68 : decode cX5_findLeast 68 = .ok (.iload_n 2, 1) := by decide +kernel
theorem dX5_findLeast_69 : decode cX5_findLeast 69 = .ok (.istore_n 1, 1) := by decide +kernel
theorem dX5_findLeast_70 : decode cX5_findLeast 70 = .ok (.iinc 2 1, 3) := by decide +kernel
theorem dX5_findLeast_73 : decode cX5_findLeast 73 = .ok (.goto (-69), 3) := by decide +kernel
theorem dX5_findLeast_76 : decode cX5_findLeast 76 = .ok (.iload_n 1, 1) := by decide +kernel
theorem dX5_findLeast_77 : decode cX5_findLeast 77 = .ok (.ireturn, 1) := by decide +kernel
theorem dX5_gatherFeet_0 : decode cX5_gatherFeet 0 = .ok (.aload_n 0, 1) := by decide +kernel
theorem dX5_gatherFeet_1 : decode cX5_gatherFeet 1 = .ok (.getfield 36, 3) := by decide +kernel
theorem dX5_gatherFeet_4 : decode cX5_gatherFeet 4 = .ok (.invokevirtual 136, 3) := by decide +kernel
theorem dX5_gatherFeet_7 : decode cX5_gatherFeet 7 = .ok (.iconst 0, 1) := by decide +kernel
theorem dX5_gatherFeet_8 : decode cX5_gatherFeet 8 = .ok (.istore_n 2, 1) := by decide +kernel
theorem dX5_gatherFeet_9 : decode cX5_gatherFeet 9 = .ok (.iload_n 2, 1) := by decide +kernel
theorem dX5_gatherFeet_10 : decode cX5_gatherFeet 10 = .ok (.aload_n 0, 1) := by decide +kernel
theorem dX5_gatherFeet_11 : decode cX5_gatherFeet 11 = .ok (.getfield 12, 3) := by decide +kernel
theorem dX5_gatherFeet_14 : decode cX5_gatherFeet 14 = .ok (.getfield 51, 3) := by decide +kernel
theorem dX5_gatherFeet_17 : decode cX5_gatherFeet 17 = .ok (.if_icmp .ge 63, 3) := by decide +kernel
theorem dX5_gatherFeet_20 : decode cX5_gatherFeet 20 = .ok (.aload_n 0, 1) := by decide +kernel
theorem dX5_gatherFeet_21 : decode cX5_gatherFeet 21 = .ok (.getfield 12, 3) := by decide +kernel
theorem dX5_gatherFeet_24 : decode cX5_gatherFeet 24 = .ok (.iload_n 2, 1) := by decide +kernel
theorem dX5_gatherFeet_25 : decode cX5_gatherFeet 25 = .ok (.iload_n 1, 1) := by decide +kernel
theorem dX5_gatherFeet_26 : decode cX5_gatherFeet 26 = .ok (.invokevirtual 77, 3) := by decide +kernel
theorem dX5_gatherFeet_29 : decode cX5_gatherFeet 29 = .ok (.ifCond .eq 45, 3) := by decide +kernel
theorem dX5_gatherFeet_32 : decode cX5_gatherFeet 32 = .ok (.aload_n 0, 1) := by decide +kernel
theorem dX5_gatherFeet_33 : decode cX5_gatherFeet 33 = .ok (.getfield 36, 3) := by decide +kernel
theorem dX5_gatherFeet_36 : decode cX5_gatherFeet 36 = .ok (.aload_n 0, 1) := by decide +kernel
theorem dX5_gatherFeet_37 : decode cX5_gatherFeet 37 = .ok (.getfield 12, 3) := by decide +kernel
theorem dX5_gatherFeet_40 : decode cX5_gatherFeet 40 = .ok (.getfield 139, 3) := by decide +kernel
theorem dX5_gatherFeet_43 : decode cX5_gatherFeet 43 = .ok (.iload_n 2, 1) := by decide +kernel
theorem dX5_gatherFeet_44 : decode cX5_gatherFeet 44 = .ok (.invokevirtual 70, 3) := by decide +kernel
theorem dX5_gatherFeet_47 : decode cX5_gatherFeet 47 = .ok (.aload_n 0, 1) := by decide +kernel
theorem dX5_gatherFeet_48 : decode cX5_gatherFeet 48 = .ok (.getfield 12, 3) := by decide +kernel
theorem dX5_gatherFeet_51 : decode cX5_gatherFeet 51 = .ok (.getfield 142, 3) := by decide +kernel
theorem dX5_gatherFeet_54 : decode cX5_gatherFeet 54 = .ok (.isub, 1) := by decide +kernel
theorem dX5_gatherFeet_55 : decode cX5_gatherFeet 55 = .ok (.aload_n 0, 1) := by decide +kernel
theorem dX5_gatherFeet_56 : decode cX5_gatherFeet 56 = .ok (.iload_n 2, 1) := by decide +kernel
theorem dX5_gatherFeet_57 : decode cX5_gatherFeet 57 = .ok (.iload_n 1, 1) := by decide +kernel
theorem dX5_gatherFeet_58 : decode cX5_gatherFeet 58 = .ok (.invokevirtual 170, 3) := by decide +kernel
theorem dX5_gatherFeet_61 : decode cX5_gatherFeet 61 = .ok (.iconst 2, 1) := by decide +kernel
theorem dX5_gatherFeet_62 : decode cX5_gatherFeet 62 = .ok (.aload_n 0, 1) := by decide +kernel
theorem dX5_gatherFeet_63 : decode cX5_gatherFeet 63 = .ok (.getfield 12, 3) := by decide +kernel
theorem dX5_gatherFeet_66 : decode cX5_gatherFeet 66 = .ok (.getfield 145, 3) := by decide +kernel
theorem dX5_gatherFeet_69 : decode cX5_gatherFeet 69 = .ok (.imul, 1) := by decide +kernel
theorem dX5_gatherFeet_70 : decode cX5_gatherFeet 70 = .ok (.isub, 1) := by decide +kernel
theorem dX5_gatherFeet_71 : decode cX5_gatherFeet 71 = .ok (.invokevirtual 148, 3) := by decide +kernel
theorem dX5_gatherFeet_74 : decode cX5_gatherFeet 74 = .ok (.iinc 2 1, 3) := by decide +kernel
theorem dX5_gatherFeet_77 : decode cX5_gatherFeet 77 = .ok (.goto (-68), 3) := by decide +kernel
theorem dX5_gatherFeet_80 : decode cX5_gatherFeet 80 = .ok (.return_, 1) := by decide +kernel
theorem dX5_fitsKind_0 : decode cX5_fitsKind 0 = .ok (.bipush 85, 2) := by decide +kernel
theorem dX5_fitsKind_2 : decode cX5_fitsKind 2 = .ok (.aload_n 0, 1) := by decide +kernel
theorem dX5_fitsKind_3 : decode cX5_fitsKind 3 = .ok (.getfield 12, 3) := by decide +kernel
theorem dX5_fitsKind_6 : decode cX5_fitsKind 6 = .ok (.invokevirtual 58, 3) := by decide +kernel
theorem dX5_fitsKind_9 : decode cX5_fitsKind 9 = .ok (.iconst 1, 1) := by decide +kernel
theorem dX5_fitsKind_10 : decode cX5_fitsKind 10 = .ok (.ishr, 1) := by decide +kernel
theorem dX5_fitsKind_11 : decode cX5_fitsKind 11 = .ok (.iand, 1) := by decide +kernel
theorem dX5_fitsKind_12 : decode cX5_fitsKind 12 = .ok (.istore_n 2, 1) := by decide +kernel
theorem dX5_fitsKind_13 : decode cX5_fitsKind 13 = .ok (.aload_n 0, 1) := by decide +kernel
theorem dX5_fitsKind_14 : decode cX5_fitsKind 14 = .ok (.getfield 12, 3) := by decide +kernel
theorem dX5_fitsKind_17 : decode cX5_fitsKind 17 = .ok (.getfield 117, 3) := by decide +kernel
theorem dX5_fitsKind_20 : decode cX5_fitsKind 20 = .ok (.iconst 2, 1) := by decide +kernel
theorem dX5_fitsKind_21 : decode cX5_fitsKind 21 = .ok (.if_icmp .ne 14, 3) := by decide +kernel
theorem dX5_fitsKind_24 : decode cX5_fitsKind 24 = .ok (.iload_n 1, 1) := by decide +kernel
theorem dX5_fitsKind_25 : decode cX5_fitsKind 25 = .ok (.iload_n 2, 1) := by decide +kernel
theorem dX5_fitsKind_26 : decode cX5_fitsKind 26 = .ok (.iand, 1) := by decide +kernel
theorem dX5_fitsKind_27 : decode cX5_fitsKind 27 = .ok (.iload_n 1, 1) := by decide +kernel
theorem dX5_fitsKind_28 : decode cX5_fitsKind 28 = .ok (.iconst 1, 1) := by decide +kernel
theorem dX5_fitsKind_29 : decode cX5_fitsKind 29 = .ok (.ishr, 1) := by decide +kernel
theorem dX5_fitsKind_30 : decode cX5_fitsKind 30 = .ok (.iload_n 2, 1) := by decide +kernel
theorem dX5_fitsKind_31 : decode cX5_fitsKind 31 = .ok (.iand, 1) := by decide +kernel
theorem dX5_fitsKind_32 : decode cX5_fitsKind 32 = .ok (.if_icmp .ne 7, 3) := by decide +kernel
theorem dX5_fitsKind_35 : decode cX5_fitsKind 35 = .ok (.iconst 1, 1) := by decide +kernel
theorem dX5_fitsKind_36 : decode cX5_fitsKind 36 = .ok (.goto 4, 3) := by decide +kernel
theorem dX5_fitsKind_39 : decode cX5_fitsKind 39 = .ok (.iconst 0, 1) := by decide +kernel
theorem dX5_fitsKind_40 : decode cX5_fitsKind 40 = .ok (.ireturn, 1) := by decide +kernel
theorem dX5_isShortHop_0 : decode cX5_isShortHop 0 = .ok (.iconst 1, 1) := by decide +kernel
theorem dX5_isShortHop_1 : decode cX5_isShortHop 1 = .ok (.istore_n 2, 1) := by decide +kernel
theorem dX5_isShortHop_2 : decode cX5_isShortHop 2 = .ok (.aload_n 0, 1) := by decide +kernel
theorem dX5_isShortHop_3 : decode cX5_isShortHop 3 = .ok (.getfield 12, 3) := by decide +kernel
theorem dX5_isShortHop_6 : decode cX5_isShortHop 6 = .ok (.iload_n 1, 1) := by decide +kernel
theorem dX5_isShortHop_7 : decode cX5_isShortHop 7 = .ok (.invokevirtual 81, 3) := by decide +kernel
theorem dX5_isShortHop_10 : decode cX5_isShortHop 10 = .ok (.istore_n 3, 1) := by decide +kernel
theorem dX5_isShortHop_11 : decode cX5_isShortHop 11 = .ok (.iconst 1, 1) := by decide +kernel
theorem dX5_isShortHop_12 : decode cX5_isShortHop 12 = .ok (.istore 4, 2) := by decide +kernel
theorem dX5_isShortHop_14 : decode cX5_isShortHop 14 = .ok (.iload 4, 2) := by decide +kernel
theorem dX5_isShortHop_16 : decode cX5_isShortHop 16 = .ok (.aload_n 0, 1) := by decide +kernel
theorem dX5_isShortHop_17 : decode cX5_isShortHop 17 = .ok (.getfield 12, 3) := by decide +kernel
theorem dX5_isShortHop_20 : decode cX5_isShortHop 20 = .ok (.getfield 74, 3) := by decide +kernel
theorem dX5_isShortHop_23 : decode cX5_isShortHop 23 = .ok (.if_icmp .ge 35, 3) := by decide +kernel
theorem dX5_isShortHop_26 : decode cX5_isShortHop 26 = .ok (.aload_n 0, 1) := by decide +kernel
theorem dX5_isShortHop_27 : decode cX5_isShortHop 27 = .ok (.getfield 12, 3) := by decide +kernel
theorem dX5_isShortHop_30 : decode cX5_isShortHop 30 = .ok (.getfield 114, 3) := by decide +kernel
theorem dX5_isShortHop_33 : decode cX5_isShortHop 33 = .ok (.iload_n 3, 1) := by decide +kernel
theorem dX5_isShortHop_34 : decode cX5_isShortHop 34 = .ok (.invokevirtual 70, 3) := by decide +kernel
theorem dX5_isShortHop_37 : decode cX5_isShortHop 37 = .ok (.ifCond .ne 21, 3) := by decide +kernel
theorem dX5_isShortHop_40 : decode cX5_isShortHop 40 = .ok (.iinc 2 1, 3) := by decide +kernel
theorem dX5_isShortHop_43 : decode cX5_isShortHop 43 = .ok (.aload_n 0, 1) := by decide +kernel
theorem dX5_isShortHop_44 : decode cX5_isShortHop 44 = .ok (.getfield 12, 3) := by decide +kernel
theorem dX5_isShortHop_47 : decode cX5_isShortHop 47 = .ok (.iload_n 3, 1) := by decide +kernel
theorem dX5_isShortHop_48 : decode cX5_isShortHop 48 = .ok (.invokevirtual 81, 3) := by decide +kernel
theorem dX5_isShortHop_51 : decode cX5_isShortHop 51 = .ok (.istore_n 3, 1) := by decide +kernel
theorem dX5_isShortHop_52 : decode cX5_isShortHop 52 = .ok (.iinc 4 1, 3) := by decide +kernel
theorem dX5_isShortHop_55 : decode cX5_isShortHop 55 = .ok (.goto (-41), 3) := by decide +kernel
theorem dX5_isShortHop_58 : decode cX5_isShortHop 58 = .ok (.iload_n 2, 1) := by decide +kernel
theorem dX5_isShortHop_59 : decode cX5_isShortHop 59 = .ok (.aload_n 0, 1) := by decide +kernel
theorem dX5_isShortHop_60 : decode cX5_isShortHop 60 = .ok (.getfield 12, 3) := by decide +kernel
theorem dX5_isShortHop_63 : decode cX5_isShortHop 63 = .ok (.getfield 74, 3) := by decide +kernel
theorem dX5_isShortHop_66 : decode cX5_isShortHop 66 = .ok (.if_icmp .lt 5, 3) := by decide +kernel
theorem dX5_isShortHop_69 : decode cX5_isShortHop 69 = .ok (.iconst 0, 1) := by decide +kernel
theorem dX5_isShortHop_70 : decode cX5_isShortHop 70 = .ok (.ireturn, 1) := by decide +kernel
theorem dX5_isShortHop_71 : decode cX5_isShortHop 71 = .ok (.aload_n 0, 1) := by decide +kernel
theorem dX5_isShortHop_72 : decode cX5_isShortHop 72 = .ok (.getfield 12, 3) := by decide +kernel
theorem dX5_isShortHop_75 : decode cX5_isShortHop 75 = .ok (.iload_n 1, 1) := by decide +kernel
theorem dX5_isShortHop_76 : decode cX5_isShortHop 76 = .ok (.invokevirtual 87, 3) := by decide +kernel
theorem dX5_isShortHop_79 : decode cX5_isShortHop 79 = .ok (.istore_n 3, 1) := by decide +kernel
theorem dX5_isShortHop_80 : decode cX5_isShortHop 80 = .ok (.iconst 1, 1) := by decide +kernel
theorem dX5_isShortHop_81 : decode cX5_isShortHop 81 = .ok (.istore 4, 2) := by decide +kernel
theorem dX5_isShortHop_83 : decode cX5_isShortHop 83 = .ok (.iload 4, 2) := by decide +kernel
theorem dX5_isShortHop_85 : decode cX5_isShortHop 85 = .ok (.aload_n 0, 1) := by decide +kernel
theorem dX5_isShortHop_86 : decode cX5_isShortHop 86 = .ok (.getfield 12, 3) := by decide +kernel
theorem dX5_isShortHop_89 : decode cX5_isShortHop 89 = .ok (.getfield 74, 3) := by decide +kernel
theorem dX5_isShortHop_92 : decode cX5_isShortHop 92 = .ok (.if_icmp .ge 35, 3) := by decide +kernel
theorem dX5_isShortHop_95 : decode cX5_isShortHop 95 = .ok (.aload_n 0, 1) := by decide +kernel
theorem dX5_isShortHop_96 : decode cX5_isShortHop 96 = .ok (.getfield 12, 3) := by decide +kernel
theorem dX5_isShortHop_99 : decode cX5_isShortHop 99 = .ok (.getfield 114, 3) := by decide +kernel
theorem dX5_isShortHop_102 : decode cX5_isShortHop 102 = .ok (.iload_n 3, 1) := by decide +kernel
theorem dX5_isShortHop_103 : decode cX5_isShortHop 103 = .ok (.invokevirtual 70, 3) := by decide +kernel
theorem dX5_isShortHop_106 : decode cX5_isShortHop 106 = .ok (.ifCond .ne 21, 3) := by decide +kernel
theorem dX5_isShortHop_109 : decode cX5_isShortHop 109 = .ok (.iinc 2 1, 3) := by decide +kernel
theorem dX5_isShortHop_112 : decode cX5_isShortHop 112 = .ok (.aload_n 0, 1) := by decide +kernel
theorem dX5_isShortHop_113 : decode cX5_isShortHop 113 = .ok (.getfield 12, 3) := by decide +kernel
theorem dX5_isShortHop_116 : decode cX5_isShortHop 116 = .ok (.iload_n 3, 1) := by decide +kernel
theorem dX5_isShortHop_117 : decode cX5_isShortHop 117 = .ok (.invokevirtual 87, 3) := by decide +kernel
theorem dX5_isShortHop_120 : decode cX5_isShortHop 120 = .ok (.istore_n 3, 1) := by decide +kernel
theorem dX5_isShortHop_121 : decode cX5_isShortHop 121 = .ok (.iinc 4 1, 3) := by decide +kernel
theorem dX5_isShortHop_124 : decode cX5_isShortHop 124 = .ok (.goto (-41), 3) := by decide +kernel
theorem dX5_isShortHop_127 : decode cX5_isShortHop 127 = .ok (.iload_n 2, 1) := by decide +kernel
theorem dX5_isShortHop_128 : decode cX5_isShortHop 128 = .ok (.iconst 2, 1) := by decide +kernel
theorem dX5_isShortHop_129 : decode cX5_isShortHop 129 = .ok (.if_icmp .gt 7, 3) := by decide +kernel
theorem dX5_isShortHop_132 : decode cX5_isShortHop 132 = .ok (.iconst 1, 1) := by decide +kernel
theorem dX5_isShortHop_133 : decode cX5_isShortHop 133 = .ok (.goto 4, 3) := by decide +kernel
theorem dX5_isShortHop_136 : decode cX5_isShortHop 136 = .ok (.iconst 0, 1) := by decide +kernel
theorem dX5_isShortHop_137 : decode cX5_isShortHop 137 = .ok (.ireturn, 1) := by decide +kernel
theorem dX6_init_0 : decode cX6_init 0 = .ok (.aload_n 0, 1) := by decide +kernel
theorem dX6_init_1 : decode cX6_init 1 = .ok (.invokespecial 3, 3) := by decide +kernel
theorem dX6_init_4 : decode cX6_init 4 = .ok (.aload_n 0, 1) := by decide +kernel
theorem dX6_init_5 : decode cX6_init 5 = .ok (.new 9, 3) := by decide +kernel
theorem dX6_init_8 : decode cX6_init 8 = .ok (.dup, 1) := by decide +kernel
theorem dX6_init_9 : decode cX6_init 9 = .ok (.bipush 8, 2) := by decide +kernel
theorem dX6_init_11 : decode cX6_init 11 = .ok (.invokespecial 11, 3) := by decide +kernel
theorem dX6_init_14 : decode cX6_init 14 = .ok (.putfield 14, 3) := by decide +kernel
theorem dX6_init_17 : decode cX6_init 17 = .ok (.aload_n 0, 1) := by decide +kernel
theorem dX6_init_18 : decode cX6_init 18 = .ok (.new 9, 3) := by decide +kernel
theorem dX6_init_21 : decode cX6_init 21 = .ok (.dup, 1) := by decide +kernel
theorem dX6_init_22 : decode cX6_init 22 = .ok (.bipush 8, 2) := by decide +kernel
theorem dX6_init_24 : decode cX6_init 24 = .ok (.invokespecial 11, 3) := by decide +kernel
theorem dX6_init_27 : decode cX6_init 27 = .ok (.putfield 20, 3) := by decide +kernel
theorem dX6_init_30 : decode cX6_init 30 = .ok (.aload_n 0, 1) := by decide +kernel
theorem dX6_init_31 : decode cX6_init 31 = .ok (.new 9, 3) := by decide +kernel
theorem dX6_init_34 : decode cX6_init 34 = .ok (.dup, 1) := by decide +kernel
theorem dX6_init_35 : decode cX6_init 35 = .ok (.bipush 16, 2) := by decide +kernel
theorem dX6_init_37 : decode cX6_init 37 = .ok (.invokespecial 11, 3) := by decide +kernel
theorem dX6_init_40 : decode cX6_init 40 = .ok (.putfield 23, 3) := by decide +kernel
theorem dX6_init_43 : decode cX6_init 43 = .ok (.return_, 1) := by decide +kernel
theorem dX6_makeAnew_0 : decode cX6_makeAnew 0 = .ok (.aload_n 0, 1) := by decide +kernel
theorem dX6_makeAnew_1 : decode cX6_makeAnew 1 = .ok (.iload_n 1, 1) := by decide +kernel
theorem dX6_makeAnew_2 : decode cX6_makeAnew 2 = .ok (.putfield 26, 3) := by decide +kernel
theorem dX6_makeAnew_5 : decode cX6_makeAnew 5 = .ok (.aload_n 0, 1) := by decide +kernel
theorem dX6_makeAnew_6 : decode cX6_makeAnew 6 = .ok (.iload_n 2, 1) := by decide +kernel
theorem dX6_makeAnew_7 : decode cX6_makeAnew 7 = .ok (.putfield 30, 3) := by decide +kernel
theorem dX6_makeAnew_10 : decode cX6_makeAnew 10 = .ok (.iconst 0, 1) := by decide +kernel
theorem dX6_makeAnew_11 : decode cX6_makeAnew 11 = .ok (.istore_n 3, 1) := by decide +kernel
theorem dX6_makeAnew_12 : decode cX6_makeAnew 12 = .ok (.iload_n 3, 1) := by decide +kernel
theorem dX6_makeAnew_13 : decode cX6_makeAnew 13 = .ok (.aload_n 0, 1) := by decide +kernel
theorem dX6_makeAnew_14 : decode cX6_makeAnew 14 = .ok (.getfield 26, 3) := by decide +kernel
theorem dX6_makeAnew_17 : decode cX6_makeAnew 17 = .ok (.if_icmp .ge 42, 3) := by decide +kernel
theorem dX6_makeAnew_20 : decode cX6_makeAnew 20 = .ok (.aload_n 0, 1) := by decide +kernel
theorem dX6_makeAnew_21 : decode cX6_makeAnew 21 = .ok (.getfield 14, 3) := by decide +kernel
theorem dX6_makeAnew_24 : decode cX6_makeAnew 24 = .ok (.iload_n 3, 1) := by decide +kernel
theorem dX6_makeAnew_25 : decode cX6_makeAnew 25 = .ok (.iload_n 3, 1) := by decide +kernel
theorem dX6_makeAnew_26 : decode cX6_makeAnew 26 = .ok (.iconst 1, 1) := by decide +kernel
theorem dX6_makeAnew_27 : decode cX6_makeAnew 27 = .ok (.iand, 1) := by decide +kernel
theorem dX6_makeAnew_28 : decode cX6_makeAnew 28 = .ok (.ifCond .ne 8, 3) := by decide +kernel
theorem dX6_makeAnew_31 : decode cX6_makeAnew 31 = .ok (.bipush (-3), 2) := by decide +kernel
theorem dX6_makeAnew_33 : decode cX6_makeAnew 33 = .ok (.goto 4, 3) := by decide +kernel
theorem dX6_makeAnew_36 : decode cX6_makeAnew 36 = .ok (.iconst 3, 1) := by decide +kernel
theorem dX6_makeAnew_37 : decode cX6_makeAnew 37 = .ok (.invokevirtual 33, 3) := by decide +kernel
theorem dX6_makeAnew_40 : decode cX6_makeAnew 40 = .ok (.aload_n 0, 1) := by decide +kernel
theorem dX6_makeAnew_41 : decode cX6_makeAnew 41 = .ok (.getfield 20, 3) := by decide +kernel
theorem dX6_makeAnew_44 : decode cX6_makeAnew 44 = .ok (.iload_n 3, 1) := by decide +kernel
theorem dX6_makeAnew_45 : decode cX6_makeAnew 45 = .ok (.iconst 4, 1) := by decide +kernel
theorem dX6_makeAnew_46 : decode cX6_makeAnew 46 = .ok (.iload_n 3, 1) := by decide +kernel
theorem dX6_makeAnew_47 : decode cX6_makeAnew 47 = .ok (.iconst 1, 1) := by decide +kernel
theorem dX6_makeAnew_48 : decode cX6_makeAnew 48 = .ok (.ishr, 1) := by decide +kernel
theorem dX6_makeAnew_49 : decode cX6_makeAnew 49 = .ok (.imul, 1) := by decide +kernel
theorem dX6_makeAnew_50 : decode cX6_makeAnew 50 = .ok (.invokevirtual 33, 3) := by decide +kernel
theorem dX6_makeAnew_53 : decode cX6_makeAnew 53 = .ok (.iinc 3 1, 3) := by decide +kernel
theorem dX6_makeAnew_56 : decode cX6_makeAnew 56 = .ok (.goto (-44), 3) := by decide +kernel
theorem dX6_makeAnew_59 : decode cX6_makeAnew 59 = .ok (.aload_n 0, 1) := by decide +kernel
theorem dX6_makeAnew_60 : decode cX6_makeAnew 60 = .ok (.iconst 0, 1) := by decide +kernel
theorem dX6_makeAnew_61 : decode cX6_makeAnew 61 = .ok (.putfield 37, 3) := by decide +kernel
theorem dX6_makeAnew_64 : decode cX6_makeAnew 64 = .ok (.aload_n 0, 1) := by decide +kernel
theorem dX6_makeAnew_65 : decode cX6_makeAnew 65 = .ok (.iconst 2, 1) := by decide +kernel
theorem dX6_makeAnew_66 : decode cX6_makeAnew 66 = .ok (.iload_n 1, 1) := by decide +kernel
theorem dX6_makeAnew_67 : decode cX6_makeAnew 67 = .ok (.iconst 1, 1) := by decide +kernel
theorem dX6_makeAnew_68 : decode cX6_makeAnew 68 = .ok (.iadd, 1) := by decide +kernel
theorem dX6_makeAnew_69 : decode cX6_makeAnew 69 = .ok (.iconst 1, 1) := by decide +kernel
theorem dX6_makeAnew_70 : decode cX6_makeAnew 70 = .ok (.ishr, 1) := by decide +kernel
theorem dX6_makeAnew_71 : decode cX6_makeAnew 71 = .ok (.iconst 1, 1) := by decide +kernel
theorem dX6_makeAnew_72 : decode cX6_makeAnew 72 = .ok (.isub, 1) := by decide +kernel
theorem dX6_makeAnew_73 : decode cX6_makeAnew 73 = .ok (.imul, 1) := by decide +kernel
theorem dX6_makeAnew_74 : decode cX6_makeAnew 74 = .ok (.putfield 40, 3) := by decide +kernel
theorem dX6_makeAnew_77 : decode cX6_makeAnew 77 = .ok (.aload_n 0, 1) := by decide +kernel
theorem dX6_makeAnew_78 : decode cX6_makeAnew 78 = .ok (.iconst 0, 1) := by decide +kernel
theorem dX6_makeAnew_79 : decode cX6_makeAnew 79 = .ok (.putfield 43, 3) := by decide +kernel
theorem dX6_makeAnew_82 : decode cX6_makeAnew 82 = .ok (.aload_n 0, 1) := by decide +kernel
theorem dX6_makeAnew_83 : decode cX6_makeAnew 83 = .ok (.bipush 10, 2) := by decide +kernel
theorem dX6_makeAnew_85 : decode cX6_makeAnew 85 = .ok (.putfield 46, 3) := by decide +kernel
theorem dX6_makeAnew_88 : decode cX6_makeAnew 88 = .ok (.aload_n 0, 1) := by decide +kernel
theorem dX6_makeAnew_89 : decode cX6_makeAnew 89 = .ok (.iconst 1, 1) := by decide +kernel
theorem dX6_makeAnew_90 : decode cX6_makeAnew 90 = .ok (.putfield 49, 3) := by decide +kernel
theorem dX6_makeAnew_93 : decode cX6_makeAnew 93 = .ok (.aload_n 0, 1) := by decide +kernel
theorem dX6_makeAnew_94 : decode cX6_makeAnew 94 = .ok (.getfield 23, 3) := by decide +kernel
theorem dX6_makeAnew_97 : decode cX6_makeAnew 97 = .ok (.iconst 0, 1) := by decide +kernel
theorem dX6_makeAnew_98 : decode cX6_makeAnew 98 = .ok (.aload_n 0, 1) := by decide +kernel
theorem dX6_makeAnew_99 : decode cX6_makeAnew 99 = .ok (.invokevirtual 52, 3) := by decide +kernel
theorem dX6_makeAnew_102 : decode cX6_makeAnew 102 = .ok (.invokevirtual 33, 3) := by decide +kernel
theorem dX6_makeAnew_105 : decode cX6_makeAnew 105 = .ok (.return_, 1) := by decide +kernel
theorem dX6_copyFrom_0 : decode cX6_copyFrom 0 = .ok (.aload_n 0, 1) := by decide +kernel
theorem dX6_copyFrom_1 : decode cX6_copyFrom 1 = .ok (.aload_n 1, 1) := by decide +kernel
theorem dX6_copyFrom_2 : decode cX6_copyFrom 2 = .ok (.getfield 26, 3) := by decide +kernel
theorem dX6_copyFrom_5 : decode cX6_copyFrom 5 = .ok (.putfield 26, 3) := by decide +kernel
theorem dX6_copyFrom_8 : decode cX6_copyFrom 8 = .ok (.aload_n 0, 1) := by decide +kernel
theorem dX6_copyFrom_9 : decode cX6_copyFrom 9 = .ok (.aload_n 1, 1) := by decide +kernel
theorem dX6_copyFrom_10 : decode cX6_copyFrom 10 = .ok (.getfield 30, 3) := by decide +kernel
theorem dX6_copyFrom_13 : decode cX6_copyFrom 13 = .ok (.putfield 30, 3) := by decide +kernel
theorem dX6_copyFrom_16 : decode cX6_copyFrom 16 = .ok (.aload_n 0, 1) := by decide +kernel
theorem dX6_copyFrom_17 : decode cX6_copyFrom 17 = .ok (.aload_n 1, 1) := by decide +kernel
theorem dX6_copyFrom_18 : decode cX6_copyFrom 18 = .ok (.getfield 37, 3) := by decide +kernel
theorem dX6_copyFrom_21 : decode cX6_copyFrom 21 = .ok (.putfield 37, 3) := by decide +kernel
theorem dX6_copyFrom_24 : decode cX6_copyFrom 24 = .ok (.aload_n 0, 1) := by decide +kernel
theorem dX6_copyFrom_25 : decode cX6_copyFrom 25 = .ok (.aload_n 1, 1) := by decide +kernel
theorem dX6_copyFrom_26 : decode cX6_copyFrom 26 = .ok (.getfield 40, 3) := by decide +kernel
theorem dX6_copyFrom_29 : decode cX6_copyFrom 29 = .ok (.putfield 40, 3) := by decide +kernel
theorem dX6_copyFrom_32 : decode cX6_copyFrom 32 = .ok (.aload_n 0, 1) := by decide +kernel
theorem dX6_copyFrom_33 : decode cX6_copyFrom 33 = .ok (.aload_n 1, 1) := by decide +kernel
theorem dX6_copyFrom_34 : decode cX6_copyFrom 34 = .ok (.getfield 43, 3) := by decide +kernel
theorem dX6_copyFrom_37 : decode cX6_copyFrom 37 = .ok (.putfield 43, 3) := by decide +kernel
theorem dX6_copyFrom_40 : decode cX6_copyFrom 40 = .ok (.aload_n 0, 1) := by decide +kernel
theorem dX6_copyFrom_41 : decode cX6_copyFrom 41 = .ok (.aload_n 1, 1) := by decide +kernel
theorem dX6_copyFrom_42 : decode cX6_copyFrom 42 = .ok (.getfield 46, 3) := by decide +kernel
theorem dX6_copyFrom_45 : decode cX6_copyFrom 45 = .ok (.putfield 46, 3) := by decide +kernel
theorem dX6_copyFrom_48 : decode cX6_copyFrom 48 = .ok (.aload_n 0, 1) := by decide +kernel
theorem dX6_copyFrom_49 : decode cX6_copyFrom 49 = .ok (.aload_n 1, 1) := by decide +kernel
theorem dX6_copyFrom_50 : decode cX6_copyFrom 50 = .ok (.getfield 49, 3) := by decide +kernel
theorem dX6_copyFrom_53 : decode cX6_copyFrom 53 = .ok (.putfield 49, 3) := by decide +kernel
theorem dX6_copyFrom_56 : decode cX6_copyFrom 56 = .ok (.aload_n 0, 1) := by decide +kernel
theorem dX6_copyFrom_57 : decode cX6_copyFrom 57 = .ok (.getfield 14, 3) := by decide +kernel
theorem dX6_copyFrom_60 : decode cX6_copyFrom 60 = .ok (.aload_n 1, 1) := by decide +kernel
theorem dX6_copyFrom_61 : decode cX6_copyFrom 61 = .ok (.getfield 14, 3) := by decide +kernel
theorem dX6_copyFrom_64 : decode cX6_copyFrom 64 = .ok (.invokevirtual 56, 3) := by decide +kernel
theorem dX6_copyFrom_67 : decode cX6_copyFrom 67 = .ok (.aload_n 0, 1) := by decide +kernel
theorem dX6_copyFrom_68 : decode cX6_copyFrom 68 = .ok (.getfield 20, 3) := by decide +kernel
theorem dX6_copyFrom_71 : decode cX6_copyFrom 71 = .ok (.aload_n 1, 1) := by decide +kernel
theorem dX6_copyFrom_72 : decode cX6_copyFrom 72 = .ok (.getfield 20, 3) := by decide +kernel
theorem dX6_copyFrom_75 : decode cX6_copyFrom 75 = .ok (.invokevirtual 56, 3) := by decide +kernel
theorem dX6_copyFrom_78 : decode cX6_copyFrom 78 = .ok (.aload_n 0, 1) := by decide +kernel
theorem dX6_copyFrom_79 : decode cX6_copyFrom 79 = .ok (.getfield 23, 3) := by decide +kernel
theorem dX6_copyFrom_82 : decode cX6_copyFrom 82 = .ok (.aload_n 1, 1) := by decide +kernel
theorem dX6_copyFrom_83 : decode cX6_copyFrom 83 = .ok (.getfield 23, 3) := by decide +kernel
theorem dX6_copyFrom_86 : decode cX6_copyFrom 86 = .ok (.invokevirtual 56, 3) := by decide +kernel
theorem dX6_copyFrom_89 : decode cX6_copyFrom 89 = .ok (.return_, 1) := by decide +kernel
theorem dX6_hasLeg_0 : decode cX6_hasLeg 0 = .ok (.iload_n 1, 1) := by decide +kernel
theorem dX6_hasLeg_1 : decode cX6_hasLeg 1 = .ok (.ifCond .lt 15, 3) := by decide +kernel
theorem dX6_hasLeg_4 : decode cX6_hasLeg 4 = .ok (.iload_n 1, 1) := by decide +kernel
theorem dX6_hasLeg_5 : decode cX6_hasLeg 5 = .ok (.aload_n 0, 1) := by decide +kernel
theorem dX6_hasLeg_6 : decode cX6_hasLeg 6 = .ok (.getfield 26, 3) := by decide +kernel
theorem dX6_hasLeg_9 : decode cX6_hasLeg 9 = .ok (.if_icmp .ge 7, 3) := by decide +kernel
theorem dX6_hasLeg_12 : decode cX6_hasLeg 12 = .ok (.iconst 1, 1) := by decide +kernel
theorem dX6_hasLeg_13 : decode cX6_hasLeg 13 = .ok (.goto 4, 3) := by decide +kernel
theorem dX6_hasLeg_16 : decode cX6_hasLeg 16 = .ok (.iconst 0, 1) := by decide +kernel
theorem dX6_hasLeg_17 : decode cX6_hasLeg 17 = .ok (.ireturn, 1) := by decide +kernel
theorem dX6_hasTick_0 : decode cX6_hasTick 0 = .ok (.iload_n 1, 1) := by decide +kernel
theorem dX6_hasTick_1 : decode cX6_hasTick 1 = .ok (.ifCond .lt 15, 3) := by decide +kernel
theorem dX6_hasTick_4 : decode cX6_hasTick 4 = .ok (.iload_n 1, 1) := by decide +kernel
theorem dX6_hasTick_5 : decode cX6_hasTick 5 = .ok (.aload_n 0, 1) := by decide +kernel
theorem dX6_hasTick_6 : decode cX6_hasTick 6 = .ok (.getfield 49, 3) := by decide +kernel
theorem dX6_hasTick_9 : decode cX6_hasTick 9 = .ok (.if_icmp .ge 7, 3) := by decide +kernel
theorem dX6_hasTick_12 : decode cX6_hasTick 12 = .ok (.iconst 1, 1) := by decide +kernel
theorem dX6_hasTick_13 : decode cX6_hasTick 13 = .ok (.goto 4, 3) := by decide +kernel
theorem dX6_hasTick_16 : decode cX6_hasTick 16 = .ok (.iconst 0, 1) := by decide +kernel
theorem dX6_hasTick_17 : decode cX6_hasTick 17 = .ok (.ireturn, 1) := by decide +kernel
theorem dX6_hasSet_0 : decode cX6_hasSet 0 = .ok (.iload_n 1, 1) := by decide +kernel
theorem dX6_hasSet_1 : decode cX6_hasSet 1 = .ok (.ifCond .lt 15, 3) := by decide +kernel
theorem dX6_hasSet_4 : decode cX6_hasSet 4 = .ok (.iload_n 1, 1) := by decide +kernel
theorem dX6_hasSet_5 : decode cX6_hasSet 5 = .ok (.aload_n 0, 1) := by decide +kernel
theorem dX6_hasSet_6 : decode cX6_hasSet 6 = .ok (.invokevirtual 52, 3) := by decide +kernel
theorem dX6_hasSet_9 : decode cX6_hasSet 9 = .ok (.if_icmp .gt 7, 3) := by decide +kernel
theorem dX6_hasSet_12 : decode cX6_hasSet 12 = .ok (.iconst 1, 1) := by decide +kernel
theorem dX6_hasSet_13 : decode cX6_hasSet 13 = .ok (.goto 4, 3) := by decide +kernel
theorem dX6_hasSet_16 : decode cX6_hasSet 16 = .ok (.iconst 0, 1) := by decide +kernel
theorem dX6_hasSet_17 : decode cX6_hasSet 17 = .ok (.ireturn, 1) := by decide +kernel
theorem dX6_fullSet_0 : decode cX6_fullSet 0 = .ok (.iconst 1, 1) := by decide +kernel
theorem dX6_fullSet_1 : decode cX6_fullSet 1 = .ok (.aload_n 0, 1) := by decide +kernel
theorem dX6_fullSet_2 : decode cX6_fullSet 2 = .ok (.getfield 26, 3) := by decide +kernel
theorem dX6_fullSet_5 : decode cX6_fullSet 5 = .ok (.ishl, 1) := by decide +kernel
theorem dX6_fullSet_6 : decode cX6_fullSet 6 = .ok (.iconst 1, 1) := by decide +kernel
theorem dX6_fullSet_7 : decode cX6_fullSet 7 = .ok (.isub, 1) := by decide +kernel
theorem dX6_fullSet_8 : decode cX6_fullSet 8 = .ok (.ireturn, 1) := by decide +kernel
theorem dX6_isDown_0 : decode cX6_isDown 0 = .ok (.aload_n 0, 1) := by decide +kernel
theorem dX6_isDown_1 : decode cX6_isDown 1 = .ok (.getfield 23, 3) := by decide +kernel
theorem dX6_isDown_4 : decode cX6_isDown 4 = .ok (.iload_n 2, 1) := by decide +kernel
theorem dX6_isDown_5 : decode cX6_isDown 5 = .ok (.invokevirtual 60, 3) := by decide +kernel
theorem dX6_isDown_8 : decode cX6_isDown 8 = .ok (.iload_n 1, 1) := by decide +kernel
theorem dX6_isDown_9 : decode cX6_isDown 9 = .ok (.ishr, 1) := by decide +kernel
theorem dX6_isDown_10 : decode cX6_isDown 10 = .ok (.iconst 1, 1) := by decide +kernel
theorem dX6_isDown_11 : decode cX6_isDown 11 = .ok (.iand, 1) := by decide +kernel
theorem dX6_isDown_12 : decode cX6_isDown 12 = .ok (.iconst 1, 1) := by decide +kernel
theorem dX6_isDown_13 : decode cX6_isDown 13 = .ok (.if_icmp .ne 7, 3) := by decide +kernel
theorem dX6_isDown_16 : decode cX6_isDown 16 = .ok (.iconst 1, 1) := by decide +kernel
theorem dX6_isDown_17 : decode cX6_isDown 17 = .ok (.goto 4, 3) := by decide +kernel
theorem dX6_isDown_20 : decode cX6_isDown 20 = .ok (.iconst 0, 1) := by decide +kernel
theorem dX6_isDown_21 : decode cX6_isDown 21 = .ok (.ireturn, 1) := by decide +kernel
theorem dX6_tickAfter_0 : decode cX6_tickAfter 0 = .ok (.iload_n 1, 1) := by decide +kernel
theorem dX6_tickAfter_1 : decode cX6_tickAfter 1 = .ok (.iconst 1, 1) := by decide +kernel
theorem dX6_tickAfter_2 : decode cX6_tickAfter 2 = .ok (.iadd, 1) := by decide +kernel
theorem dX6_tickAfter_3 : decode cX6_tickAfter 3 = .ok (.aload_n 0, 1) := by decide +kernel
theorem dX6_tickAfter_4 : decode cX6_tickAfter 4 = .ok (.getfield 49, 3) := by decide +kernel
theorem dX6_tickAfter_7 : decode cX6_tickAfter 7 = .ok (.if_icmp .ge 9, 3) := by decide +kernel
theorem dX6_tickAfter_10 : decode cX6_tickAfter 10 = .ok (.iload_n 1, 1) := by decide +kernel
theorem dX6_tickAfter_11 : decode cX6_tickAfter 11 = .ok (.iconst 1, 1) := by decide +kernel
theorem dX6_tickAfter_12 : decode cX6_tickAfter 12 = .ok (.iadd, 1) := by decide +kernel
theorem dX6_tickAfter_13 : decode cX6_tickAfter 13 = .ok (.goto 4, 3) := by decide +kernel
theorem dX6_tickAfter_16 : decode cX6_tickAfter 16 = .ok (.iconst 0, 1) := by decide +kernel
theorem dX6_tickAfter_17 : decode cX6_tickAfter 17 = .ok (.ireturn, 1) := by decide +kernel
theorem dX6_tickAhead_0 : decode cX6_tickAhead 0 = .ok (.iload_n 1, 1) := by decide +kernel
theorem dX6_tickAhead_1 : decode cX6_tickAhead 1 = .ok (.ifCond .le 9, 3) := by decide +kernel
theorem dX6_tickAhead_4 : decode cX6_tickAhead 4 = .ok (.iload_n 1, 1) := by decide +kernel
theorem dX6_tickAhead_5 : decode cX6_tickAhead 5 = .ok (.iconst 1, 1) := by decide +kernel
theorem dX6_tickAhead_6 : decode cX6_tickAhead 6 = .ok (.isub, 1) := by decide +kernel
theorem dX6_tickAhead_7 : decode cX6_tickAhead 7 = .ok (.goto 9, 3) := by decide +kernel
theorem dX6_tickAhead_10 : decode cX6_tickAhead 10 = .ok (.aload_n 0, 1) := by decide +kernel
theorem dX6_tickAhead_11 : decode cX6_tickAhead 11 = .ok (.getfield 49, 3) := by decide +kernel
theorem dX6_tickAhead_14 : decode cX6_tickAhead 14 = .ok (.iconst 1, 1) := by decide +kernel
theorem dX6_tickAhead_15 : decode cX6_tickAhead 15 = .ok (.isub, 1) := by decide +kernel
theorem dX6_tickAhead_16 : decode cX6_tickAhead 16 = .ok (.ireturn, 1) := by decide +kernel
theorem dX6_legAt_0 : decode cX6_legAt 0 = .ok (.iconst 0, 1) := by decide +kernel
theorem dX6_legAt_1 : decode cX6_legAt 1 = .ok (.istore_n 3, 1) := by decide +kernel
theorem dX6_legAt_2 : decode cX6_legAt 2 = .ok (.iload_n 3, 1) := by decide +kernel
theorem dX6_legAt_3 : decode cX6_legAt 3 = .ok (.aload_n 0, 1) := by decide +kernel
theorem dX6_legAt_4 : decode cX6_legAt 4 = .ok (.getfield 26, 3) := by decide +kernel
theorem dX6_legAt_7 : decode cX6_legAt 7 = .ok (.if_icmp .ge 35, 3) := by decide +kernel
theorem dX6_legAt_10 : decode cX6_legAt 10 = .ok (.aload_n 0, 1) := by decide +kernel
theorem dX6_legAt_11 : decode cX6_legAt 11 = .ok (.getfield 14, 3) := by decide +kernel
theorem dX6_legAt_14 : decode cX6_legAt 14 = .ok (.iload_n 3, 1) := by decide +kernel
theorem dX6_legAt_15 : decode cX6_legAt 15 = .ok (.invokevirtual 60, 3) := by decide +kernel
theorem dX6_legAt_18 : decode cX6_legAt 18 = .ok (.iload_n 1, 1) := by decide +kernel
theorem dX6_legAt_19 : decode cX6_legAt 19 = .ok (.if_icmp .ne 17, 3) := by decide +kernel
theorem dX6_legAt_22 : decode cX6_legAt 22 = .ok (.aload_n 0, 1) := by decide +kernel
theorem dX6_legAt_23 : decode cX6_legAt 23 = .ok (.getfield 20, 3) := by decide +kernel
theorem dX6_legAt_26 : decode cX6_legAt 26 = .ok (.iload_n 3, 1) := by decide +kernel
theorem dX6_legAt_27 : decode cX6_legAt 27 = .ok (.invokevirtual 60, 3) := by decide +kernel
theorem dX6_legAt_30 : decode cX6_legAt 30 = .ok (.iload_n 2, 1) := by decide +kernel
theorem dX6_legAt_31 : decode cX6_legAt 31 = .ok (.if_icmp .ne 5, 3) := by decide +kernel
theorem dX6_legAt_34 : decode cX6_legAt 34 = .ok (.iload_n 3, 1) := by decide +kernel
theorem dX6_legAt_35 : decode cX6_legAt 35 = .ok (.ireturn, 1) := by decide +kernel
theorem dX6_legAt_36 : decode cX6_legAt 36 = .ok (.iinc 3 1, 3) := by decide +kernel
theorem dX6_legAt_39 : decode cX6_legAt 39 = .ok (.goto (-37), 3) := by decide +kernel
theorem dX6_legAt_42 : decode cX6_legAt 42 = .ok (.iconst (-1), 1) := by decide +kernel
theorem dX6_legAt_43 : decode cX6_legAt 43 = .ok (.ireturn, 1) := by decide +kernel
theorem dX6_twinOf_0 : decode cX6_twinOf 0 = .ok (.aload_n 0, 1) := by decide +kernel
theorem dX6_twinOf_1 : decode cX6_twinOf 1 = .ok (.aload_n 0, 1) := by decide +kernel
theorem dX6_twinOf_2 : decode cX6_twinOf 2 = .ok (.getfield 14, 3) := by decide +kernel
theorem dX6_twinOf_5 : decode cX6_twinOf 5 = .ok (.iload_n 1, 1) := by decide +kernel
theorem dX6_twinOf_6 : decode cX6_twinOf 6 = .ok (.invokevirtual 60, 3) := by decide +kernel
theorem dX6_twinOf_9 : decode cX6_twinOf 9 = .ok (.ineg, 1) := by decide +kernel
theorem dX6_twinOf_10 : decode cX6_twinOf 10 = .ok (.aload_n 0, 1) := by decide +kernel
theorem dX6_twinOf_11 : decode cX6_twinOf 11 = .ok (.getfield 20, 3) := by decide +kernel
theorem dX6_twinOf_14 : decode cX6_twinOf 14 = .ok (.iload_n 1, 1) := by decide +kernel
theorem dX6_twinOf_15 : decode cX6_twinOf 15 = .ok (.invokevirtual 60, 3) := by decide +kernel
theorem dX6_twinOf_18 : decode cX6_twinOf 18 = .ok (.invokevirtual 64, 3) := by decide +kernel
theorem dX6_twinOf_21 : decode cX6_twinOf 21 = .ok (.ireturn, 1) := by decide +kernel
theorem dX6_isMirrored_0 : decode cX6_isMirrored 0 = .ok (.iconst 0, 1) := by decide +kernel
theorem dX6_isMirrored_1 : decode cX6_isMirrored 1 = .ok (.istore_n 1, 1) := by decide +kernel
theorem dX6_isMirrored_2 : decode cX6_isMirrored 2 = .ok (.iload_n 1, 1) := by decide +kernel
theorem dX6_isMirrored_3 : decode cX6_isMirrored 3 = .ok (.aload_n 0, 1) := by decide +kernel
theorem dX6_isMirrored_4 : decode cX6_isMirrored 4 = .ok (.getfield 26, 3) := by decide +kernel
theorem dX6_isMirrored_7 : decode cX6_isMirrored 7 = .ok (.if_icmp .ge 20, 3) := by decide +kernel
theorem dX6_isMirrored_10 : decode cX6_isMirrored 10 = .ok (.aload_n 0, 1) := by decide +kernel
theorem dX6_isMirrored_11 : decode cX6_isMirrored 11 = .ok (.iload_n 1, 1) := by decide +kernel
theorem dX6_isMirrored_12 : decode cX6_isMirrored 12 = .ok (.invokevirtual 68, 3) := by decide +kernel
theorem dX6_isMirrored_15 : decode cX6_isMirrored 15 = .ok (.iconst (-1), 1) := by decide +kernel
theorem dX6_isMirrored_16 : decode cX6_isMirrored 16 = .ok (.if_icmp .ne 5, 3) := by decide +kernel
theorem dX6_isMirrored_19 : decode cX6_isMirrored 19 = .ok (.iconst 0, 1) := by decide +kernel
theorem dX6_isMirrored_20 : decode cX6_isMirrored 20 = .ok (.ireturn, 1) := by decide +kernel
theorem dX6_isMirrored_21 : decode cX6_isMirrored 21 = .ok (.iinc 1 1, 3) := by decide +kernel
theorem dX6_isMirrored_24 : decode cX6_isMirrored 24 = .ok (.goto (-22), 3) := by decide +kernel
theorem dX6_isMirrored_27 : decode cX6_isMirrored 27 = .ok (.aload_n 0, 1) := by decide +kernel
theorem dX6_isMirrored_28 : decode cX6_isMirrored 28 = .ok (.getfield 37, 3) := by decide +kernel
theorem dX6_isMirrored_31 : decode cX6_isMirrored 31 = .ok (.ifCond .ne 7, 3) := by decide +kernel
theorem dX6_isMirrored_34 : decode cX6_isMirrored 34 = .ok (.iconst 1, 1) := by decide +kernel
theorem dX6_isMirrored_35 : decode cX6_isMirrored 35 = .ok (.goto 4, 3) := by decide +kernel
theorem dX6_isMirrored_38 : decode cX6_isMirrored 38 = .ok (.iconst 0, 1) := by decide +kernel
theorem dX6_isMirrored_39 : decode cX6_isMirrored 39 = .ok (.ireturn, 1) := by decide +kernel
theorem dX6_hasGaitOf_0 : decode cX6_hasGaitOf 0 = .ok (.iconst 0, 1) := by decide +kernel
theorem dX6_hasGaitOf_1 : decode cX6_hasGaitOf 1 = .ok (.istore_n 2, 1) := by decide +kernel
theorem dX6_hasGaitOf_2 : decode cX6_hasGaitOf 2 = .ok (.iload_n 2, 1) := by decide +kernel
theorem dX6_hasGaitOf_3 : decode cX6_hasGaitOf 3 = .ok (.aload_n 0, 1) := by decide +kernel
theorem dX6_hasGaitOf_4 : decode cX6_hasGaitOf 4 = .ok (.getfield 49, 3) := by decide +kernel
theorem dX6_hasGaitOf_7 : decode cX6_hasGaitOf 7 = .ok (.if_icmp .ge 30, 3) := by decide +kernel
theorem dX6_hasGaitOf_10 : decode cX6_hasGaitOf 10 = .ok (.aload_n 0, 1) := by decide +kernel
theorem dX6_hasGaitOf_11 : decode cX6_hasGaitOf 11 = .ok (.getfield 23, 3) := by decide +kernel
theorem dX6_hasGaitOf_14 : decode cX6_hasGaitOf 14 = .ok (.iload_n 2, 1) := by decide +kernel
theorem dX6_hasGaitOf_15 : decode cX6_hasGaitOf 15 = .ok (.invokevirtual 60, 3) := by decide +kernel
theorem dX6_hasGaitOf_18 : decode cX6_hasGaitOf 18 = .ok (.aload_n 1, 1) := by decide +kernel
theorem dX6_hasGaitOf_19 : decode cX6_hasGaitOf 19 = .ok (.getfield 23, 3) := by decide +kernel
theorem dX6_hasGaitOf_22 : decode cX6_hasGaitOf 22 = .ok (.iload_n 2, 1) := by decide +kernel
theorem dX6_hasGaitOf_23 : decode cX6_hasGaitOf 23 = .ok (.invokevirtual 60, 3) := by decide +kernel
theorem dX6_hasGaitOf_26 : decode cX6_hasGaitOf 26 = .ok (.if_icmp .eq 5, 3) := by decide +kernel
theorem dX6_hasGaitOf_29 : decode cX6_hasGaitOf 29 = .ok (.iconst 0, 1) := by decide +kernel
theorem dX6_hasGaitOf_30 : decode cX6_hasGaitOf 30 = .ok (.ireturn, 1) := by decide +kernel
theorem dX6_hasGaitOf_31 : decode cX6_hasGaitOf 31 = .ok (.iinc 2 1, 3) := by decide +kernel
theorem dX6_hasGaitOf_34 : decode cX6_hasGaitOf 34 = .ok (.goto (-32), 3) := by decide +kernel
theorem dX6_hasGaitOf_37 : decode cX6_hasGaitOf 37 = .ok (.aload_n 0, 1) := by decide +kernel
theorem dX6_hasGaitOf_38 : decode cX6_hasGaitOf 38 = .ok (.getfield 49, 3) := by decide +kernel
theorem dX6_hasGaitOf_41 : decode cX6_hasGaitOf 41 = .ok (.aload_n 1, 1) := by decide +kernel
theorem dX6_hasGaitOf_42 : decode cX6_hasGaitOf 42 = .ok (.getfield 49, 3) := by decide +kernel
theorem dX6_hasGaitOf_45 : decode cX6_hasGaitOf 45 = .ok (.if_icmp .ne 7, 3) := by decide +kernel
theorem dX6_hasGaitOf_48 : decode cX6_hasGaitOf 48 = .ok (.iconst 1, 1) := by decide +kernel
theorem dX6_hasGaitOf_49 : decode cX6_hasGaitOf 49 = .ok (.goto 4, 3) := by decide +kernel
theorem dX6_hasGaitOf_52 : decode cX6_hasGaitOf 52 = .ok (.iconst 0, 1) := by decide +kernel
theorem dX6_hasGaitOf_53 : decode cX6_hasGaitOf 53 = .ok (.ireturn, 1) := by decide +kernel
theorem dX6_dropLeg_0 : decode cX6_dropLeg 0 = .ok (.aload_n 0, 1) := by decide +kernel
theorem dX6_dropLeg_1 : decode cX6_dropLeg 1 = .ok (.dup, 1) := by decide +kernel
theorem dX6_dropLeg_2 : decode cX6_dropLeg 2 = .ok (.getfield 26, 3) := by decide +kernel
theorem dX6_dropLeg_5 : decode cX6_dropLeg 5 = .ok (.iconst 1, 1) := by decide +kernel
theorem dX6_dropLeg_6 : decode cX6_dropLeg 6 = .ok (.isub, 1) := by decide +kernel
theorem dX6_dropLeg_7 : decode cX6_dropLeg 7 = .ok (.putfield 26, 3) := by decide +kernel
theorem dX6_dropLeg_10 : decode cX6_dropLeg 10 = .ok (.iload_n 1, 1) := by decide +kernel
theorem dX6_dropLeg_11 : decode cX6_dropLeg 11 = .ok (.istore_n 2, 1) := by decide +kernel
theorem dX6_dropLeg_12 : decode cX6_dropLeg 12 = .ok (.iload_n 2, 1) := by decide +kernel
theorem dX6_dropLeg_13 : decode cX6_dropLeg 13 = .ok (.aload_n 0, 1) := by decide +kernel
theorem dX6_dropLeg_14 : decode cX6_dropLeg 14 = .ok (.getfield 26, 3) := by decide +kernel
theorem dX6_dropLeg_17 : decode cX6_dropLeg 17 = .ok (.if_icmp .ge 45, 3) := by decide +kernel
theorem dX6_dropLeg_20 : decode cX6_dropLeg 20 = .ok (.aload_n 0, 1) := by decide +kernel
theorem dX6_dropLeg_21 : decode cX6_dropLeg 21 = .ok (.getfield 14, 3) := by decide +kernel
theorem dX6_dropLeg_24 : decode cX6_dropLeg 24 = .ok (.iload_n 2, 1) := by decide +kernel
theorem dX6_dropLeg_25 : decode cX6_dropLeg 25 = .ok (.aload_n 0, 1) := by decide +kernel
theorem dX6_dropLeg_26 : decode cX6_dropLeg 26 = .ok (.getfield 14, 3) := by decide +kernel
theorem dX6_dropLeg_29 : decode cX6_dropLeg 29 = .ok (.iload_n 2, 1) := by decide +kernel
theorem dX6_dropLeg_30 : decode cX6_dropLeg 30 = .ok (.iconst 1, 1) := by decide +kernel
theorem dX6_dropLeg_31 : decode cX6_dropLeg 31 = .ok (.iadd, 1) := by decide +kernel
theorem dX6_dropLeg_32 : decode cX6_dropLeg 32 = .ok (.invokevirtual 60, 3) := by decide +kernel
theorem dX6_dropLeg_35 : decode cX6_dropLeg 35 = .ok (.invokevirtual 33, 3) := by decide +kernel
theorem dX6_dropLeg_38 : decode cX6_dropLeg 38 = .ok (.aload_n 0, 1) := by decide +kernel
theorem dX6_dropLeg_39 : decode cX6_dropLeg 39 = .ok (.getfield 20, 3) := by decide +kernel
theorem dX6_dropLeg_42 : decode cX6_dropLeg 42 = .ok (.iload_n 2, 1) := by decide +kernel
theorem dX6_dropLeg_43 : decode cX6_dropLeg 43 = .ok (.aload_n 0, 1) := by decide +kernel
theorem dX6_dropLeg_44 : decode cX6_dropLeg 44 = .ok (.getfield 20, 3) := by decide +kernel
theorem dX6_dropLeg_47 : decode cX6_dropLeg 47 = .ok (.iload_n 2, 1) := by decide +kernel
theorem dX6_dropLeg_48 : decode cX6_dropLeg 48 = .ok (.iconst 1, 1) := by decide +kernel
theorem dX6_dropLeg_49 : decode cX6_dropLeg 49 = .ok (.iadd, 1) := by decide +kernel
theorem dX6_dropLeg_50 : decode cX6_dropLeg 50 = .ok (.invokevirtual 60, 3) := by decide +kernel
theorem dX6_dropLeg_53 : decode cX6_dropLeg 53 = .ok (.invokevirtual 33, 3) := by decide +kernel
theorem dX6_dropLeg_56 : decode cX6_dropLeg 56 = .ok (.iinc 2 1, 3) := by decide +kernel
theorem dX6_dropLeg_59 : decode cX6_dropLeg 59 = .ok (.goto (-47), 3) := by decide +kernel
theorem dX6_dropLeg_62 : decode cX6_dropLeg 62 = .ok (.return_, 1) := by decide +kernel
theorem dX6_layRow_0 : decode cX6_layRow 0 = .ok (.aload_n 0, 1) := by decide +kernel
theorem dX6_layRow_1 : decode cX6_layRow 1 = .ok (.iload_n 1, 1) := by decide +kernel
theorem dX6_layRow_2 : decode cX6_layRow 2 = .ok (.putfield 49, 3) := by decide +kernel
theorem dX6_layRow_5 : decode cX6_layRow 5 = .ok (.iconst 0, 1) := by decide +kernel
theorem dX6_layRow_6 : decode cX6_layRow 6 = .ok (.istore 4, 2) := by decide +kernel
theorem dX6_layRow_8 : decode cX6_layRow 8 = .ok (.iload 4, 2) := by decide +kernel
theorem dX6_layRow_10 : decode cX6_layRow 10 = .ok (.iload_n 1, 1) := by decide +kernel
theorem dX6_layRow_11 : decode cX6_layRow 11 = .ok (.if_icmp .ge 19, 3) := by decide +kernel
theorem dX6_layRow_14 : decode cX6_layRow 14 = .ok (.aload_n 0, 1) := by decide +kernel
theorem dX6_layRow_15 : decode cX6_layRow 15 = .ok (.getfield 23, 3) := by decide +kernel
theorem dX6_layRow_18 : decode cX6_layRow 18 = .ok (.iload 4, 2) := by decide +kernel
theorem dX6_layRow_20 : decode cX6_layRow 20 = .ok (.iconst 0, 1) := by decide +kernel
theorem dX6_layRow_21 : decode cX6_layRow 21 = .ok (.invokevirtual 33, 3) := by decide +kernel
theorem dX6_layRow_24 : decode cX6_layRow 24 = .ok (.iinc 4 1, 3) := by decide +kernel
theorem dX6_layRow_27 : decode cX6_layRow 27 = .ok (.goto (-19), 3) := by decide +kernel
theorem dX6_layRow_30 : decode cX6_layRow 30 = .ok (.aload_n 0, 1) := by decide +kernel
theorem dX6_layRow_31 : decode cX6_layRow 31 = .ok (.iconst 0, 1) := by decide +kernel
theorem dX6_layRow_32 : decode cX6_layRow 32 = .ok (.iload_n 2, 1) := by decide +kernel
theorem dX6_layRow_33 : decode cX6_layRow 33 = .ok (.iconst 0, 1) := by decide +kernel
theorem dX6_layRow_34 : decode cX6_layRow 34 = .ok (.invokevirtual 71, 3) := by decide +kernel
theorem dX6_layRow_37 : decode cX6_layRow 37 = .ok (.iconst 1, 1) := by decide +kernel
theorem dX6_layRow_38 : decode cX6_layRow 38 = .ok (.istore 4, 2) := by decide +kernel
theorem dX6_layRow_40 : decode cX6_layRow 40 = .ok (.iload 4, 2) := by decide +kernel
theorem dX6_layRow_42 : decode cX6_layRow 42 = .ok (.aload_n 0, 1) := by decide +kernel
theorem dX6_layRow_43 : decode cX6_layRow 43 = .ok (.getfield 26, 3) := by decide +kernel
theorem dX6_layRow_46 : decode cX6_layRow 46 = .ok (.if_icmp .ge 22, 3) := by decide +kernel
theorem dX6_layRow_49 : decode cX6_layRow 49 = .ok (.aload_n 0, 1) := by decide +kernel
theorem dX6_layRow_50 : decode cX6_layRow 50 = .ok (.iload 4, 2) := by decide +kernel
theorem dX6_layRow_52 : decode cX6_layRow 52 = .ok (.iload_n 2, 1) := by decide +kernel
theorem dX6_layRow_53 : decode cX6_layRow 53 = .ok (.iload_n 3, 1) := by decide +kernel
theorem dX6_layRow_54 : decode cX6_layRow 54 = .ok (.iload 4, 2) := by decide +kernel
theorem dX6_layRow_56 : decode cX6_layRow 56 = .ok (.invokestatic 75, 3) := by decide +kernel
theorem dX6_layRow_59 : decode cX6_layRow 59 = .ok (.invokevirtual 71, 3) := by decide +kernel
theorem dX6_layRow_62 : decode cX6_layRow 62 = .ok (.iinc 4 1, 3) := by decide +kernel
theorem dX6_layRow_65 : decode cX6_layRow 65 = .ok (.goto (-25), 3) := by decide +kernel
theorem dX6_layRow_68 : decode cX6_layRow 68 = .ok (.return_, 1) := by decide +kernel
theorem dX6_layLeg_0 : decode cX6_layLeg 0 = .ok (.iconst 1, 1) := by decide +kernel
theorem dX6_layLeg_1 : decode cX6_layLeg 1 = .ok (.iload_n 1, 1) := by decide +kernel
theorem dX6_layLeg_2 : decode cX6_layLeg 2 = .ok (.ishl, 1) := by decide +kernel
theorem dX6_layLeg_3 : decode cX6_layLeg 3 = .ok (.istore 4, 2) := by decide +kernel
theorem dX6_layLeg_5 : decode cX6_layLeg 5 = .ok (.iconst 0, 1) := by decide +kernel
theorem dX6_layLeg_6 : decode cX6_layLeg 6 = .ok (.istore 5, 2) := by decide +kernel
theorem dX6_layLeg_8 : decode cX6_layLeg 8 = .ok (.iload 5, 2) := by decide +kernel
theorem dX6_layLeg_10 : decode cX6_layLeg 10 = .ok (.aload_n 0, 1) := by decide +kernel
theorem dX6_layLeg_11 : decode cX6_layLeg 11 = .ok (.getfield 49, 3) := by decide +kernel
theorem dX6_layLeg_14 : decode cX6_layLeg 14 = .ok (.if_icmp .ge 74, 3) := by decide +kernel
theorem dX6_layLeg_17 : decode cX6_layLeg 17 = .ok (.iload 5, 2) := by decide +kernel
theorem dX6_layLeg_19 : decode cX6_layLeg 19 = .ok (.iload_n 3, 1) := by decide +kernel
theorem dX6_layLeg_20 : decode cX6_layLeg 20 = .ok (.if_icmp .ge 15, 3) := by decide +kernel
theorem dX6_layLeg_23 : decode cX6_layLeg 23 = .ok (.iload 5, 2) := by decide +kernel
theorem dX6_layLeg_25 : decode cX6_layLeg 25 = .ok (.iload_n 3, 1) := by decide +kernel
theorem dX6_layLeg_26 : decode cX6_layLeg 26 = .ok (.isub, 1) := by decide +kernel
theorem dX6_layLeg_27 : decode cX6_layLeg 27 = .ok (.aload_n 0, 1) := by decide +kernel
theorem dX6_layLeg_28 : decode cX6_layLeg 28 = .ok (.getfield 49, 3) := by decide +kernel
theorem dX6_layLeg_31 : decode cX6_layLeg 31 = .ok (.iadd, 1) := by decide +kernel
theorem dX6_layLeg_32 : decode cX6_layLeg 32 = .ok (.goto 7, 3) := by decide +kernel
theorem dX6_layLeg_35 : decode cX6_layLeg 35 = .ok (.iload 5, 2) := by decide +kernel
theorem dX6_layLeg_37 : decode cX6_layLeg 37 = .ok (.iload_n 3, 1) := by decide +kernel
theorem dX6_layLeg_38 : decode cX6_layLeg 38 = .ok (.isub, 1) := by decide +kernel
theorem dX6_layLeg_39 : decode cX6_layLeg 39 = .ok (.istore 6, 2) := by decide +kernel
theorem dX6_layLeg_41 : decode cX6_layLeg 41 = .ok (.aload_n 0, 1) := by decide +kernel
theorem dX6_layLeg_42 : decode cX6_layLeg 42 = .ok (.getfield 23, 3) := by decide +kernel
theorem dX6_layLeg_45 : decode cX6_layLeg 45 = .ok (.iload 5, 2) := by decide +kernel
theorem dX6_layLeg_47 : decode cX6_layLeg 47 = .ok (.invokevirtual 60, 3) := by decide +kernel
theorem dX6_layLeg_50 : decode cX6_layLeg 50 = .ok (.iload 4, 2) := by decide +kernel
theorem dX6_layLeg_52 : decode cX6_layLeg 52 = .ok (.iconst (-1), 1) := by decide +kernel
theorem dX6_layLeg_53 : decode cX6_layLeg 53 = .ok (.ixor, 1) := by decide +kernel
theorem dX6_layLeg_54 : decode cX6_layLeg 54 = .ok (.iand, 1) := by decide +kernel
theorem dX6_layLeg_55 : decode cX6_layLeg 55 = .ok (.istore 7, 2) := by decide +kernel
theorem dX6_layLeg_57 : decode cX6_layLeg 57 = .ok (.aload_n 0, 1) := by decide +kernel
theorem dX6_layLeg_58 : decode cX6_layLeg 58 = .ok (.getfield 23, 3) := by decide +kernel
theorem dX6_layLeg_61 : decode cX6_layLeg 61 = .ok (.iload 5, 2) := by decide +kernel
theorem dX6_layLeg_63 : decode cX6_layLeg 63 = .ok (.iload 6, 2) := by decide +kernel
theorem dX6_layLeg_65 : decode cX6_layLeg 65 = .ok (.iload_n 2, 1) := by decide +kernel
theorem dX6_layLeg_66 : decode cX6_layLeg 66 = .ok (.if_icmp .ge 8, 3) := by decide +kernel
theorem dX6_layLeg_69 : decode cX6_layLeg 69 = .ok (.iload 7, 2) := by decide +kernel
theorem dX6_layLeg_71 : decode cX6_layLeg 71 = .ok (.goto 8, 3) := by decide +kernel
theorem dX6_layLeg_74 : decode cX6_layLeg 74 = .ok (.iload 7, 2) := by decide +kernel
theorem dX6_layLeg_76 : decode cX6_layLeg 76 = .ok (.iload 4, 2) := by decide +kernel
theorem dX6_layLeg_78 : decode cX6_layLeg 78 = .ok (.ior, 1) := by decide +kernel
theorem dX6_layLeg_79 : decode cX6_layLeg 79 = .ok (.invokevirtual 33, 3) := by decide +kernel
theorem dX6_layLeg_82 : decode cX6_layLeg 82 = .ok (.iinc 5 1, 3) := by decide +kernel
theorem dX6_layLeg_85 : decode cX6_layLeg 85 = .ok (.goto (-77), 3) := by decide +kernel
theorem dX6_layLeg_88 : decode cX6_layLeg 88 = .ok (.return_, 1) := by decide +kernel
theorem dX7_init_0 : decode cX7_init 0 = .ok (.aload_n 0, 1) := by decide +kernel
theorem dX7_init_1 : decode cX7_init 1 = .ok (.invokespecial 3, 3) := by decide +kernel
theorem dX7_init_4 : decode cX7_init 4 = .ok (.aload_n 0, 1) := by decide +kernel
theorem dX7_init_5 : decode cX7_init 5 = .ok (.new 9, 3) := by decide +kernel
theorem dX7_init_8 : decode cX7_init 8 = .ok (.dup, 1) := by decide +kernel
theorem dX7_init_9 : decode cX7_init 9 = .ok (.invokespecial 11, 3) := by decide +kernel
theorem dX7_init_12 : decode cX7_init 12 = .ok (.putfield 12, 3) := by decide +kernel
theorem dX7_init_15 : decode cX7_init 15 = .ok (.aload_n 0, 1) := by decide +kernel
theorem dX7_init_16 : decode cX7_init 16 = .ok (.new 16, 3) := by decide +kernel
theorem dX7_init_19 : decode cX7_init 19 = .ok (.dup, 1) := by decide +kernel
theorem dX7_init_20 : decode cX7_init 20 = .ok (.invokespecial 18, 3) := by decide +kernel
theorem dX7_init_23 : decode cX7_init 23 = .ok (.putfield 19, 3) := by decide +kernel
theorem dX7_init_26 : decode cX7_init 26 = .ok (.aload_n 0, 1) := by decide +kernel
theorem dX7_init_27 : decode cX7_init 27 = .ok (.new 23, 3) := by decide +kernel
theorem dX7_init_30 : decode cX7_init 30 = .ok (.dup, 1) := by decide +kernel
theorem dX7_init_31 : decode cX7_init 31 = .ok (.invokespecial 25, 3) := by decide +kernel
theorem dX7_init_34 : decode cX7_init 34 = .ok (.putfield 26, 3) := by decide +kernel
theorem dX7_init_37 : decode cX7_init 37 = .ok (.aload_n 0, 1) := by decide +kernel
theorem dX7_init_38 : decode cX7_init 38 = .ok (.aload_n 0, 1) := by decide +kernel
theorem dX7_init_39 : decode cX7_init 39 = .ok (.getfield 26, 3) := by decide +kernel
theorem dX7_init_42 : decode cX7_init 42 = .ok (.getfield 30, 3) := by decide +kernel
theorem dX7_init_45 : decode cX7_init 45 = .ok (.putfield 34, 3) := by decide +kernel
theorem dX7_init_48 : decode cX7_init 48 = .ok (.aload_n 0, 1) := by decide +kernel
theorem dX7_init_49 : decode cX7_init 49 = .ok (.aload_n 0, 1) := by decide +kernel
theorem dX7_init_50 : decode cX7_init 50 = .ok (.getfield 34, 3) := by decide +kernel
theorem dX7_init_53 : decode cX7_init 53 = .ok (.getfield 35, 3) := by decide +kernel
theorem dX7_init_56 : decode cX7_init 56 = .ok (.putfield 40, 3) := by decide +kernel
theorem dX7_init_59 : decode cX7_init 59 = .ok (.aload_n 0, 1) := by decide +kernel
theorem dX7_init_60 : decode cX7_init 60 = .ok (.new 43, 3) := by decide +kernel
theorem dX7_init_63 : decode cX7_init 63 = .ok (.dup, 1) := by decide +kernel
theorem dX7_init_64 : decode cX7_init 64 = .ok (.invokespecial 45, 3) := by decide +kernel
theorem dX7_init_67 : decode cX7_init 67 = .ok (.putfield 46, 3) := by decide +kernel
theorem dX7_init_70 : decode cX7_init 70 = .ok (.aload_n 0, 1) := by decide +kernel
theorem dX7_init_71 : decode cX7_init 71 = .ok (.new 50, 3) := by decide +kernel
theorem dX7_init_74 : decode cX7_init 74 = .ok (.dup, 1) := by decide +kernel
theorem dX7_init_75 : decode cX7_init 75 = .ok (.sipush 256, 3) := by decide +kernel
theorem dX7_init_78 : decode cX7_init 78 = .ok (.invokespecial 52, 3) := by decide +kernel
theorem dX7_init_81 : decode cX7_init 81 = .ok (.putfield 55, 3) := by decide +kernel
theorem dX7_init_84 : decode cX7_init 84 = .ok (.aload_n 0, 1) := by decide +kernel
theorem dX7_init_85 : decode cX7_init 85 = .ok (.getfield 12, 3) := by decide +kernel
theorem dX7_init_88 : decode cX7_init 88 = .ok (.iconst 4, 1) := by decide +kernel
theorem dX7_init_89 : decode cX7_init 89 = .ok (.iconst 0, 1) := by decide +kernel
theorem dX7_init_90 : decode cX7_init 90 = .ok (.invokevirtual 59, 3) := by decide +kernel
theorem dX7_init_93 : decode cX7_init 93 = .ok (.return_, 1) := by decide +kernel
theorem dX7_walker_0 : decode cX7_walker 0 = .ok (.iload_n 1, 1) := by decide +kernel
theorem dX7_walker_1 : decode cX7_walker 1 = .ok (.iconst 2, 1) := by decide +kernel
theorem dX7_walker_2 : decode cX7_walker 2 = .ok (.bipush 8, 2) := by decide +kernel
theorem dX7_walker_4 : decode cX7_walker 4 = .ok (.invokestatic 63, 3) := by decide +kernel
theorem dX7_walker_7 : decode cX7_walker 7 = .ok (.ifCond .eq 12, 3) := by decide +kernel
theorem dX7_walker_10 : decode cX7_walker 10 = .ok (.iload_n 2, 1) := by decide +kernel
theorem dX7_walker_11 : decode cX7_walker 11 = .ok (.iconst 0, 1) := by decide +kernel
theorem dX7_walker_12 : decode cX7_walker 12 = .ok (.iconst 2, 1) := by decide +kernel
theorem dX7_walker_13 : decode cX7_walker 13 = .ok (.invokestatic 63, 3) := by decide +kernel
theorem dX7_walker_16 : decode cX7_walker 16 = .ok (.ifCond .ne 5, 3) := by decide +kernel
theorem dX7_walker_19 : decode cX7_walker 19 = .ok (.iconst 0, 1) := by decide +kernel
theorem dX7_walker_20 : decode cX7_walker 20 = .ok (.ireturn, 1) := by decide +kernel
theorem dX7_walker_21 : decode cX7_walker 21 = .ok (.aload_n 0, 1) := by decide +kernel
theorem dX7_walker_22 : decode cX7_walker 22 = .ok (.getfield 19, 3) := by decide +kernel
theorem dX7_walker_25 : decode cX7_walker 25 = .ok (.aload_n 0, 1) := by decide +kernel
theorem dX7_walker_26 : decode cX7_walker 26 = .ok (.getfield 12, 3) := by decide +kernel
theorem dX7_walker_29 : decode cX7_walker 29 = .ok (.invokevirtual 67, 3) := by decide +kernel
theorem dX7_walker_32 : decode cX7_walker 32 = .ok (.aload_n 0, 1) := by decide +kernel
theorem dX7_walker_33 : decode cX7_walker 33 = .ok (.getfield 12, 3) := by decide +kernel
theorem dX7_walker_36 : decode cX7_walker 36 = .ok (.iload_n 1, 1) := by decide +kernel
theorem dX7_walker_37 : decode cX7_walker 37 = .ok (.iload_n 2, 1) := by decide +kernel
theorem dX7_walker_38 : decode cX7_walker 38 = .ok (.invokevirtual 59, 3) := by decide +kernel
theorem dX7_walker_41 : decode cX7_walker 41 = .ok (.iconst 1, 1) := by decide +kernel
theorem dX7_walker_42 : decode cX7_walker 42 = .ok (.ireturn, 1) := by decide +kernel
theorem dX7_leg_0 : decode cX7_leg 0 = .ok (.aload_n 0, 1) := by decide +kernel
theorem dX7_leg_1 : decode cX7_leg 1 = .ok (.getfield 12, 3) := by decide +kernel
theorem dX7_leg_4 : decode cX7_leg 4 = .ok (.iload_n 1, 1) := by decide +kernel
theorem dX7_leg_5 : decode cX7_leg 5 = .ok (.invokevirtual 71, 3) := by decide +kernel
theorem dX7_leg_8 : decode cX7_leg 8 = .ok (.ifCond .eq 11, 3) := by decide +kernel
theorem dX7_leg_11 : decode cX7_leg 11 = .ok (.iload_n 2, 1) := by decide +kernel
theorem dX7_leg_12 : decode cX7_leg 12 = .ok (.iload_n 3, 1) := by decide +kernel
theorem dX7_leg_13 : decode cX7_leg 13 = .ok (.invokestatic 75, 3) := by decide +kernel
theorem dX7_leg_16 : decode cX7_leg 16 = .ok (.ifCond .ne 5, 3) := by decide +kernel
theorem dX7_leg_19 : decode cX7_leg 19 = .ok (.iconst 0, 1) := by decide +kernel
theorem dX7_leg_20 : decode cX7_leg 20 = .ok (.ireturn, 1) := by decide +kernel
theorem dX7_leg_21 : decode cX7_leg 21 = .ok (.aload_n 0, 1) := by decide +kernel
theorem dX7_leg_22 : decode cX7_leg 22 = .ok (.getfield 12, 3) := by decide +kernel
theorem dX7_leg_25 : decode cX7_leg 25 = .ok (.iload_n 2, 1) := by decide +kernel
theorem dX7_leg_26 : decode cX7_leg 26 = .ok (.iload_n 3, 1) := by decide +kernel
theorem dX7_leg_27 : decode cX7_leg 27 = .ok (.invokevirtual 79, 3) := by decide +kernel
theorem dX7_leg_30 : decode cX7_leg 30 = .ok (.istore 4, 2) := by decide +kernel
theorem dX7_leg_32 : decode cX7_leg 32 = .ok (.iload 4, 2) := by decide +kernel
theorem dX7_leg_34 : decode cX7_leg 34 = .ok (.iconst (-1), 1) := by decide +kernel
theorem dX7_leg_35 : decode cX7_leg 35 = .ok (.if_icmp .eq 11, 3) := by decide +kernel
theorem dX7_leg_38 : decode cX7_leg 38 = .ok (.iload 4, 2) := by decide +kernel
theorem dX7_leg_40 : decode cX7_leg 40 = .ok (.iload_n 1, 1) := by decide +kernel
theorem dX7_leg_41 : decode cX7_leg 41 = .ok (.if_icmp .eq 5, 3) := by decide +kernel
theorem dX7_leg_44 : decode cX7_leg 44 = .ok (.iconst 0, 1) := by decide +kernel
theorem dX7_leg_45 : decode cX7_leg 45 = .ok (.ireturn, 1) := by decide +kernel
theorem dX7_leg_46 : decode cX7_leg 46 = .ok (.aload_n 0, 1) := by decide +kernel
theorem dX7_leg_47 : decode cX7_leg 47 = .ok (.getfield 19, 3) := by decide +kernel
theorem dX7_leg_50 : decode cX7_leg 50 = .ok (.aload_n 0, 1) := by decide +kernel
theorem dX7_leg_51 : decode cX7_leg 51 = .ok (.getfield 12, 3) := by decide +kernel
theorem dX7_leg_54 : decode cX7_leg 54 = .ok (.invokevirtual 67, 3) := by decide +kernel
theorem dX7_leg_57 : decode cX7_leg 57 = .ok (.aload_n 0, 1) := by decide +kernel
theorem dX7_leg_58 : decode cX7_leg 58 = .ok (.getfield 12, 3) := by decide +kernel
theorem dX7_leg_61 : decode cX7_leg 61 = .ok (.getfield 83, 3) := by decide +kernel
theorem dX7_leg_64 : decode cX7_leg 64 = .ok (.iload_n 1, 1) := by decide +kernel
theorem dX7_leg_65 : decode cX7_leg 65 = .ok (.iload_n 2, 1) := by decide +kernel
theorem dX7_leg_66 : decode cX7_leg 66 = .ok (.invokevirtual 86, 3) := by decide +kernel
theorem dX7_leg_69 : decode cX7_leg 69 = .ok (.aload_n 0, 1) := by decide +kernel
theorem dX7_leg_70 : decode cX7_leg 70 = .ok (.getfield 12, 3) := by decide +kernel
theorem dX7_leg_73 : decode cX7_leg 73 = .ok (.getfield 89, 3) := by decide +kernel
theorem dX7_leg_76 : decode cX7_leg 76 = .ok (.iload_n 1, 1) := by decide +kernel
theorem dX7_leg_77 : decode cX7_leg 77 = .ok (.iload_n 3, 1) := by decide +kernel
theorem dX7_leg_78 : decode cX7_leg 78 = .ok (.invokevirtual 86, 3) := by decide +kernel
theorem dX7_leg_81 : decode cX7_leg 81 = .ok (.iconst 1, 1) := by decide +kernel
theorem dX7_leg_82 : decode cX7_leg 82 = .ok (.ireturn, 1) := by decide +kernel
theorem dX7_middle_0 : decode cX7_middle 0 = .ok (.iload_n 1, 1) := by decide +kernel
theorem dX7_middle_1 : decode cX7_middle 1 = .ok (.iload_n 2, 1) := by decide +kernel
theorem dX7_middle_2 : decode cX7_middle 2 = .ok (.invokestatic 75, 3) := by decide +kernel
theorem dX7_middle_5 : decode cX7_middle 5 = .ok (.ifCond .ne 5, 3) := by decide +kernel
theorem dX7_middle_8 : decode cX7_middle 8 = .ok (.iconst 0, 1) := by decide +kernel
theorem dX7_middle_9 : decode cX7_middle 9 = .ok (.ireturn, 1) := by decide +kernel
theorem dX7_middle_10 : decode cX7_middle 10 = .ok (.aload_n 0, 1) := by decide +kernel
theorem dX7_middle_11 : decode cX7_middle 11 = .ok (.getfield 19, 3) := by decide +kernel
theorem dX7_middle_14 : decode cX7_middle 14 = .ok (.aload_n 0, 1) := by decide +kernel
theorem dX7_middle_15 : decode cX7_middle 15 = .ok (.getfield 12, 3) := by decide +kernel
theorem dX7_middle_18 : decode cX7_middle 18 = .ok (.invokevirtual 67, 3) := by decide +kernel
theorem dX7_middle_21 : decode cX7_middle 21 = .ok (.aload_n 0, 1) := by decide +kernel
theorem dX7_middle_22 : decode cX7_middle 22 = .ok (.getfield 12, 3) := by decide +kernel
theorem dX7_middle_25 : decode cX7_middle 25 = .ok (.iload_n 1, 1) := by decide +kernel
theorem dX7_middle_26 : decode cX7_middle 26 = .ok (.putfield 92, 3) := by decide +kernel
theorem dX7_middle_29 : decode cX7_middle 29 = .ok (.aload_n 0, 1) := by decide +kernel
theorem dX7_middle_30 : decode cX7_middle 30 = .ok (.getfield 12, 3) := by decide +kernel
theorem dX7_middle_33 : decode cX7_middle 33 = .ok (.iload_n 2, 1) := by decide +kernel
theorem dX7_middle_34 : decode cX7_middle 34 = .ok (.putfield 96, 3) := by decide +kernel
theorem dX7_middle_37 : decode cX7_middle 37 = .ok (.iconst 1, 1) := by decide +kernel
theorem dX7_middle_38 : decode cX7_middle 38 = .ok (.ireturn, 1) := by decide +kernel
theorem dX7_pace_0 : decode cX7_pace 0 = .ok (.iload_n 1, 1) := by decide +kernel
theorem dX7_pace_1 : decode cX7_pace 1 = .ok (.iconst 0, 1) := by decide +kernel
theorem dX7_pace_2 : decode cX7_pace 2 = .ok (.bipush 9, 2) := by decide +kernel
theorem dX7_pace_4 : decode cX7_pace 4 = .ok (.invokestatic 63, 3) := by decide +kernel
theorem dX7_pace_7 : decode cX7_pace 7 = .ok (.ifCond .eq 13, 3) := by decide +kernel
theorem dX7_pace_10 : decode cX7_pace 10 = .ok (.iload_n 2, 1) := by decide +kernel
theorem dX7_pace_11 : decode cX7_pace 11 = .ok (.iconst 0, 1) := by decide +kernel
theorem dX7_pace_12 : decode cX7_pace 12 = .ok (.bipush 40, 2) := by decide +kernel
theorem dX7_pace_14 : decode cX7_pace 14 = .ok (.invokestatic 63, 3) := by decide +kernel
theorem dX7_pace_17 : decode cX7_pace 17 = .ok (.ifCond .ne 5, 3) := by decide +kernel
theorem dX7_pace_20 : decode cX7_pace 20 = .ok (.iconst 0, 1) := by decide +kernel
theorem dX7_pace_21 : decode cX7_pace 21 = .ok (.ireturn, 1) := by decide +kernel
theorem dX7_pace_22 : decode cX7_pace 22 = .ok (.aload_n 0, 1) := by decide +kernel
theorem dX7_pace_23 : decode cX7_pace 23 = .ok (.getfield 19, 3) := by decide +kernel
theorem dX7_pace_26 : decode cX7_pace 26 = .ok (.aload_n 0, 1) := by decide +kernel
theorem dX7_pace_27 : decode cX7_pace 27 = .ok (.getfield 12, 3) := by decide +kernel
theorem dX7_pace_30 : decode cX7_pace 30 = .ok (.invokevirtual 67, 3) := by decide +kernel
theorem dX7_pace_33 : decode cX7_pace 33 = .ok (.aload_n 0, 1) := by decide +kernel
theorem dX7_pace_34 : decode cX7_pace 34 = .ok (.getfield 12, 3) := by decide +kernel
theorem dX7_pace_37 : decode cX7_pace 37 = .ok (.iload_n 1, 1) := by decide +kernel
theorem dX7_pace_38 : decode cX7_pace 38 = .ok (.putfield 99, 3) := by decide +kernel
theorem dX7_pace_41 : decode cX7_pace 41 = .ok (.aload_n 0, 1) := by decide +kernel
theorem dX7_pace_42 : decode cX7_pace 42 = .ok (.getfield 12, 3) := by decide +kernel
theorem dX7_pace_45 : decode cX7_pace 45 = .ok (.iload_n 2, 1) := by decide +kernel
theorem dX7_pace_46 : decode cX7_pace 46 = .ok (.putfield 102, 3) := by decide +kernel
theorem dX7_pace_49 : decode cX7_pace 49 = .ok (.iconst 1, 1) := by decide +kernel
theorem dX7_pace_50 : decode cX7_pace 50 = .ok (.ireturn, 1) := by decide +kernel
theorem dX7_gait_0 : decode cX7_gait 0 = .ok (.iload_n 1, 1) := by decide +kernel
theorem dX7_gait_1 : decode cX7_gait 1 = .ok (.iconst 0, 1) := by decide +kernel
theorem dX7_gait_2 : decode cX7_gait 2 = .ok (.iconst 2, 1) := by decide +kernel
theorem dX7_gait_3 : decode cX7_gait 3 = .ok (.invokestatic 63, 3) := by decide +kernel
theorem dX7_gait_6 : decode cX7_gait 6 = .ok (.ifCond .eq 13, 3) := by decide +kernel
theorem dX7_gait_9 : decode cX7_gait 9 = .ok (.iload_n 2, 1) := by decide +kernel
theorem dX7_gait_10 : decode cX7_gait 10 = .ok (.iconst 1, 1) := by decide +kernel
theorem dX7_gait_11 : decode cX7_gait 11 = .ok (.bipush 16, 2) := by decide +kernel
theorem dX7_gait_13 : decode cX7_gait 13 = .ok (.invokestatic 63, 3) := by decide +kernel
theorem dX7_gait_16 : decode cX7_gait 16 = .ok (.ifCond .ne 5, 3) := by decide +kernel
theorem dX7_gait_19 : decode cX7_gait 19 = .ok (.iconst (-1), 1) := by decide +kernel
theorem dX7_gait_20 : decode cX7_gait 20 = .ok (.ireturn, 1) := by decide +kernel
theorem dX7_gait_21 : decode cX7_gait 21 = .ok (.aload_n 0, 1) := by decide +kernel
theorem dX7_gait_22 : decode cX7_gait 22 = .ok (.getfield 19, 3) := by decide +kernel
theorem dX7_gait_25 : decode cX7_gait 25 = .ok (.aload_n 0, 1) := by decide +kernel
theorem dX7_gait_26 : decode cX7_gait 26 = .ok (.getfield 12, 3) := by decide +kernel
theorem dX7_gait_29 : decode cX7_gait 29 = .ok (.invokevirtual 67, 3) := by decide +kernel
theorem dX7_gait_32 : decode cX7_gait 32 = .ok (.aload_n 0, 1) := by decide +kernel
theorem dX7_gait_33 : decode cX7_gait 33 = .ok (.getfield 12, 3) := by decide +kernel
theorem dX7_gait_36 : decode cX7_gait 36 = .ok (.iload_n 2, 1) := by decide +kernel
theorem dX7_gait_37 : decode cX7_gait 37 = .ok (.putfield 105, 3) := by decide +kernel
theorem dX7_gait_40 : decode cX7_gait 40 = .ok (.iconst 0, 1) := by decide +kernel
theorem dX7_gait_41 : decode cX7_gait 41 = .ok (.istore 7, 2) := by decide +kernel
theorem dX7_gait_43 : decode cX7_gait 43 = .ok (.iload 7, 2) := by decide +kernel
theorem dX7_gait_45 : decode cX7_gait 45 = .ok (.iload_n 2, 1) := by decide +kernel
theorem dX7_gait_46 : decode cX7_gait 46 = .ok (.if_icmp .ge 77, 3) := by decide +kernel
theorem dX7_gait_49 : decode cX7_gait 49 = .ok (.iload 7, 2) := by decide +kernel
theorem dX7_gait_51 : decode cX7_gait 51 = .ok (.iconst 4, 1) := by decide +kernel
theorem dX7_gait_52 : decode cX7_gait 52 = .ok (.if_icmp .ge 7, 3) := by decide +kernel
theorem dX7_gait_55 : decode cX7_gait 55 = .ok (.iload_n 3, 1) := by decide +kernel
theorem dX7_gait_56 : decode cX7_gait 56 = .ok (.goto 29, 3) := by decide +kernel
theorem dX7_gait_59 : decode cX7_gait 59 = .ok (.iload 7, 2) := by decide +kernel
theorem dX7_gait_61 : decode cX7_gait 61 = .ok (.bipush 8, 2) := by decide +kernel
theorem dX7_gait_63 : decode cX7_gait 63 = .ok (.if_icmp .ge 8, 3) := by decide +kernel
theorem dX7_gait_66 : decode cX7_gait 66 = .ok (.iload 4, 2) := by decide +kernel
theorem dX7_gait_68 : decode cX7_gait 68 = .ok (.goto 17, 3) := by decide +kernel
theorem dX7_gait_71 : decode cX7_gait 71 = .ok (.iload 7, 2) := by decide +kernel
theorem dX7_gait_73 : decode cX7_gait 73 = .ok (.bipush 12, 2) := by decide +kernel
theorem dX7_gait_75 : decode cX7_gait 75 = .ok (.if_icmp .ge 8, 3) := by decide +kernel
theorem dX7_gait_78 : decode cX7_gait 78 = .ok (.iload 5, 2) := by decide +kernel
theorem dX7_gait_80 : decode cX7_gait 80 = .ok (.goto 5, 3) := by decide +kernel
theorem dX7_gait_83 : decode cX7_gait 83 = .ok (.iload 6, 2) := by decide +kernel
theorem dX7_gait_85 : decode cX7_gait 85 = .ok (.istore 8, 2) := by decide +kernel
theorem dX7_gait_87 : decode cX7_gait 87 = .ok (.aload_n 0, 1) := by decide +kernel
theorem dX7_gait_88 : decode cX7_gait 88 = .ok (.getfield 12, 3) := by decide +kernel
theorem dX7_gait_91 : decode cX7_gait 91 = .ok (.getfield 108, 3) := by decide +kernel
theorem dX7_gait_94 : decode cX7_gait 94 = .ok (.iload 7, 2) := by decide +kernel
theorem dX7_gait_96 : decode cX7_gait 96 = .ok (.iload 8, 2) := by decide +kernel
theorem dX7_gait_98 : decode cX7_gait 98 = .ok (.bipush 8, 2) := by decide +kernel
theorem dX7_gait_100 : decode cX7_gait 100 = .ok (.iload 7, 2) := by decide +kernel
theorem dX7_gait_102 : decode cX7_gait 102 = .ok (.iconst 3, 1) := by decide +kernel
theorem dX7_gait_103 : decode cX7_gait 103 = .ok (.iand, 1) := by decide +kernel
theorem dX7_gait_104 : decode cX7_gait 104 = .ok (.imul, 1) := by decide +kernel
theorem dX7_gait_105 : decode cX7_gait 105 = .ok (.iushr, 1) := by decide +kernel
theorem dX7_gait_106 : decode cX7_gait 106 = .ok (.aload_n 0, 1) := by decide +kernel
theorem dX7_gait_107 : decode cX7_gait 107 = .ok (.getfield 12, 3) := by decide +kernel
theorem dX7_gait_110 : decode cX7_gait 110 = .ok (.invokevirtual 111, 3) := by decide +kernel
theorem dX7_gait_113 : decode cX7_gait 113 = .ok (.iand, 1) := by decide +kernel
theorem dX7_gait_114 : decode cX7_gait 114 = .ok (.invokevirtual 86, 3) := by decide +kernel
theorem dX7_gait_117 : decode cX7_gait 117 = .ok (.iinc 7 1, 3) := by decide +kernel
theorem dX7_gait_120 : decode cX7_gait 120 = .ok (.goto (-77), 3) := by decide +kernel
theorem dX7_gait_123 : decode cX7_gait 123 = .ok (.iload_n 2, 1) := by decide +kernel
theorem dX7_gait_124 : decode cX7_gait 124 = .ok (.ireturn, 1) := by decide +kernel
theorem dX7_tick_0 : decode cX7_tick 0 = .ok (.aload_n 0, 1) := by decide +kernel
theorem dX7_tick_1 : decode cX7_tick 1 = .ok (.getfield 12, 3) := by decide +kernel
theorem dX7_tick_4 : decode cX7_tick 4 = .ok (.iload_n 1, 1) := by decide +kernel
theorem dX7_tick_5 : decode cX7_tick 5 = .ok (.invokevirtual 115, 3) := by decide +kernel
theorem dX7_tick_8 : decode cX7_tick 8 = .ok (.ifCond .eq 14, 3) := by decide +kernel
theorem dX7_tick_11 : decode cX7_tick 11 = .ok (.aload_n 0, 1) := by decide +kernel
theorem dX7_tick_12 : decode cX7_tick 12 = .ok (.getfield 12, 3) := by decide +kernel
theorem dX7_tick_15 : decode cX7_tick 15 = .ok (.iload_n 2, 1) := by decide +kernel
theorem dX7_tick_16 : decode cX7_tick 16 = .ok (.invokevirtual 118, 3) := by decide +kernel
theorem dX7_tick_19 : decode cX7_tick 19 = .ok (.ifCond .ne 5, 3) := by decide +kernel
theorem dX7_tick_22 : decode cX7_tick 22 = .ok (.iconst 0, 1) := by decide +kernel
theorem dX7_tick_23 : decode cX7_tick 23 = .ok (.ireturn, 1) := by decide +kernel
theorem dX7_tick_24 : decode cX7_tick 24 = .ok (.aload_n 0, 1) := by decide +kernel
theorem dX7_tick_25 : decode cX7_tick 25 = .ok (.getfield 19, 3) := by decide +kernel
theorem dX7_tick_28 : decode cX7_tick 28 = .ok (.aload_n 0, 1) := by decide +kernel
theorem dX7_tick_29 : decode cX7_tick 29 = .ok (.getfield 12, 3) := by decide +kernel
theorem dX7_tick_32 : decode cX7_tick 32 = .ok (.invokevirtual 67, 3) := by decide +kernel
theorem dX7_tick_35 : decode cX7_tick 35 = .ok (.aload_n 0, 1) := by decide +kernel
theorem dX7_tick_36 : decode cX7_tick 36 = .ok (.getfield 12, 3) := by decide +kernel
theorem dX7_tick_39 : decode cX7_tick 39 = .ok (.getfield 108, 3) := by decide +kernel
theorem dX7_tick_42 : decode cX7_tick 42 = .ok (.iload_n 1, 1) := by decide +kernel
theorem dX7_tick_43 : decode cX7_tick 43 = .ok (.iload_n 2, 1) := by decide +kernel
theorem dX7_tick_44 : decode cX7_tick 44 = .ok (.invokevirtual 86, 3) := by decide +kernel
theorem dX7_tick_47 : decode cX7_tick 47 = .ok (.iconst 1, 1) := by decide +kernel
theorem dX7_tick_48 : decode cX7_tick 48 = .ok (.ireturn, 1) := by decide +kernel
theorem dX7_regular_0 : decode cX7_regular 0 = .ok (.iload_n 1, 1) := by decide +kernel
theorem dX7_regular_1 : decode cX7_regular 1 = .ok (.iload_n 2, 1) := by decide +kernel
theorem dX7_regular_2 : decode cX7_regular 2 = .ok (.invokestatic 121, 3) := by decide +kernel
theorem dX7_regular_5 : decode cX7_regular 5 = .ok (.ifCond .ne 5, 3) := by decide +kernel
theorem dX7_regular_8 : decode cX7_regular 8 = .ok (.iconst 0, 1) := by decide +kernel
theorem dX7_regular_9 : decode cX7_regular 9 = .ok (.ireturn, 1) := by decide +kernel
theorem dX7_regular_10 : decode cX7_regular 10 = .ok (.iconst 1, 1) := by decide +kernel
theorem dX7_regular_11 : decode cX7_regular 11 = .ok (.istore 4, 2) := by decide +kernel
theorem dX7_regular_13 : decode cX7_regular 13 = .ok (.iload 4, 2) := by decide +kernel
theorem dX7_regular_15 : decode cX7_regular 15 = .ok (.aload_n 0, 1) := by decide +kernel
theorem dX7_regular_16 : decode cX7_regular 16 = .ok (.getfield 12, 3) := by decide +kernel
theorem dX7_regular_19 : decode cX7_regular 19 = .ok (.getfield 124, 3) := by decide +kernel
theorem dX7_regular_22 : decode cX7_regular 22 = .ok (.if_icmp .ge 21, 3) := by decide +kernel
theorem dX7_regular_25 : decode cX7_regular 25 = .ok (.iload_n 3, 1) := by decide +kernel
theorem dX7_regular_26 : decode cX7_regular 26 = .ok (.iload 4, 2) := by decide +kernel
theorem dX7_regular_28 : decode cX7_regular 28 = .ok (.invokestatic 127, 3) := by decide +kernel
theorem dX7_regular_31 : decode cX7_regular 31 = .ok (.iload_n 1, 1) := by decide +kernel
theorem dX7_regular_32 : decode cX7_regular 32 = .ok (.if_icmp .lt 5, 3) := by decide +kernel
theorem dX7_regular_35 : decode cX7_regular 35 = .ok (.iconst 0, 1) := by decide +kernel
theorem dX7_regular_36 : decode cX7_regular 36 = .ok (.ireturn, 1) := by decide +kernel
theorem dX7_regular_37 : decode cX7_regular 37 = .ok (.iinc 4 1, 3) := by decide +kernel
theorem dX7_regular_40 : decode cX7_regular 40 = .ok (.goto (-27), 3) := by decide +kernel
theorem dX7_regular_43 : decode cX7_regular 43 = .ok (.aload_n 0, 1) := by decide +kernel
theorem dX7_regular_44 : decode cX7_regular 44 = .ok (.getfield 19, 3) := by decide +kernel
theorem dX7_regular_47 : decode cX7_regular 47 = .ok (.aload_n 0, 1) := by decide +kernel
theorem dX7_regular_48 : decode cX7_regular 48 = .ok (.getfield 12, 3) := by decide +kernel
theorem dX7_regular_51 : decode cX7_regular 51 = .ok (.invokevirtual 67, 3) := by decide +kernel
theorem dX7_regular_54 : decode cX7_regular 54 = .ok (.aload_n 0, 1) := by decide +kernel
theorem dX7_regular_55 : decode cX7_regular 55 = .ok (.getfield 12, 3) := by decide +kernel
theorem dX7_regular_58 : decode cX7_regular 58 = .ok (.iload_n 1, 1) := by decide +kernel
theorem dX7_regular_59 : decode cX7_regular 59 = .ok (.iload_n 2, 1) := by decide +kernel
theorem dX7_regular_60 : decode cX7_regular 60 = .ok (.iload_n 3, 1) := by decide +kernel
theorem dX7_regular_61 : decode cX7_regular 61 = .ok (.invokevirtual 130, 3) := by decide +kernel
theorem dX7_regular_64 : decode cX7_regular 64 = .ok (.iconst 1, 1) := by decide +kernel
theorem dX7_regular_65 : decode cX7_regular 65 = .ok (.ireturn, 1) := by decide +kernel
theorem dX7_about_0 : decode cX7_about 0 = .ok (.iload_n 1, 1) := by decide +kernel
theorem dX7_about_1 : decode cX7_about 1 = .ok (.tableswitch 119 0 7 #[47, 55, 63, 71, 79, 87, 95, 103], 47) := by decide +kernel
theorem dX7_about_48 : decode cX7_about 48 = .ok (.aload_n 0, 1) := by decide +kernel
theorem dX7_about_49 : decode cX7_about 49 = .ok (.getfield 12, 3) := by decide +kernel
theorem dX7_about_52 : decode cX7_about 52 = .ok (.getfield 124, 3) := by decide +kernel
theorem dX7_about_55 : decode cX7_about 55 = .ok (.ireturn, 1) := by decide +kernel
theorem dX7_about_56 : decode cX7_about 56 = .ok (.aload_n 0, 1) := by decide +kernel
theorem dX7_about_57 : decode cX7_about 57 = .ok (.getfield 12, 3) := by decide +kernel
theorem dX7_about_60 : decode cX7_about 60 = .ok (.getfield 134, 3) := by decide +kernel
theorem dX7_about_63 : decode cX7_about 63 = .ok (.ireturn, 1) := by decide +kernel
theorem dX7_about_64 : decode cX7_about 64 = .ok (.aload_n 0, 1) := by decide +kernel
theorem dX7_about_65 : decode cX7_about 65 = .ok (.getfield 12, 3) := by decide +kernel
theorem dX7_about_68 : decode cX7_about 68 = .ok (.getfield 105, 3) := by decide +kernel
theorem dX7_about_71 : decode cX7_about 71 = .ok (.ireturn, 1) := by decide +kernel
theorem dX7_about_72 : decode cX7_about 72 = .ok (.aload_n 0, 1) := by decide +kernel
theorem dX7_about_73 : decode cX7_about 73 = .ok (.getfield 12, 3) := by decide +kernel
theorem dX7_about_76 : decode cX7_about 76 = .ok (.getfield 99, 3) := by decide +kernel
theorem dX7_about_79 : decode cX7_about 79 = .ok (.ireturn, 1) := by decide +kernel
theorem dX7_about_80 : decode cX7_about 80 = .ok (.aload_n 0, 1) := by decide +kernel
theorem dX7_about_81 : decode cX7_about 81 = .ok (.getfield 12, 3) := by decide +kernel
