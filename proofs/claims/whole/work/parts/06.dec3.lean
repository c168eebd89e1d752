theorem dX8_stands_1 : decode cX8_stands 1 = .ok (.iconst 0, 1) := by decide +kernel
theorem dX8_stands_2 : decode cX8_stands 2 = .ok (.putfield 34, 3) := by decide +kernel
theorem dX8_stands_5 : decode cX8_stands 5 = .ok (.aload_n 0, 1) := by decide +kernel
theorem dX8_stands_6 : decode cX8_stands 6 = .ok (.invokevirtual 49, 3) := by decide +kernel
theorem dX8_stands_9 : decode cX8_stands 9 = .ok (.aload_n 0, 1) := by decide +kernel
theorem dX8_stands_10 : decode cX8_stands 10 = .ok (.iload_n 1, 1) := by decide +kernel
theorem dX8_stands_11 : decode cX8_stands 11 = .ok (.invokevirtual 71, 3) := by decide +kernel
theorem dX8_stands_14 : decode cX8_stands 14 = .ok (.ifCond .ne 7, 3) := by decide +kernel
theorem dX8_stands_17 : decode cX8_stands 17 = .ok (.iconst (-1), 1) := by decide +kernel
theorem dX8_stands_18 : decode cX8_stands 18 = .ok (.goto 16, 3) := by decide +kernel
theorem dX8_stands_21 : decode cX8_stands 21 = .ok (.aload_n 0, 1) := by decide +kernel
theorem dX8_stands_22 : decode cX8_stands 22 = .ok (.iload_n 1, 1) := by decide +kernel
theorem dX8_stands_23 : decode cX8_stands 23 = .ok (.invokevirtual 140, 3) := by decide +kernel
theorem dX8_stands_26 : decode cX8_stands 26 = .ok (.ifCond .eq 7, 3) := by decide +kernel
theorem dX8_stands_29 : decode cX8_stands 29 = .ok (.iconst 1, 1) := by decide +kernel
theorem dX8_stands_30 : decode cX8_stands 30 = .ok (.goto 4, 3) := by decide +kernel
theorem dX8_stands_33 : decode cX8_stands 33 = .ok (.iconst 0, 1) := by decide +kernel
theorem dX8_stands_34 : decode cX8_stands 34 = .ok (.ireturn, 1) := by decide +kernel
theorem dX8_whyNot_0 : decode cX8_whyNot 0 = .ok (.iconst 0, 1) := by decide +kernel
theorem dX8_whyNot_1 : decode cX8_whyNot 1 = .ok (.istore_n 1, 1) := by decide +kernel
theorem dX8_whyNot_2 : decode cX8_whyNot 2 = .ok (.iload_n 1, 1) := by decide +kernel
theorem dX8_whyNot_3 : decode cX8_whyNot 3 = .ok (.aload_n 0, 1) := by decide +kernel
theorem dX8_whyNot_4 : decode cX8_whyNot 4 = .ok (.getfield 7, 3) := by decide +kernel
theorem dX8_whyNot_7 : decode cX8_whyNot 7 = .ok (.bipush 6, 2) := by decide +kernel
theorem dX8_whyNot_9 : decode cX8_whyNot 9 = .ok (.iaload, 1) := by decide +kernel
theorem dX8_whyNot_10 : decode cX8_whyNot 10 = .ok (.if_icmp .ge 19, 3) := by decide +kernel
theorem dX8_whyNot_13 : decode cX8_whyNot 13 = .ok (.aload_n 0, 1) := by decide +kernel
theorem dX8_whyNot_14 : decode cX8_whyNot 14 = .ok (.iload_n 1, 1) := by decide +kernel
theorem dX8_whyNot_15 : decode cX8_whyNot 15 = .ok (.invokevirtual 140, 3) := by decide +kernel
theorem dX8_whyNot_18 : decode cX8_whyNot 18 = .ok (.ifCond .ne 5, 3) := by decide +kernel
theorem dX8_whyNot_21 : decode cX8_whyNot 21 = .ok (.iload_n 1, 1) := by decide +kernel
theorem dX8_whyNot_22 : decode cX8_whyNot 22 = .ok (.ireturn, 1) := by decide +kernel
theorem dX8_whyNot_23 : decode cX8_whyNot 23 = .ok (.iinc 1 1, 3) := by decide +kernel
theorem dX8_whyNot_26 : decode cX8_whyNot 26 = .ok (.goto (-24), 3) := by decide +kernel
theorem dX8_whyNot_29 : decode cX8_whyNot 29 = .ok (.iconst 0, 1) := by decide +kernel
theorem dX8_whyNot_30 : decode cX8_whyNot 30 = .ok (.istore_n 1, 1) := by decide +kernel
theorem dX8_whyNot_31 : decode cX8_whyNot 31 = .ok (.iload_n 1, 1) := by decide +kernel
theorem dX8_whyNot_32 : decode cX8_whyNot 32 = .ok (.aload_n 0, 1) := by decide +kernel
theorem dX8_whyNot_33 : decode cX8_whyNot 33 = .ok (.getfield 7, 3) := by decide +kernel
theorem dX8_whyNot_36 : decode cX8_whyNot 36 = .ok (.iconst 0, 1) := by decide +kernel
theorem dX8_whyNot_37 : decode cX8_whyNot 37 = .ok (.iaload, 1) := by decide +kernel
theorem dX8_whyNot_38 : decode cX8_whyNot 38 = .ok (.if_icmp .ge 68, 3) := by decide +kernel
theorem dX8_whyNot_41 : decode cX8_whyNot 41 = .ok (.iconst 0, 1) := by decide +kernel
theorem dX8_whyNot_42 : decode cX8_whyNot 42 = .ok (.istore_n 2, 1) := by decide +kernel
theorem dX8_whyNot_43 : decode cX8_whyNot 43 = .ok (.iload_n 2, 1) := by decide +kernel
theorem dX8_whyNot_44 : decode cX8_whyNot 44 = .ok (.aload_n 0, 1) := by decide +kernel
theorem dX8_whyNot_45 : decode cX8_whyNot 45 = .ok (.getfield 7, 3) := by decide +kernel
theorem dX8_whyNot_48 : decode cX8_whyNot 48 = .ok (.bipush 6, 2) := by decide +kernel
theorem dX8_whyNot_50 : decode cX8_whyNot 50 = .ok (.iaload, 1) := by decide +kernel
theorem dX8_whyNot_51 : decode cX8_whyNot 51 = .ok (.if_icmp .ge 49, 3) := by decide +kernel
theorem dX8_whyNot_54 : decode cX8_whyNot 54 = .ok (.aload_n 0, 1) := by decide +kernel
theorem dX8_whyNot_55 : decode cX8_whyNot 55 = .ok (.iload_n 1, 1) := by decide +kernel
theorem dX8_whyNot_56 : decode cX8_whyNot 56 = .ok (.iload_n 2, 1) := by decide +kernel
theorem dX8_whyNot_57 : decode cX8_whyNot 57 = .ok (.invokevirtual 91, 3) := by decide +kernel
theorem dX8_whyNot_60 : decode cX8_whyNot 60 = .ok (.ifCond .eq 34, 3) := by decide +kernel
theorem dX8_whyNot_63 : decode cX8_whyNot 63 = .ok (.aload_n 0, 1) := by decide +kernel
theorem dX8_whyNot_64 : decode cX8_whyNot 64 = .ok (.getfield 7, 3) := by decide +kernel
theorem dX8_whyNot_67 : decode cX8_whyNot 67 = .ok (.iconst 2, 1) := by decide +kernel
theorem dX8_whyNot_68 : decode cX8_whyNot 68 = .ok (.iaload, 1) := by decide +kernel
theorem dX8_whyNot_69 : decode cX8_whyNot 69 = .ok (.aload_n 0, 1) := by decide +kernel
theorem dX8_whyNot_70 : decode cX8_whyNot 70 = .ok (.iload_n 1, 1) := by decide +kernel
theorem dX8_whyNot_71 : decode cX8_whyNot 71 = .ok (.iload_n 2, 1) := by decide +kernel
theorem dX8_whyNot_72 : decode cX8_whyNot 72 = .ok (.invokevirtual 94, 3) := by decide +kernel
theorem dX8_whyNot_75 : decode cX8_whyNot 75 = .ok (.iconst 1, 1) := by decide +kernel
theorem dX8_whyNot_76 : decode cX8_whyNot 76 = .ok (.isub, 1) := by decide +kernel
theorem dX8_whyNot_77 : decode cX8_whyNot 77 = .ok (.imul, 1) := by decide +kernel
theorem dX8_whyNot_78 : decode cX8_whyNot 78 = .ok (.iconst 2, 1) := by decide +kernel
theorem dX8_whyNot_79 : decode cX8_whyNot 79 = .ok (.aload_n 0, 1) := by decide +kernel
theorem dX8_whyNot_80 : decode cX8_whyNot 80 = .ok (.getfield 7, 3) := by decide +kernel
theorem dX8_whyNot_83 : decode cX8_whyNot 83 = .ok (.iconst 3, 1) := by decide +kernel
theorem dX8_whyNot_84 : decode cX8_whyNot 84 = .ok (.iaload, 1) := by decide +kernel
theorem dX8_whyNot_85 : decode cX8_whyNot 85 = .ok (.imul, 1) := by decide +kernel
theorem dX8_whyNot_86 : decode cX8_whyNot 86 = .ok (.if_icmp .le 8, 3) := by decide +kernel
theorem dX8_whyNot_89 : decode cX8_whyNot 89 = .ok (.bipush 100, 2) := by decide +kernel
theorem dX8_whyNot_91 : decode cX8_whyNot 91 = .ok (.iload_n 1, 1) := by decide +kernel
theorem dX8_whyNot_92 : decode cX8_whyNot 92 = .ok (.iadd, 1) := by decide +kernel
theorem dX8_whyNot_93 : decode cX8_whyNot 93 = .ok (.ireturn, 1) := by decide +kernel
theorem dX8_whyNot_94 : decode cX8_whyNot 94 = .ok (.iinc 2 1, 3) := by decide +kernel
theorem dX8_whyNot_97 : decode cX8_whyNot 97 = .ok (.goto (-54), 3) := by decide +kernel
theorem dX8_whyNot_100 : decode cX8_whyNot 100 = .ok (.iinc 1 1, 3) := by decide +kernel
theorem dX8_whyNot_103 : decode cX8_whyNot 103 = .ok (.goto (-72), 3) := by decide +kernel
theorem dX8_whyNot_106 : decode cX8_whyNot 106 = .ok (.iconst (-1), 1) := by decide +kernel
theorem dX8_whyNot_107 : decode cX8_whyNot 107 = .ok (.ireturn, 1) := by decide +kernel
theorem dX8_walks_0 : decode cX8_walks 0 = .ok (.aload_n 0, 1) := by decide +kernel
theorem dX8_walks_1 : decode cX8_walks 1 = .ok (.iconst 0, 1) := by decide +kernel
theorem dX8_walks_2 : decode cX8_walks 2 = .ok (.putfield 34, 3) := by decide +kernel
theorem dX8_walks_5 : decode cX8_walks 5 = .ok (.aload_n 0, 1) := by decide +kernel
theorem dX8_walks_6 : decode cX8_walks 6 = .ok (.invokevirtual 49, 3) := by decide +kernel
theorem dX8_walks_9 : decode cX8_walks 9 = .ok (.aload_n 0, 1) := by decide +kernel
theorem dX8_walks_10 : decode cX8_walks 10 = .ok (.invokevirtual 143, 3) := by decide +kernel
theorem dX8_walks_13 : decode cX8_walks 13 = .ok (.iconst (-1), 1) := by decide +kernel
theorem dX8_walks_14 : decode cX8_walks 14 = .ok (.if_icmp .ne 7, 3) := by decide +kernel
theorem dX8_walks_17 : decode cX8_walks 17 = .ok (.iconst 1, 1) := by decide +kernel
theorem dX8_walks_18 : decode cX8_walks 18 = .ok (.goto 4, 3) := by decide +kernel
theorem dX8_walks_21 : decode cX8_walks 21 = .ok (.iconst 0, 1) := by decide +kernel
theorem dX8_walks_22 : decode cX8_walks 22 = .ok (.ireturn, 1) := by decide +kernel
theorem dX8_why_0 : decode cX8_why 0 = .ok (.aload_n 0, 1) := by decide +kernel
theorem dX8_why_1 : decode cX8_why 1 = .ok (.iconst 0, 1) := by decide +kernel
theorem dX8_why_2 : decode cX8_why 2 = .ok (.putfield 34, 3) := by decide +kernel
theorem dX8_why_5 : decode cX8_why 5 = .ok (.aload_n 0, 1) := by decide +kernel
theorem dX8_why_6 : decode cX8_why 6 = .ok (.invokevirtual 49, 3) := by decide +kernel
theorem dX8_why_9 : decode cX8_why 9 = .ok (.aload_n 0, 1) := by decide +kernel
theorem dX8_why_10 : decode cX8_why 10 = .ok (.invokevirtual 143, 3) := by decide +kernel
theorem dX8_why_13 : decode cX8_why 13 = .ok (.ireturn, 1) := by decide +kernel
theorem dX8_common_0 : decode cX8_common 0 = .ok (.lload_n 1, 1) := by decide +kernel
theorem dX8_common_1 : decode cX8_common 1 = .ok (.lconst 0, 1) := by decide +kernel
theorem dX8_common_2 : decode cX8_common 2 = .ok (.lcmp, 1) := by decide +kernel
theorem dX8_common_3 : decode cX8_common 3 = .ok (.ifCond .ge 8, 3) := by decide +kernel
theorem dX8_common_6 : decode cX8_common 6 = .ok (.lload_n 1, 1) := by decide +kernel
theorem dX8_common_7 : decode cX8_common 7 = .ok (.lneg, 1) := by decide +kernel
theorem dX8_common_8 : decode cX8_common 8 = .ok (.goto 4, 3) := by decide +kernel
theorem dX8_common_11 : decode cX8_common 11 = .ok (.lload_n 1, 1) := by decide +kernel
theorem dX8_common_12 : decode cX8_common 12 = .ok (.lstore 5, 2) := by decide +kernel
theorem dX8_common_14 : decode cX8_common 14 = .ok (.lload_n 3, 1) := by decide +kernel
theorem dX8_common_15 : decode cX8_common 15 = .ok (.lstore 7, 2) := by decide +kernel
theorem dX8_common_17 : decode cX8_common 17 = .ok (.lload 7, 2) := by decide +kernel
theorem dX8_common_19 : decode cX8_common 19 = .ok (.lconst 0, 1) := by decide +kernel
theorem dX8_common_20 : decode cX8_common 20 = .ok (.lcmp, 1) := by decide +kernel
theorem dX8_common_21 : decode cX8_common 21 = .ok (.ifCond .le 21, 3) := by decide +kernel
theorem dX8_common_24 : decode cX8_common 24 = .ok (.lload 5, 2) := by decide +kernel
theorem dX8_common_26 : decode cX8_common 26 = .ok (.lload 7, 2) := by decide +kernel
theorem dX8_common_28 : decode cX8_common 28 = .ok (.lrem, 1) := by decide +kernel
theorem dX8_common_29 : decode cX8_common 29 = .ok (.lstore 9, 2) := by decide +kernel
theorem dX8_common_31 : decode cX8_common 31 = .ok (.lload 7, 2) := by decide +kernel
theorem dX8_common_33 : decode cX8_common 33 = .ok (.lstore 5, 2) := by decide +kernel
theorem dX8_common_35 : decode cX8_common 35 = .ok (.lload 9, 2) := by decide +kernel
theorem dX8_common_37 : decode cX8_common 37 = .ok (.lstore 7, 2) := by decide +kernel
theorem dX8_common_39 : decode cX8_common 39 = .ok (.goto (-22), 3) := by decide +kernel
theorem dX8_common_42 : decode cX8_common 42 = .ok (.lload 5, 2) := by decide +kernel
theorem dX8_common_44 : decode cX8_common 44 = .ok (.lreturn, 1) := by decide +kernel
theorem dX8_share_0 : decode cX8_share 0 = .ok (.aload_n 0, 1) := by decide +kernel
theorem dX8_share_1 : decode cX8_share 1 = .ok (.lload_n 1, 1) := by decide +kernel
theorem dX8_share_2 : decode cX8_share 2 = .ok (.lload_n 3, 1) := by decide +kernel
theorem dX8_share_3 : decode cX8_share 3 = .ok (.invokevirtual 147, 3) := by decide +kernel
theorem dX8_share_6 : decode cX8_share 6 = .ok (.lstore 5, 2) := by decide +kernel
theorem dX8_share_8 : decode cX8_share 8 = .ok (.aload_n 0, 1) := by decide +kernel
theorem dX8_share_9 : decode cX8_share 9 = .ok (.lload_n 1, 1) := by decide +kernel
theorem dX8_share_10 : decode cX8_share 10 = .ok (.lload 5, 2) := by decide +kernel
theorem dX8_share_12 : decode cX8_share 12 = .ok (.ldiv, 1) := by decide +kernel
theorem dX8_share_13 : decode cX8_share 13 = .ok (.putfield 151, 3) := by decide +kernel
theorem dX8_share_16 : decode cX8_share 16 = .ok (.aload_n 0, 1) := by decide +kernel
theorem dX8_share_17 : decode cX8_share 17 = .ok (.lload_n 3, 1) := by decide +kernel
theorem dX8_share_18 : decode cX8_share 18 = .ok (.lload 5, 2) := by decide +kernel
theorem dX8_share_20 : decode cX8_share 20 = .ok (.ldiv, 1) := by decide +kernel
theorem dX8_share_21 : decode cX8_share 21 = .ok (.putfield 155, 3) := by decide +kernel
theorem dX8_share_24 : decode cX8_share 24 = .ok (.return_, 1) := by decide +kernel
theorem dX8_marginAt_0 : decode cX8_marginAt 0 = .ok (.aload_n 0, 1) := by decide +kernel
theorem dX8_marginAt_1 : decode cX8_marginAt 1 = .ok (.iload_n 1, 1) := by decide +kernel
theorem dX8_marginAt_2 : decode cX8_marginAt 2 = .ok (.invokevirtual 130, 3) := by decide +kernel
theorem dX8_marginAt_5 : decode cX8_marginAt 5 = .ok (.aload_n 0, 1) := by decide +kernel
theorem dX8_marginAt_6 : decode cX8_marginAt 6 = .ok (.iconst 2, 1) := by decide +kernel
theorem dX8_marginAt_7 : decode cX8_marginAt 7 = .ok (.aload_n 0, 1) := by decide +kernel
theorem dX8_marginAt_8 : decode cX8_marginAt 8 = .ok (.getfield 7, 3) := by decide +kernel
theorem dX8_marginAt_11 : decode cX8_marginAt 11 = .ok (.iconst 4, 1) := by decide +kernel
theorem dX8_marginAt_12 : decode cX8_marginAt 12 = .ok (.iaload, 1) := by decide +kernel
theorem dX8_marginAt_13 : decode cX8_marginAt 13 = .ok (.imul, 1) := by decide +kernel
theorem dX8_marginAt_14 : decode cX8_marginAt 14 = .ok (.invokevirtual 134, 3) := by decide +kernel
theorem dX8_marginAt_17 : decode cX8_marginAt 17 = .ok (.aload_n 0, 1) := by decide +kernel
theorem dX8_marginAt_18 : decode cX8_marginAt 18 = .ok (.getfield 103, 3) := by decide +kernel
theorem dX8_marginAt_21 : decode cX8_marginAt 21 = .ok (.ifCond .ne 5, 3) := by decide +kernel
theorem dX8_marginAt_24 : decode cX8_marginAt 24 = .ok (.iconst 0, 1) := by decide +kernel
theorem dX8_marginAt_25 : decode cX8_marginAt 25 = .ok (.ireturn, 1) := by decide +kernel
theorem dX8_marginAt_26 : decode cX8_marginAt 26 = .ok (.ldc2_w 158, 3) := by decide +kernel
theorem dX8_marginAt_29 : decode cX8_marginAt 29 = .ok (.aload_n 0, 1) := by decide +kernel
theorem dX8_marginAt_30 : decode cX8_marginAt 30 = .ok (.getfield 7, 3) := by decide +kernel
theorem dX8_marginAt_33 : decode cX8_marginAt 33 = .ok (.iconst 5, 1) := by decide +kernel
theorem dX8_marginAt_34 : decode cX8_marginAt 34 = .ok (.iaload, 1) := by decide +kernel
theorem dX8_marginAt_35 : decode cX8_marginAt 35 = .ok (.i2l, 1) := by decide +kernel
theorem dX8_marginAt_36 : decode cX8_marginAt 36 = .ok (.lmul, 1) := by decide +kernel
theorem dX8_marginAt_37 : decode cX8_marginAt 37 = .ok (.lstore_n 2, 1) := by decide +kernel
theorem dX8_marginAt_38 : decode cX8_marginAt 38 = .ok (.lload_n 2, 1) := by decide +kernel
theorem dX8_marginAt_39 : decode cX8_marginAt 39 = .ok (.aload_n 0, 1) := by decide +kernel
theorem dX8_marginAt_40 : decode cX8_marginAt 40 = .ok (.getfield 106, 3) := by decide +kernel
theorem dX8_marginAt_43 : decode cX8_marginAt 43 = .ok (.i2l, 1) := by decide +kernel
theorem dX8_marginAt_44 : decode cX8_marginAt 44 = .ok (.lmul, 1) := by decide +kernel
theorem dX8_marginAt_45 : decode cX8_marginAt 45 = .ok (.aload_n 0, 1) := by decide +kernel
theorem dX8_marginAt_46 : decode cX8_marginAt 46 = .ok (.getfield 109, 3) := by decide +kernel
theorem dX8_marginAt_49 : decode cX8_marginAt 49 = .ok (.i2l, 1) := by decide +kernel
theorem dX8_marginAt_50 : decode cX8_marginAt 50 = .ok (.lsub, 1) := by decide +kernel
theorem dX8_marginAt_51 : decode cX8_marginAt 51 = .ok (.lstore 4, 2) := by decide +kernel
theorem dX8_marginAt_53 : decode cX8_marginAt 53 = .ok (.aload_n 0, 1) := by decide +kernel
theorem dX8_marginAt_54 : decode cX8_marginAt 54 = .ok (.getfield 115, 3) := by decide +kernel
theorem dX8_marginAt_57 : decode cX8_marginAt 57 = .ok (.i2l, 1) := by decide +kernel
theorem dX8_marginAt_58 : decode cX8_marginAt 58 = .ok (.lload_n 2, 1) := by decide +kernel
theorem dX8_marginAt_59 : decode cX8_marginAt 59 = .ok (.aload_n 0, 1) := by decide +kernel
theorem dX8_marginAt_60 : decode cX8_marginAt 60 = .ok (.getfield 112, 3) := by decide +kernel
theorem dX8_marginAt_63 : decode cX8_marginAt 63 = .ok (.i2l, 1) := by decide +kernel
theorem dX8_marginAt_64 : decode cX8_marginAt 64 = .ok (.lmul, 1) := by decide +kernel
theorem dX8_marginAt_65 : decode cX8_marginAt 65 = .ok (.lsub, 1) := by decide +kernel
theorem dX8_marginAt_66 : decode cX8_marginAt 66 = .ok (.lstore 6, 2) := by decide +kernel
theorem dX8_marginAt_68 : decode cX8_marginAt 68 = .ok (.lload 4, 2) := by decide +kernel
theorem dX8_marginAt_70 : decode cX8_marginAt 70 = .ok (.aload_n 0, 1) := by decide +kernel
theorem dX8_marginAt_71 : decode cX8_marginAt 71 = .ok (.getfield 112, 3) := by decide +kernel
theorem dX8_marginAt_74 : decode cX8_marginAt 74 = .ok (.i2l, 1) := by decide +kernel
theorem dX8_marginAt_75 : decode cX8_marginAt 75 = .ok (.lmul, 1) := by decide +kernel
theorem dX8_marginAt_76 : decode cX8_marginAt 76 = .ok (.lload 6, 2) := by decide +kernel
theorem dX8_marginAt_78 : decode cX8_marginAt 78 = .ok (.aload_n 0, 1) := by decide +kernel
theorem dX8_marginAt_79 : decode cX8_marginAt 79 = .ok (.getfield 106, 3) := by decide +kernel
theorem dX8_marginAt_82 : decode cX8_marginAt 82 = .ok (.i2l, 1) := by decide +kernel
theorem dX8_marginAt_83 : decode cX8_marginAt 83 = .ok (.lmul, 1) := by decide +kernel
theorem dX8_marginAt_84 : decode cX8_marginAt 84 = .ok (.lcmp, 1) := by decide +kernel
theorem dX8_marginAt_85 : decode cX8_marginAt 85 = .ok (.ifCond .gt 21, 3) := by decide +kernel
theorem dX8_marginAt_88 : decode cX8_marginAt 88 = .ok (.aload_n 0, 1) := by decide +kernel
theorem dX8_marginAt_89 : decode cX8_marginAt 89 = .ok (.lload 4, 2) := by decide +kernel
theorem dX8_marginAt_91 : decode cX8_marginAt 91 = .ok (.ldc2_w 158, 3) := by decide +kernel
theorem dX8_marginAt_94 : decode cX8_marginAt 94 = .ok (.aload_n 0, 1) := by decide +kernel
theorem dX8_marginAt_95 : decode cX8_marginAt 95 = .ok (.getfield 106, 3) := by decide +kernel
theorem dX8_marginAt_98 : decode cX8_marginAt 98 = .ok (.i2l, 1) := by decide +kernel
theorem dX8_marginAt_99 : decode cX8_marginAt 99 = .ok (.lmul, 1) := by decide +kernel
theorem dX8_marginAt_100 : decode cX8_marginAt 100 = .ok (.invokevirtual 160, 3) := by decide +kernel
theorem dX8_marginAt_103 : decode cX8_marginAt 103 = .ok (.goto 18, 3) := by decide +kernel
theorem dX8_marginAt_106 : decode cX8_marginAt 106 = .ok (.aload_n 0, 1) := by decide +kernel
theorem dX8_marginAt_107 : decode cX8_marginAt 107 = .ok (.lload 6, 2) := by decide +kernel
theorem dX8_marginAt_109 : decode cX8_marginAt 109 = .ok (.ldc2_w 158, 3) := by decide +kernel
theorem dX8_marginAt_112 : decode cX8_marginAt 112 = .ok (.aload_n 0, 1) := by decide +kernel
theorem dX8_marginAt_113 : decode cX8_marginAt 113 = .ok (.getfield 112, 3) := by decide +kernel
theorem dX8_marginAt_116 : decode cX8_marginAt 116 = .ok (.i2l, 1) := by decide +kernel
theorem dX8_marginAt_117 : decode cX8_marginAt 117 = .ok (.lmul, 1) := by decide +kernel
theorem dX8_marginAt_118 : decode cX8_marginAt 118 = .ok (.invokevirtual 160, 3) := by decide +kernel
theorem dX8_marginAt_121 : decode cX8_marginAt 121 = .ok (.iconst 1, 1) := by decide +kernel
theorem dX8_marginAt_122 : decode cX8_marginAt 122 = .ok (.ireturn, 1) := by decide +kernel
theorem dX8_margin_0 : decode cX8_margin 0 = .ok (.aload_n 0, 1) := by decide +kernel
theorem dX8_margin_1 : decode cX8_margin 1 = .ok (.iconst 0, 1) := by decide +kernel
theorem dX8_margin_2 : decode cX8_margin 2 = .ok (.putfield 34, 3) := by decide +kernel
theorem dX8_margin_5 : decode cX8_margin 5 = .ok (.aload_n 0, 1) := by decide +kernel
theorem dX8_margin_6 : decode cX8_margin 6 = .ok (.invokevirtual 49, 3) := by decide +kernel
theorem dX8_margin_9 : decode cX8_margin 9 = .ok (.aload_n 0, 1) := by decide +kernel
theorem dX8_margin_10 : decode cX8_margin 10 = .ok (.iload_n 1, 1) := by decide +kernel
theorem dX8_margin_11 : decode cX8_margin 11 = .ok (.invokevirtual 71, 3) := by decide +kernel
theorem dX8_margin_14 : decode cX8_margin 14 = .ok (.ifCond .eq 20, 3) := by decide +kernel
theorem dX8_margin_17 : decode cX8_margin 17 = .ok (.iload_n 2, 1) := by decide +kernel
theorem dX8_margin_18 : decode cX8_margin 18 = .ok (.ifCond .lt 16, 3) := by decide +kernel
theorem dX8_margin_21 : decode cX8_margin 21 = .ok (.iload_n 2, 1) := by decide +kernel
theorem dX8_margin_22 : decode cX8_margin 22 = .ok (.iconst 1, 1) := by decide +kernel
theorem dX8_margin_23 : decode cX8_margin 23 = .ok (.if_icmp .gt 11, 3) := by decide +kernel
theorem dX8_margin_26 : decode cX8_margin 26 = .ok (.aload_n 0, 1) := by decide +kernel
theorem dX8_margin_27 : decode cX8_margin 27 = .ok (.iload_n 1, 1) := by decide +kernel
theorem dX8_margin_28 : decode cX8_margin 28 = .ok (.invokevirtual 164, 3) := by decide +kernel
theorem dX8_margin_31 : decode cX8_margin 31 = .ok (.ifCond .ne 7, 3) := by decide +kernel
theorem dX8_margin_34 : decode cX8_margin 34 = .ok (.ldc2_w 167, 3) := by decide +kernel
theorem dX8_margin_37 : decode cX8_margin 37 = .ok (.lreturn, 1) := by decide +kernel
theorem dX8_margin_38 : decode cX8_margin 38 = .ok (.iload_n 2, 1) := by decide +kernel
theorem dX8_margin_39 : decode cX8_margin 39 = .ok (.ifCond .ne 10, 3) := by decide +kernel
theorem dX8_margin_42 : decode cX8_margin 42 = .ok (.aload_n 0, 1) := by decide +kernel
theorem dX8_margin_43 : decode cX8_margin 43 = .ok (.getfield 151, 3) := by decide +kernel
theorem dX8_margin_46 : decode cX8_margin 46 = .ok (.goto 7, 3) := by decide +kernel
theorem dX8_margin_49 : decode cX8_margin 49 = .ok (.aload_n 0, 1) := by decide +kernel
theorem dX8_margin_50 : decode cX8_margin 50 = .ok (.getfield 155, 3) := by decide +kernel
theorem dX8_margin_53 : decode cX8_margin 53 = .ok (.lreturn, 1) := by decide +kernel
theorem dX8_worsts_0 : decode cX8_worsts 0 = .ok (.aload_n 0, 1) := by decide +kernel
theorem dX8_worsts_1 : decode cX8_worsts 1 = .ok (.iconst (-1), 1) := by decide +kernel
theorem dX8_worsts_2 : decode cX8_worsts 2 = .ok (.putfield 169, 3) := by decide +kernel
theorem dX8_worsts_5 : decode cX8_worsts 5 = .ok (.iconst 0, 1) := by decide +kernel
theorem dX8_worsts_6 : decode cX8_worsts 6 = .ok (.istore_n 1, 1) := by decide +kernel
theorem dX8_worsts_7 : decode cX8_worsts 7 = .ok (.iload_n 1, 1) := by decide +kernel
theorem dX8_worsts_8 : decode cX8_worsts 8 = .ok (.aload_n 0, 1) := by decide +kernel
theorem dX8_worsts_9 : decode cX8_worsts 9 = .ok (.getfield 7, 3) := by decide +kernel
theorem dX8_worsts_12 : decode cX8_worsts 12 = .ok (.bipush 6, 2) := by decide +kernel
theorem dX8_worsts_14 : decode cX8_worsts 14 = .ok (.iaload, 1) := by decide +kernel
theorem dX8_worsts_15 : decode cX8_worsts 15 = .ok (.if_icmp .ge 88, 3) := by decide +kernel
theorem dX8_worsts_18 : decode cX8_worsts 18 = .ok (.aload_n 0, 1) := by decide +kernel
theorem dX8_worsts_19 : decode cX8_worsts 19 = .ok (.getfield 7, 3) := by decide +kernel
theorem dX8_worsts_22 : decode cX8_worsts 22 = .ok (.bipush 23, 2) := by decide +kernel
theorem dX8_worsts_24 : decode cX8_worsts 24 = .ok (.iload_n 1, 1) := by decide +kernel
theorem dX8_worsts_25 : decode cX8_worsts 25 = .ok (.iadd, 1) := by decide +kernel
theorem dX8_worsts_26 : decode cX8_worsts 26 = .ok (.iaload, 1) := by decide +kernel
theorem dX8_worsts_27 : decode cX8_worsts 27 = .ok (.ifCond .ne 6, 3) := by decide +kernel
theorem dX8_worsts_30 : decode cX8_worsts 30 = .ok (.goto 67, 3) := by decide +kernel
theorem dX8_worsts_33 : decode cX8_worsts 33 = .ok (.aload_n 0, 1) := by decide +kernel
theorem dX8_worsts_34 : decode cX8_worsts 34 = .ok (.iload_n 1, 1) := by decide +kernel
theorem dX8_worsts_35 : decode cX8_worsts 35 = .ok (.invokevirtual 164, 3) := by decide +kernel
theorem dX8_worsts_38 : decode cX8_worsts 38 = .ok (.ifCond .ne 5, 3) := by decide +kernel
theorem dX8_worsts_41 : decode cX8_worsts 41 = .ok (.iconst 0, 1) := by decide +kernel
theorem dX8_worsts_42 : decode cX8_worsts 42 = .ok (.ireturn, 1) := by decide +kernel
theorem dX8_worsts_43 : decode cX8_worsts 43 = .ok (.aload_n 0, 1) := by decide +kernel
theorem dX8_worsts_44 : decode cX8_worsts 44 = .ok (.getfield 169, 3) := by decide +kernel
theorem dX8_worsts_47 : decode cX8_worsts 47 = .ok (.iconst (-1), 1) := by decide +kernel
theorem dX8_worsts_48 : decode cX8_worsts 48 = .ok (.if_icmp .eq 28, 3) := by decide +kernel
theorem dX8_worsts_51 : decode cX8_worsts 51 = .ok (.aload_n 0, 1) := by decide +kernel
theorem dX8_worsts_52 : decode cX8_worsts 52 = .ok (.getfield 151, 3) := by decide +kernel
theorem dX8_worsts_55 : decode cX8_worsts 55 = .ok (.aload_n 0, 1) := by decide +kernel
theorem dX8_worsts_56 : decode cX8_worsts 56 = .ok (.getfield 172, 3) := by decide +kernel
theorem dX8_worsts_59 : decode cX8_worsts 59 = .ok (.lmul, 1) := by decide +kernel
theorem dX8_worsts_60 : decode cX8_worsts 60 = .ok (.aload_n 0, 1) := by decide +kernel
theorem dX8_worsts_61 : decode cX8_worsts 61 = .ok (.getfield 175, 3) := by decide +kernel
theorem dX8_worsts_64 : decode cX8_worsts 64 = .ok (.aload_n 0, 1) := by decide +kernel
theorem dX8_worsts_65 : decode cX8_worsts 65 = .ok (.getfield 155, 3) := by decide +kernel
theorem dX8_worsts_68 : decode cX8_worsts 68 = .ok (.lmul, 1) := by decide +kernel
theorem dX8_worsts_69 : decode cX8_worsts 69 = .ok (.lcmp, 1) := by decide +kernel
theorem dX8_worsts_70 : decode cX8_worsts 70 = .ok (.ifCond .lt 6, 3) := by decide +kernel
theorem dX8_worsts_73 : decode cX8_worsts 73 = .ok (.goto 24, 3) := by decide +kernel
theorem dX8_worsts_76 : decode cX8_worsts 76 = .ok (.aload_n 0, 1) := by decide +kernel
theorem dX8_worsts_77 : decode cX8_worsts 77 = .ok (.iload_n 1, 1) := by decide +kernel
theorem dX8_worsts_78 : decode cX8_worsts 78 = .ok (.putfield 169, 3) := by decide +kernel
theorem dX8_worsts_81 : decode cX8_worsts 81 = .ok (.aload_n 0, 1) := by decide +kernel
theorem dX8_worsts_82 : decode cX8_worsts 82 = .ok (.aload_n 0, 1) := by decide +kernel
theorem dX8_worsts_83 : decode cX8_worsts 83 = .ok (.getfield 151, 3) := by decide +kernel
theorem dX8_worsts_86 : decode cX8_worsts 86 = .ok (.putfield 175, 3) := by decide +kernel
theorem dX8_worsts_89 : decode cX8_worsts 89 = .ok (.aload_n 0, 1) := by decide +kernel
theorem dX8_worsts_90 : decode cX8_worsts 90 = .ok (.aload_n 0, 1) := by decide +kernel
theorem dX8_worsts_91 : decode cX8_worsts 91 = .ok (.getfield 155, 3) := by decide +kernel
theorem dX8_worsts_94 : decode cX8_worsts 94 = .ok (.putfield 172, 3) := by decide +kernel
theorem dX8_worsts_97 : decode cX8_worsts 97 = .ok (.iinc 1 1, 3) := by decide +kernel
theorem dX8_worsts_100 : decode cX8_worsts 100 = .ok (.goto (-93), 3) := by decide +kernel
theorem dX8_worsts_103 : decode cX8_worsts 103 = .ok (.aload_n 0, 1) := by decide +kernel
theorem dX8_worsts_104 : decode cX8_worsts 104 = .ok (.getfield 169, 3) := by decide +kernel
theorem dX8_worsts_107 : decode cX8_worsts 107 = .ok (.iconst (-1), 1) := by decide +kernel
theorem dX8_worsts_108 : decode cX8_worsts 108 = .ok (.if_icmp .eq 7, 3) := by decide +kernel
theorem dX8_worsts_111 : decode cX8_worsts 111 = .ok (.iconst 1, 1) := by decide +kernel
theorem dX8_worsts_112 : decode cX8_worsts 112 = .ok (.goto 4, 3) := by decide +kernel
theorem dX8_worsts_115 : decode cX8_worsts 115 = .ok (.iconst 0, 1) := by decide +kernel
theorem dX8_worsts_116 : decode cX8_worsts 116 = .ok (.ireturn, 1) := by decide +kernel
theorem dX8_worst_0 : decode cX8_worst 0 = .ok (.aload_n 0, 1) := by decide +kernel
theorem dX8_worst_1 : decode cX8_worst 1 = .ok (.iconst 0, 1) := by decide +kernel
theorem dX8_worst_2 : decode cX8_worst 2 = .ok (.putfield 34, 3) := by decide +kernel
theorem dX8_worst_5 : decode cX8_worst 5 = .ok (.aload_n 0, 1) := by decide +kernel
theorem dX8_worst_6 : decode cX8_worst 6 = .ok (.invokevirtual 49, 3) := by decide +kernel
theorem dX8_worst_9 : decode cX8_worst 9 = .ok (.iload_n 1, 1) := by decide +kernel
theorem dX8_worst_10 : decode cX8_worst 10 = .ok (.ifCond .lt 15, 3) := by decide +kernel
theorem dX8_worst_13 : decode cX8_worst 13 = .ok (.iload_n 1, 1) := by decide +kernel
theorem dX8_worst_14 : decode cX8_worst 14 = .ok (.iconst 2, 1) := by decide +kernel
theorem dX8_worst_15 : decode cX8_worst 15 = .ok (.if_icmp .gt 10, 3) := by decide +kernel
theorem dX8_worst_18 : decode cX8_worst 18 = .ok (.aload_n 0, 1) := by decide +kernel
theorem dX8_worst_19 : decode cX8_worst 19 = .ok (.invokevirtual 178, 3) := by decide +kernel
theorem dX8_worst_22 : decode cX8_worst 22 = .ok (.ifCond .ne 7, 3) := by decide +kernel
theorem dX8_worst_25 : decode cX8_worst 25 = .ok (.ldc2_w 167, 3) := by decide +kernel
theorem dX8_worst_28 : decode cX8_worst 28 = .ok (.lreturn, 1) := by decide +kernel
theorem dX8_worst_29 : decode cX8_worst 29 = .ok (.iload_n 1, 1) := by decide +kernel
theorem dX8_worst_30 : decode cX8_worst 30 = .ok (.ifCond .ne 10, 3) := by decide +kernel
theorem dX8_worst_33 : decode cX8_worst 33 = .ok (.aload_n 0, 1) := by decide +kernel
theorem dX8_worst_34 : decode cX8_worst 34 = .ok (.getfield 175, 3) := by decide +kernel
theorem dX8_worst_37 : decode cX8_worst 37 = .ok (.goto 20, 3) := by decide +kernel
theorem dX8_worst_40 : decode cX8_worst 40 = .ok (.iload_n 1, 1) := by decide +kernel
theorem dX8_worst_41 : decode cX8_worst 41 = .ok (.iconst 1, 1) := by decide +kernel
theorem dX8_worst_42 : decode cX8_worst 42 = .ok (.if_icmp .ne 10, 3) := by decide +kernel
theorem dX8_worst_45 : decode cX8_worst 45 = .ok (.aload_n 0, 1) := by decide +kernel
theorem dX8_worst_46 : decode cX8_worst 46 = .ok (.getfield 172, 3) := by decide +kernel
theorem dX8_worst_49 : decode cX8_worst 49 = .ok (.goto 8, 3) := by decide +kernel
theorem dX8_worst_52 : decode cX8_worst 52 = .ok (.aload_n 0, 1) := by decide +kernel
theorem dX8_worst_53 : decode cX8_worst 53 = .ok (.getfield 169, 3) := by decide +kernel
theorem dX8_worst_56 : decode cX8_worst 56 = .ok (.i2l, 1) := by decide +kernel
theorem dX8_worst_57 : decode cX8_worst 57 = .ok (.lreturn, 1) := by decide +kernel
theorem dX8_fastest_0 : decode cX8_fastest 0 = .ok (.aload_n 0, 1) := by decide +kernel
theorem dX8_fastest_1 : decode cX8_fastest 1 = .ok (.iconst 0, 1) := by decide +kernel
theorem dX8_fastest_2 : decode cX8_fastest 2 = .ok (.putfield 34, 3) := by decide +kernel
theorem dX8_fastest_5 : decode cX8_fastest 5 = .ok (.aload_n 0, 1) := by decide +kernel
theorem dX8_fastest_6 : decode cX8_fastest 6 = .ok (.invokevirtual 49, 3) := by decide +kernel
theorem dX8_fastest_9 : decode cX8_fastest 9 = .ok (.aload_n 0, 1) := by decide +kernel
theorem dX8_fastest_10 : decode cX8_fastest 10 = .ok (.getfield 7, 3) := by decide +kernel
theorem dX8_fastest_13 : decode cX8_fastest 13 = .ok (.iconst 2, 1) := by decide +kernel
theorem dX8_fastest_14 : decode cX8_fastest 14 = .ok (.iaload, 1) := by decide +kernel
theorem dX8_fastest_15 : decode cX8_fastest 15 = .ok (.istore_n 1, 1) := by decide +kernel
theorem dX8_fastest_16 : decode cX8_fastest 16 = .ok (.iconst (-1), 1) := by decide +kernel
theorem dX8_fastest_17 : decode cX8_fastest 17 = .ok (.istore_n 2, 1) := by decide +kernel
theorem dX8_fastest_18 : decode cX8_fastest 18 = .ok (.iconst 0, 1) := by decide +kernel
theorem dX8_fastest_19 : decode cX8_fastest 19 = .ok (.istore_n 3, 1) := by decide +kernel
theorem dX8_fastest_20 : decode cX8_fastest 20 = .ok (.iload_n 3, 1) := by decide +kernel
theorem dX8_fastest_21 : decode cX8_fastest 21 = .ok (.bipush 9, 2) := by decide +kernel
theorem dX8_fastest_23 : decode cX8_fastest 23 = .ok (.if_icmp .gt 26, 3) := by decide +kernel
theorem dX8_fastest_26 : decode cX8_fastest 26 = .ok (.aload_n 0, 1) := by decide +kernel
theorem dX8_fastest_27 : decode cX8_fastest 27 = .ok (.getfield 7, 3) := by decide +kernel
theorem dX8_fastest_30 : decode cX8_fastest 30 = .ok (.iconst 2, 1) := by decide +kernel
theorem dX8_fastest_31 : decode cX8_fastest 31 = .ok (.iload_n 3, 1) := by decide +kernel
theorem dX8_fastest_32 : decode cX8_fastest 32 = .ok (.iastore, 1) := by decide +kernel
theorem dX8_fastest_33 : decode cX8_fastest 33 = .ok (.aload_n 0, 1) := by decide +kernel
theorem dX8_fastest_34 : decode cX8_fastest 34 = .ok (.invokevirtual 143, 3) := by decide +kernel
theorem dX8_fastest_37 : decode cX8_fastest 37 = .ok (.iconst (-1), 1) := by decide +kernel
theorem dX8_fastest_38 : decode cX8_fastest 38 = .ok (.if_icmp .ne 5, 3) := by decide +kernel
theorem dX8_fastest_41 : decode cX8_fastest 41 = .ok (.iload_n 3, 1) := by decide +kernel
theorem dX8_fastest_42 : decode cX8_fastest 42 = .ok (.istore_n 2, 1) := by decide +kernel
theorem dX8_fastest_43 : decode cX8_fastest 43 = .ok (.iinc 3 1, 3) := by decide +kernel
theorem dX8_fastest_46 : decode cX8_fastest 46 = .ok (.goto (-26), 3) := by decide +kernel
theorem dX8_fastest_49 : decode cX8_fastest 49 = .ok (.aload_n 0, 1) := by decide +kernel
theorem dX8_fastest_50 : decode cX8_fastest 50 = .ok (.getfield 7, 3) := by decide +kernel
theorem dX8_fastest_53 : decode cX8_fastest 53 = .ok (.iconst 2, 1) := by decide +kernel
theorem dX8_fastest_54 : decode cX8_fastest 54 = .ok (.iload_n 1, 1) := by decide +kernel
theorem dX8_fastest_55 : decode cX8_fastest 55 = .ok (.iastore, 1) := by decide +kernel
theorem dX8_fastest_56 : decode cX8_fastest 56 = .ok (.iload_n 2, 1) := by decide +kernel
theorem dX8_fastest_57 : decode cX8_fastest 57 = .ok (.ireturn, 1) := by decide +kernel
theorem dX8_goAside_0 : decode cX8_goAside 0 = .ok (.iconst 0, 1) := by decide +kernel
theorem dX8_goAside_1 : decode cX8_goAside 1 = .ok (.istore_n 1, 1) := by decide +kernel
theorem dX8_goAside_2 : decode cX8_goAside 2 = .ok (.iload_n 1, 1) := by decide +kernel
theorem dX8_goAside_3 : decode cX8_goAside 3 = .ok (.bipush 48, 2) := by decide +kernel
theorem dX8_goAside_5 : decode cX8_goAside 5 = .ok (.if_icmp .ge 21, 3) := by decide +kernel
theorem dX8_goAside_8 : decode cX8_goAside 8 = .ok (.aload_n 0, 1) := by decide +kernel
theorem dX8_goAside_9 : decode cX8_goAside 9 = .ok (.getfield 22, 3) := by decide +kernel
theorem dX8_goAside_12 : decode cX8_goAside 12 = .ok (.iload_n 1, 1) := by decide +kernel
theorem dX8_goAside_13 : decode cX8_goAside 13 = .ok (.aload_n 0, 1) := by decide +kernel
theorem dX8_goAside_14 : decode cX8_goAside 14 = .ok (.getfield 7, 3) := by decide +kernel
theorem dX8_goAside_17 : decode cX8_goAside 17 = .ok (.iload_n 1, 1) := by decide +kernel
theorem dX8_goAside_18 : decode cX8_goAside 18 = .ok (.iaload, 1) := by decide +kernel
theorem dX8_goAside_19 : decode cX8_goAside 19 = .ok (.iastore, 1) := by decide +kernel
theorem dX8_goAside_20 : decode cX8_goAside 20 = .ok (.iinc 1 1, 3) := by decide +kernel
theorem dX8_goAside_23 : decode cX8_goAside 23 = .ok (.goto (-21), 3) := by decide +kernel
theorem dX8_goAside_26 : decode cX8_goAside 26 = .ok (.return_, 1) := by decide +kernel
theorem dX8_comeBack_0 : decode cX8_comeBack 0 = .ok (.iconst 0, 1) := by decide +kernel
theorem dX8_comeBack_1 : decode cX8_comeBack 1 = .ok (.istore_n 1, 1) := by decide +kernel
theorem dX8_comeBack_2 : decode cX8_comeBack 2 = .ok (.iload_n 1, 1) := by decide +kernel
theorem dX8_comeBack_3 : decode cX8_comeBack 3 = .ok (.bipush 48, 2) := by decide +kernel
theorem dX8_comeBack_5 : decode cX8_comeBack 5 = .ok (.if_icmp .ge 21, 3) := by decide +kernel
theorem dX8_comeBack_8 : decode cX8_comeBack 8 = .ok (.aload_n 0, 1) := by decide +kernel
theorem dX8_comeBack_9 : decode cX8_comeBack 9 = .ok (.getfield 7, 3) := by decide +kernel
theorem dX8_comeBack_12 : decode cX8_comeBack 12 = .ok (.iload_n 1, 1) := by decide +kernel
theorem dX8_comeBack_13 : decode cX8_comeBack 13 = .ok (.aload_n 0, 1) := by decide +kernel
theorem dX8_comeBack_14 : decode cX8_comeBack 14 = .ok (.getfield 22, 3) := by decide +kernel
theorem dX8_comeBack_17 : decode cX8_comeBack 17 = .ok (.iload_n 1, 1) := by decide +kernel
theorem dX8_comeBack_18 : decode cX8_comeBack 18 = .ok (.iaload, 1) := by decide +kernel
theorem dX8_comeBack_19 : decode cX8_comeBack 19 = .ok (.iastore, 1) := by decide +kernel
theorem dX8_comeBack_20 : decode cX8_comeBack 20 = .ok (.iinc 1 1, 3) := by decide +kernel
theorem dX8_comeBack_23 : decode cX8_comeBack 23 = .ok (.goto (-21), 3) := by decide +kernel
theorem dX8_comeBack_26 : decode cX8_comeBack 26 = .ok (.return_, 1) := by decide +kernel
theorem dX8_isRegular_0 : decode cX8_isRegular 0 = .ok (.iload_n 1, 1) := by decide +kernel
theorem dX8_isRegular_1 : decode cX8_isRegular 1 = .ok (.iconst 2, 1) := by decide +kernel
theorem dX8_isRegular_2 : decode cX8_isRegular 2 = .ok (.if_icmp .lt 23, 3) := by decide +kernel
theorem dX8_isRegular_5 : decode cX8_isRegular 5 = .ok (.iload_n 1, 1) := by decide +kernel
theorem dX8_isRegular_6 : decode cX8_isRegular 6 = .ok (.bipush 8, 2) := by decide +kernel
theorem dX8_isRegular_8 : decode cX8_isRegular 8 = .ok (.if_icmp .gt 17, 3) := by decide +kernel
theorem dX8_isRegular_11 : decode cX8_isRegular 11 = .ok (.iload_n 2, 1) := by decide +kernel
theorem dX8_isRegular_12 : decode cX8_isRegular 12 = .ok (.iconst 1, 1) := by decide +kernel
theorem dX8_isRegular_13 : decode cX8_isRegular 13 = .ok (.if_icmp .lt 12, 3) := by decide +kernel
theorem dX8_isRegular_16 : decode cX8_isRegular 16 = .ok (.iload_n 2, 1) := by decide +kernel
theorem dX8_isRegular_17 : decode cX8_isRegular 17 = .ok (.iload_n 1, 1) := by decide +kernel
theorem dX8_isRegular_18 : decode cX8_isRegular 18 = .ok (.if_icmp .ge 7, 3) := by decide +kernel
theorem dX8_isRegular_21 : decode cX8_isRegular 21 = .ok (.iconst 1, 1) := by decide +kernel
theorem dX8_isRegular_22 : decode cX8_isRegular 22 = .ok (.goto 4, 3) := by decide +kernel
theorem dX8_isRegular_25 : decode cX8_isRegular 25 = .ok (.iconst 0, 1) := by decide +kernel
theorem dX8_isRegular_26 : decode cX8_isRegular 26 = .ok (.ireturn, 1) := by decide +kernel
theorem dX8_rows_0 : decode cX8_rows 0 = .ok (.aload_n 0, 1) := by decide +kernel
theorem dX8_rows_1 : decode cX8_rows 1 = .ok (.iload_n 1, 1) := by decide +kernel
theorem dX8_rows_2 : decode cX8_rows 2 = .ok (.iload_n 2, 1) := by decide +kernel
theorem dX8_rows_3 : decode cX8_rows 3 = .ok (.invokevirtual 181, 3) := by decide +kernel
theorem dX8_rows_6 : decode cX8_rows 6 = .ok (.ifCond .ne 5, 3) := by decide +kernel
theorem dX8_rows_9 : decode cX8_rows 9 = .ok (.iconst (-1), 1) := by decide +kernel
theorem dX8_rows_10 : decode cX8_rows 10 = .ok (.ireturn, 1) := by decide +kernel
theorem dX8_rows_11 : decode cX8_rows 11 = .ok (.iconst 1, 1) := by decide +kernel
theorem dX8_rows_12 : decode cX8_rows 12 = .ok (.istore 4, 2) := by decide +kernel
theorem dX8_rows_14 : decode cX8_rows 14 = .ok (.iconst 1, 1) := by decide +kernel
theorem dX8_rows_15 : decode cX8_rows 15 = .ok (.istore 5, 2) := by decide +kernel
theorem dX8_rows_17 : decode cX8_rows 17 = .ok (.iload 5, 2) := by decide +kernel
theorem dX8_rows_19 : decode cX8_rows 19 = .ok (.iload_n 3, 1) := by decide +kernel
theorem dX8_rows_20 : decode cX8_rows 20 = .ok (.if_icmp .ge 28, 3) := by decide +kernel
theorem dX8_rows_23 : decode cX8_rows 23 = .ok (.iload 4, 2) := by decide +kernel
theorem dX8_rows_25 : decode cX8_rows 25 = .ok (.sipush 2500, 3) := by decide +kernel
theorem dX8_rows_28 : decode cX8_rows 28 = .ok (.if_icmp .le 8, 3) := by decide +kernel
theorem dX8_rows_31 : decode cX8_rows 31 = .ok (.iload 4, 2) := by decide +kernel
theorem dX8_rows_33 : decode cX8_rows 33 = .ok (.goto 7, 3) := by decide +kernel
theorem dX8_rows_36 : decode cX8_rows 36 = .ok (.iload 4, 2) := by decide +kernel
theorem dX8_rows_38 : decode cX8_rows 38 = .ok (.iload_n 1, 1) := by decide +kernel
theorem dX8_rows_39 : decode cX8_rows 39 = .ok (.imul, 1) := by decide +kernel
theorem dX8_rows_40 : decode cX8_rows 40 = .ok (.istore 4, 2) := by decide +kernel
theorem dX8_rows_42 : decode cX8_rows 42 = .ok (.iinc 5 1, 3) := by decide +kernel
theorem dX8_rows_45 : decode cX8_rows 45 = .ok (.goto (-28), 3) := by decide +kernel
theorem dX8_rows_48 : decode cX8_rows 48 = .ok (.iload 4, 2) := by decide +kernel
theorem dX8_rows_50 : decode cX8_rows 50 = .ok (.sipush 2500, 3) := by decide +kernel
theorem dX8_rows_53 : decode cX8_rows 53 = .ok (.if_icmp .le 7, 3) := by decide +kernel
theorem dX8_rows_56 : decode cX8_rows 56 = .ok (.iconst (-1), 1) := by decide +kernel
theorem dX8_rows_57 : decode cX8_rows 57 = .ok (.goto 5, 3) := by decide +kernel
theorem dX8_rows_60 : decode cX8_rows 60 = .ok (.iload 4, 2) := by decide +kernel
theorem dX8_rows_62 : decode cX8_rows 62 = .ok (.ireturn, 1) := by decide +kernel
theorem dX8_offsets_0 : decode cX8_offsets 0 = .ok (.iload_n 2, 1) := by decide +kernel
theorem dX8_offsets_1 : decode cX8_offsets 1 = .ok (.istore_n 3, 1) := by decide +kernel
theorem dX8_offsets_2 : decode cX8_offsets 2 = .ok (.aload_n 0, 1) := by decide +kernel
theorem dX8_offsets_3 : decode cX8_offsets 3 = .ok (.getfield 7, 3) := by decide +kernel
theorem dX8_offsets_6 : decode cX8_offsets 6 = .ok (.iconst 0, 1) := by decide +kernel
theorem dX8_offsets_7 : decode cX8_offsets 7 = .ok (.iaload, 1) := by decide +kernel
theorem dX8_offsets_8 : decode cX8_offsets 8 = .ok (.iconst 1, 1) := by decide +kernel
theorem dX8_offsets_9 : decode cX8_offsets 9 = .ok (.isub, 1) := by decide +kernel
theorem dX8_offsets_10 : decode cX8_offsets 10 = .ok (.istore 4, 2) := by decide +kernel
theorem dX8_offsets_12 : decode cX8_offsets 12 = .ok (.iload 4, 2) := by decide +kernel
theorem dX8_offsets_14 : decode cX8_offsets 14 = .ok (.ifCond .le 23, 3) := by decide +kernel
theorem dX8_offsets_17 : decode cX8_offsets 17 = .ok (.aload_n 0, 1) := by decide +kernel
theorem dX8_offsets_18 : decode cX8_offsets 18 = .ok (.getfield 25, 3) := by decide +kernel
theorem dX8_offsets_21 : decode cX8_offsets 21 = .ok (.iload 4, 2) := by decide +kernel
theorem dX8_offsets_23 : decode cX8_offsets 23 = .ok (.iload_n 3, 1) := by decide +kernel
theorem dX8_offsets_24 : decode cX8_offsets 24 = .ok (.iload_n 1, 1) := by decide +kernel
theorem dX8_offsets_25 : decode cX8_offsets 25 = .ok (.irem, 1) := by decide +kernel
theorem dX8_offsets_26 : decode cX8_offsets 26 = .ok (.iastore, 1) := by decide +kernel
theorem dX8_offsets_27 : decode cX8_offsets 27 = .ok (.iload_n 3, 1) := by decide +kernel
theorem dX8_offsets_28 : decode cX8_offsets 28 = .ok (.iload_n 1, 1) := by decide +kernel
theorem dX8_offsets_29 : decode cX8_offsets 29 = .ok (.idiv, 1) := by decide +kernel
theorem dX8_offsets_30 : decode cX8_offsets 30 = .ok (.istore_n 3, 1) := by decide +kernel
theorem dX8_offsets_31 : decode cX8_offsets 31 = .ok (.iinc 4 (-1), 3) := by decide +kernel
theorem dX8_offsets_34 : decode cX8_offsets 34 = .ok (.goto (-22), 3) := by decide +kernel
theorem dX8_offsets_37 : decode cX8_offsets 37 = .ok (.aload_n 0, 1) := by decide +kernel
theorem dX8_offsets_38 : decode cX8_offsets 38 = .ok (.getfield 25, 3) := by decide +kernel
theorem dX8_offsets_41 : decode cX8_offsets 41 = .ok (.iconst 0, 1) := by decide +kernel
theorem dX8_offsets_42 : decode cX8_offsets 42 = .ok (.iconst 0, 1) := by decide +kernel
theorem dX8_offsets_43 : decode cX8_offsets 43 = .ok (.iastore, 1) := by decide +kernel
theorem dX8_offsets_44 : decode cX8_offsets 44 = .ok (.return_, 1) := by decide +kernel
theorem dX8_laysRow_0 : decode cX8_laysRow 0 = .ok (.aload_n 0, 1) := by decide +kernel
theorem dX8_laysRow_1 : decode cX8_laysRow 1 = .ok (.getfield 7, 3) := by decide +kernel
theorem dX8_laysRow_4 : decode cX8_laysRow 4 = .ok (.bipush 6, 2) := by decide +kernel
theorem dX8_laysRow_6 : decode cX8_laysRow 6 = .ok (.iload_n 1, 1) := by decide +kernel
theorem dX8_laysRow_7 : decode cX8_laysRow 7 = .ok (.iastore, 1) := by decide +kernel
theorem dX8_laysRow_8 : decode cX8_laysRow 8 = .ok (.iconst 0, 1) := by decide +kernel
theorem dX8_laysRow_9 : decode cX8_laysRow 9 = .ok (.istore_n 3, 1) := by decide +kernel
theorem dX8_laysRow_10 : decode cX8_laysRow 10 = .ok (.iload_n 3, 1) := by decide +kernel
theorem dX8_laysRow_11 : decode cX8_laysRow 11 = .ok (.bipush 16, 2) := by decide +kernel
theorem dX8_laysRow_13 : decode cX8_laysRow 13 = .ok (.if_icmp .ge 74, 3) := by decide +kernel
theorem dX8_laysRow_16 : decode cX8_laysRow 16 = .ok (.iconst 0, 1) := by decide +kernel
theorem dX8_laysRow_17 : decode cX8_laysRow 17 = .ok (.istore 4, 2) := by decide +kernel
theorem dX8_laysRow_19 : decode cX8_laysRow 19 = .ok (.iconst 0, 1) := by decide +kernel
theorem dX8_laysRow_20 : decode cX8_laysRow 20 = .ok (.istore 5, 2) := by decide +kernel
theorem dX8_laysRow_22 : decode cX8_laysRow 22 = .ok (.iload 5, 2) := by decide +kernel
theorem dX8_laysRow_24 : decode cX8_laysRow 24 = .ok (.aload_n 0, 1) := by decide +kernel
theorem dX8_laysRow_25 : decode cX8_laysRow 25 = .ok (.getfield 7, 3) := by decide +kernel
theorem dX8_laysRow_28 : decode cX8_laysRow 28 = .ok (.iconst 0, 1) := by decide +kernel
theorem dX8_laysRow_29 : decode cX8_laysRow 29 = .ok (.iaload, 1) := by decide +kernel
theorem dX8_laysRow_30 : decode cX8_laysRow 30 = .ok (.if_icmp .ge 40, 3) := by decide +kernel
theorem dX8_laysRow_33 : decode cX8_laysRow 33 = .ok (.iload_n 3, 1) := by decide +kernel
theorem dX8_laysRow_34 : decode cX8_laysRow 34 = .ok (.iload_n 1, 1) := by decide +kernel
theorem dX8_laysRow_35 : decode cX8_laysRow 35 = .ok (.if_icmp .ge 35, 3) := by decide +kernel
theorem dX8_laysRow_38 : decode cX8_laysRow 38 = .ok (.iload_n 3, 1) := by decide +kernel
theorem dX8_laysRow_39 : decode cX8_laysRow 39 = .ok (.aload_n 0, 1) := by decide +kernel
theorem dX8_laysRow_40 : decode cX8_laysRow 40 = .ok (.getfield 25, 3) := by decide +kernel
theorem dX8_laysRow_43 : decode cX8_laysRow 43 = .ok (.iload 5, 2) := by decide +kernel
theorem dX8_laysRow_45 : decode cX8_laysRow 45 = .ok (.iaload, 1) := by decide +kernel
theorem dX8_laysRow_46 : decode cX8_laysRow 46 = .ok (.isub, 1) := by decide +kernel
theorem dX8_laysRow_47 : decode cX8_laysRow 47 = .ok (.iload_n 1, 1) := by decide +kernel
theorem dX8_laysRow_48 : decode cX8_laysRow 48 = .ok (.iadd, 1) := by decide +kernel
theorem dX8_laysRow_49 : decode cX8_laysRow 49 = .ok (.iload_n 1, 1) := by decide +kernel
theorem dX8_laysRow_50 : decode cX8_laysRow 50 = .ok (.irem, 1) := by decide +kernel
theorem dX8_laysRow_51 : decode cX8_laysRow 51 = .ok (.iload_n 2, 1) := by decide +kernel
theorem dX8_laysRow_52 : decode cX8_laysRow 52 = .ok (.if_icmp .lt 12, 3) := by decide +kernel
theorem dX8_laysRow_55 : decode cX8_laysRow 55 = .ok (.iload 4, 2) := by decide +kernel
theorem dX8_laysRow_57 : decode cX8_laysRow 57 = .ok (.iconst 1, 1) := by decide +kernel
theorem dX8_laysRow_58 : decode cX8_laysRow 58 = .ok (.iload 5, 2) := by decide +kernel
theorem dX8_laysRow_60 : decode cX8_laysRow 60 = .ok (.ishl, 1) := by decide +kernel
theorem dX8_laysRow_61 : decode cX8_laysRow 61 = .ok (.ior, 1) := by decide +kernel
theorem dX8_laysRow_62 : decode cX8_laysRow 62 = .ok (.istore 4, 2) := by decide +kernel
theorem dX8_laysRow_64 : decode cX8_laysRow 64 = .ok (.iinc 5 1, 3) := by decide +kernel
theorem dX8_laysRow_67 : decode cX8_laysRow 67 = .ok (.goto (-45), 3) := by decide +kernel
theorem dX8_laysRow_70 : decode cX8_laysRow 70 = .ok (.aload_n 0, 1) := by decide +kernel
theorem dX8_laysRow_71 : decode cX8_laysRow 71 = .ok (.getfield 7, 3) := by decide +kernel
theorem dX8_laysRow_74 : decode cX8_laysRow 74 = .ok (.bipush 23, 2) := by decide +kernel
theorem dX8_laysRow_76 : decode cX8_laysRow 76 = .ok (.iload_n 3, 1) := by decide +kernel
theorem dX8_laysRow_77 : decode cX8_laysRow 77 = .ok (.iadd, 1) := by decide +kernel
theorem dX8_laysRow_78 : decode cX8_laysRow 78 = .ok (.iload 4, 2) := by decide +kernel
theorem dX8_laysRow_80 : decode cX8_laysRow 80 = .ok (.iastore, 1) := by decide +kernel
theorem dX8_laysRow_81 : decode cX8_laysRow 81 = .ok (.iinc 3 1, 3) := by decide +kernel
theorem dX8_laysRow_84 : decode cX8_laysRow 84 = .ok (.goto (-74), 3) := by decide +kernel
theorem dX8_laysRow_87 : decode cX8_laysRow 87 = .ok (.return_, 1) := by decide +kernel
theorem dX8_regular_0 : decode cX8_regular 0 = .ok (.aload_n 0, 1) := by decide +kernel
theorem dX8_regular_1 : decode cX8_regular 1 = .ok (.iconst 0, 1) := by decide +kernel
theorem dX8_regular_2 : decode cX8_regular 2 = .ok (.putfield 34, 3) := by decide +kernel
theorem dX8_regular_5 : decode cX8_regular 5 = .ok (.aload_n 0, 1) := by decide +kernel
theorem dX8_regular_6 : decode cX8_regular 6 = .ok (.invokevirtual 49, 3) := by decide +kernel
theorem dX8_regular_9 : decode cX8_regular 9 = .ok (.aload_n 0, 1) := by decide +kernel
theorem dX8_regular_10 : decode cX8_regular 10 = .ok (.iload_n 1, 1) := by decide +kernel
theorem dX8_regular_11 : decode cX8_regular 11 = .ok (.iload_n 2, 1) := by decide +kernel
theorem dX8_regular_12 : decode cX8_regular 12 = .ok (.invokevirtual 181, 3) := by decide +kernel
theorem dX8_regular_15 : decode cX8_regular 15 = .ok (.ifCond .ne 5, 3) := by decide +kernel
theorem dX8_regular_18 : decode cX8_regular 18 = .ok (.iconst 0, 1) := by decide +kernel
theorem dX8_regular_19 : decode cX8_regular 19 = .ok (.ireturn, 1) := by decide +kernel
theorem dX8_regular_20 : decode cX8_regular 20 = .ok (.iconst 1, 1) := by decide +kernel
theorem dX8_regular_21 : decode cX8_regular 21 = .ok (.istore 4, 2) := by decide +kernel
theorem dX8_regular_23 : decode cX8_regular 23 = .ok (.iload 4, 2) := by decide +kernel
theorem dX8_regular_25 : decode cX8_regular 25 = .ok (.aload_n 0, 1) := by decide +kernel
theorem dX8_regular_26 : decode cX8_regular 26 = .ok (.getfield 7, 3) := by decide +kernel
theorem dX8_regular_29 : decode cX8_regular 29 = .ok (.iconst 0, 1) := by decide +kernel
theorem dX8_regular_30 : decode cX8_regular 30 = .ok (.iaload, 1) := by decide +kernel
theorem dX8_regular_31 : decode cX8_regular 31 = .ok (.if_icmp .ge 24, 3) := by decide +kernel
theorem dX8_regular_34 : decode cX8_regular 34 = .ok (.iload_n 3, 1) := by decide +kernel
theorem dX8_regular_35 : decode cX8_regular 35 = .ok (.iconst 4, 1) := by decide +kernel
theorem dX8_regular_36 : decode cX8_regular 36 = .ok (.iload 4, 2) := by decide +kernel
theorem dX8_regular_38 : decode cX8_regular 38 = .ok (.imul, 1) := by decide +kernel
theorem dX8_regular_39 : decode cX8_regular 39 = .ok (.ishr, 1) := by decide +kernel
theorem dX8_regular_40 : decode cX8_regular 40 = .ok (.bipush 15, 2) := by decide +kernel
theorem dX8_regular_42 : decode cX8_regular 42 = .ok (.iand, 1) := by decide +kernel
theorem dX8_regular_43 : decode cX8_regular 43 = .ok (.iload_n 1, 1) := by decide +kernel
theorem dX8_regular_44 : decode cX8_regular 44 = .ok (.if_icmp .lt 5, 3) := by decide +kernel
theorem dX8_regular_47 : decode cX8_regular 47 = .ok (.iconst 0, 1) := by decide +kernel
theorem dX8_regular_48 : decode cX8_regular 48 = .ok (.ireturn, 1) := by decide +kernel
theorem dX8_regular_49 : decode cX8_regular 49 = .ok (.iinc 4 1, 3) := by decide +kernel
theorem dX8_regular_52 : decode cX8_regular 52 = .ok (.goto (-29), 3) := by decide +kernel
theorem dX8_regular_55 : decode cX8_regular 55 = .ok (.aload_n 0, 1) := by decide +kernel
theorem dX8_regular_56 : decode cX8_regular 56 = .ok (.invokevirtual 52, 3) := by decide +kernel
theorem dX8_regular_59 : decode cX8_regular 59 = .ok (.aload_n 0, 1) := by decide +kernel
theorem dX8_regular_60 : decode cX8_regular 60 = .ok (.getfield 25, 3) := by decide +kernel
theorem dX8_regular_63 : decode cX8_regular 63 = .ok (.iconst 0, 1) := by decide +kernel
theorem dX8_regular_64 : decode cX8_regular 64 = .ok (.iconst 0, 1) := by decide +kernel
theorem dX8_regular_65 : decode cX8_regular 65 = .ok (.iastore, 1) := by decide +kernel
theorem dX8_regular_66 : decode cX8_regular 66 = .ok (.iconst 1, 1) := by decide +kernel
theorem dX8_regular_67 : decode cX8_regular 67 = .ok (.istore 4, 2) := by decide +kernel
theorem dX8_regular_69 : decode cX8_regular 69 = .ok (.iload 4, 2) := by decide +kernel
theorem dX8_regular_71 : decode cX8_regular 71 = .ok (.aload_n 0, 1) := by decide +kernel
theorem dX8_regular_72 : decode cX8_regular 72 = .ok (.getfield 7, 3) := by decide +kernel
theorem dX8_regular_75 : decode cX8_regular 75 = .ok (.iconst 0, 1) := by decide +kernel
theorem dX8_regular_76 : decode cX8_regular 76 = .ok (.iaload, 1) := by decide +kernel
theorem dX8_regular_77 : decode cX8_regular 77 = .ok (.if_icmp .ge 25, 3) := by decide +kernel
theorem dX8_regular_80 : decode cX8_regular 80 = .ok (.aload_n 0, 1) := by decide +kernel
theorem dX8_regular_81 : decode cX8_regular 81 = .ok (.getfield 25, 3) := by decide +kernel
theorem dX8_regular_84 : decode cX8_regular 84 = .ok (.iload 4, 2) := by decide +kernel
theorem dX8_regular_86 : decode cX8_regular 86 = .ok (.iload_n 3, 1) := by decide +kernel
theorem dX8_regular_87 : decode cX8_regular 87 = .ok (.iconst 4, 1) := by decide +kernel
theorem dX8_regular_88 : decode cX8_regular 88 = .ok (.iload 4, 2) := by decide +kernel
theorem dX8_regular_90 : decode cX8_regular 90 = .ok (.imul, 1) := by decide +kernel
theorem dX8_regular_91 : decode cX8_regular 91 = .ok (.ishr, 1) := by decide +kernel
theorem dX8_regular_92 : decode cX8_regular 92 = .ok (.bipush 15, 2) := by decide +kernel
theorem dX8_regular_94 : decode cX8_regular 94 = .ok (.iand, 1) := by decide +kernel
theorem dX8_regular_95 : decode cX8_regular 95 = .ok (.iastore, 1) := by decide +kernel
theorem dX8_regular_96 : decode cX8_regular 96 = .ok (.iinc 4 1, 3) := by decide +kernel
theorem dX8_regular_99 : decode cX8_regular 99 = .ok (.goto (-30), 3) := by decide +kernel
theorem dX8_regular_102 : decode cX8_regular 102 = .ok (.aload_n 0, 1) := by decide +kernel
theorem dX8_regular_103 : decode cX8_regular 103 = .ok (.iload_n 1, 1) := by decide +kernel
theorem dX8_regular_104 : decode cX8_regular 104 = .ok (.iload_n 2, 1) := by decide +kernel
theorem dX8_regular_105 : decode cX8_regular 105 = .ok (.invokevirtual 184, 3) := by decide +kernel
theorem dX8_regular_108 : decode cX8_regular 108 = .ok (.iconst 1, 1) := by decide +kernel
theorem dX8_regular_109 : decode cX8_regular 109 = .ok (.ireturn, 1) := by decide +kernel
theorem dX8_tries_0 : decode cX8_tries 0 = .ok (.aload_n 0, 1) := by decide +kernel
theorem dX8_tries_1 : decode cX8_tries 1 = .ok (.iload_n 1, 1) := by decide +kernel
theorem dX8_tries_2 : decode cX8_tries 2 = .ok (.iload_n 3, 1) := by decide +kernel
theorem dX8_tries_3 : decode cX8_tries 3 = .ok (.invokevirtual 187, 3) := by decide +kernel
theorem dX8_tries_6 : decode cX8_tries 6 = .ok (.aload_n 0, 1) := by decide +kernel
theorem dX8_tries_7 : decode cX8_tries 7 = .ok (.iload_n 1, 1) := by decide +kernel
theorem dX8_tries_8 : decode cX8_tries 8 = .ok (.iload_n 2, 1) := by decide +kernel
theorem dX8_tries_9 : decode cX8_tries 9 = .ok (.invokevirtual 184, 3) := by decide +kernel
theorem dX8_tries_12 : decode cX8_tries 12 = .ok (.aload_n 0, 1) := by decide +kernel
theorem dX8_tries_13 : decode cX8_tries 13 = .ok (.invokevirtual 143, 3) := by decide +kernel
theorem dX8_tries_16 : decode cX8_tries 16 = .ok (.iconst (-1), 1) := by decide +kernel
theorem dX8_tries_17 : decode cX8_tries 17 = .ok (.if_icmp .ne 7, 3) := by decide +kernel
theorem dX8_tries_20 : decode cX8_tries 20 = .ok (.iconst 1, 1) := by decide +kernel
theorem dX8_tries_21 : decode cX8_tries 21 = .ok (.goto 4, 3) := by decide +kernel
theorem dX8_tries_24 : decode cX8_tries 24 = .ok (.iconst 0, 1) := by decide +kernel
theorem dX8_tries_25 : decode cX8_tries 25 = .ok (.ireturn, 1) := by decide +kernel
theorem dX8_manyOf_0 : decode cX8_manyOf 0 = .ok (.aload_n 0, 1) := by decide +kernel
theorem dX8_manyOf_1 : decode cX8_manyOf 1 = .ok (.iload_n 1, 1) := by decide +kernel
theorem dX8_manyOf_2 : decode cX8_manyOf 2 = .ok (.iload_n 2, 1) := by decide +kernel
theorem dX8_manyOf_3 : decode cX8_manyOf 3 = .ok (.aload_n 0, 1) := by decide +kernel
theorem dX8_manyOf_4 : decode cX8_manyOf 4 = .ok (.getfield 7, 3) := by decide +kernel
theorem dX8_manyOf_7 : decode cX8_manyOf 7 = .ok (.iconst 0, 1) := by decide +kernel
theorem dX8_manyOf_8 : decode cX8_manyOf 8 = .ok (.iaload, 1) := by decide +kernel
theorem dX8_manyOf_9 : decode cX8_manyOf 9 = .ok (.invokevirtual 190, 3) := by decide +kernel
theorem dX8_manyOf_12 : decode cX8_manyOf 12 = .ok (.istore_n 3, 1) := by decide +kernel
theorem dX8_manyOf_13 : decode cX8_manyOf 13 = .ok (.iconst 0, 1) := by decide +kernel
theorem dX8_manyOf_14 : decode cX8_manyOf 14 = .ok (.istore 4, 2) := by decide +kernel
theorem dX8_manyOf_16 : decode cX8_manyOf 16 = .ok (.iconst 0, 1) := by decide +kernel
theorem dX8_manyOf_17 : decode cX8_manyOf 17 = .ok (.istore 5, 2) := by decide +kernel
theorem dX8_manyOf_19 : decode cX8_manyOf 19 = .ok (.iload 5, 2) := by decide +kernel
theorem dX8_manyOf_21 : decode cX8_manyOf 21 = .ok (.iload_n 3, 1) := by decide +kernel
theorem dX8_manyOf_22 : decode cX8_manyOf 22 = .ok (.if_icmp .ge 26, 3) := by decide +kernel
theorem dX8_manyOf_25 : decode cX8_manyOf 25 = .ok (.aload_n 0, 1) := by decide +kernel
theorem dX8_manyOf_26 : decode cX8_manyOf 26 = .ok (.iload_n 1, 1) := by decide +kernel
theorem dX8_manyOf_27 : decode cX8_manyOf 27 = .ok (.iload_n 2, 1) := by decide +kernel
theorem dX8_manyOf_28 : decode cX8_manyOf 28 = .ok (.iload 5, 2) := by decide +kernel
theorem dX8_manyOf_30 : decode cX8_manyOf 30 = .ok (.invokevirtual 194, 3) := by decide +kernel
theorem dX8_manyOf_33 : decode cX8_manyOf 33 = .ok (.ifCond .eq 9, 3) := by decide +kernel
theorem dX8_manyOf_36 : decode cX8_manyOf 36 = .ok (.iload 4, 2) := by decide +kernel
theorem dX8_manyOf_38 : decode cX8_manyOf 38 = .ok (.iconst 1, 1) := by decide +kernel
theorem dX8_manyOf_39 : decode cX8_manyOf 39 = .ok (.iadd, 1) := by decide +kernel
theorem dX8_manyOf_40 : decode cX8_manyOf 40 = .ok (.istore 4, 2) := by decide +kernel
theorem dX8_manyOf_42 : decode cX8_manyOf 42 = .ok (.iinc 5 1, 3) := by decide +kernel
theorem dX8_manyOf_45 : decode cX8_manyOf 45 = .ok (.goto (-26), 3) := by decide +kernel
theorem dX8_manyOf_48 : decode cX8_manyOf 48 = .ok (.iload 4, 2) := by decide +kernel
theorem dX8_manyOf_50 : decode cX8_manyOf 50 = .ok (.ireturn, 1) := by decide +kernel
theorem dX8_many_0 : decode cX8_many 0 = .ok (.aload_n 0, 1) := by decide +kernel
theorem dX8_many_1 : decode cX8_many 1 = .ok (.iconst 0, 1) := by decide +kernel
theorem dX8_many_2 : decode cX8_many 2 = .ok (.putfield 34, 3) := by decide +kernel
theorem dX8_many_5 : decode cX8_many 5 = .ok (.aload_n 0, 1) := by decide +kernel
theorem dX8_many_6 : decode cX8_many 6 = .ok (.invokevirtual 49, 3) := by decide +kernel
theorem dX8_many_9 : decode cX8_many 9 = .ok (.aload_n 0, 1) := by decide +kernel
theorem dX8_many_10 : decode cX8_many 10 = .ok (.iload_n 1, 1) := by decide +kernel
theorem dX8_many_11 : decode cX8_many 11 = .ok (.iload_n 2, 1) := by decide +kernel
theorem dX8_many_12 : decode cX8_many 12 = .ok (.aload_n 0, 1) := by decide +kernel
theorem dX8_many_13 : decode cX8_many 13 = .ok (.getfield 7, 3) := by decide +kernel
theorem dX8_many_16 : decode cX8_many 16 = .ok (.iconst 0, 1) := by decide +kernel
theorem dX8_many_17 : decode cX8_many 17 = .ok (.iaload, 1) := by decide +kernel
theorem dX8_many_18 : decode cX8_many 18 = .ok (.invokevirtual 190, 3) := by decide +kernel
theorem dX8_many_21 : decode cX8_many 21 = .ok (.iconst (-1), 1) := by decide +kernel
theorem dX8_many_22 : decode cX8_many 22 = .ok (.if_icmp .ne 5, 3) := by decide +kernel
theorem dX8_many_25 : decode cX8_many 25 = .ok (.iconst (-1), 1) := by decide +kernel
theorem dX8_many_26 : decode cX8_many 26 = .ok (.ireturn, 1) := by decide +kernel
theorem dX8_many_27 : decode cX8_many 27 = .ok (.aload_n 0, 1) := by decide +kernel
theorem dX8_many_28 : decode cX8_many 28 = .ok (.invokevirtual 198, 3) := by decide +kernel
theorem dX8_many_31 : decode cX8_many 31 = .ok (.aload_n 0, 1) := by decide +kernel
theorem dX8_many_32 : decode cX8_many 32 = .ok (.iload_n 1, 1) := by decide +kernel
theorem dX8_many_33 : decode cX8_many 33 = .ok (.iload_n 2, 1) := by decide +kernel
theorem dX8_many_34 : decode cX8_many 34 = .ok (.invokevirtual 201, 3) := by decide +kernel
theorem dX8_many_37 : decode cX8_many 37 = .ok (.istore_n 3, 1) := by decide +kernel
theorem dX8_many_38 : decode cX8_many 38 = .ok (.aload_n 0, 1) := by decide +kernel
theorem dX8_many_39 : decode cX8_many 39 = .ok (.invokevirtual 204, 3) := by decide +kernel
theorem dX8_many_42 : decode cX8_many 42 = .ok (.iload_n 3, 1) := by decide +kernel
theorem dX8_many_43 : decode cX8_many 43 = .ok (.ireturn, 1) := by decide +kernel
theorem dX8_pick_0 : decode cX8_pick 0 = .ok (.aload_n 0, 1) := by decide +kernel
theorem dX8_pick_1 : decode cX8_pick 1 = .ok (.iconst 0, 1) := by decide +kernel
theorem dX8_pick_2 : decode cX8_pick 2 = .ok (.putfield 34, 3) := by decide +kernel
theorem dX8_pick_5 : decode cX8_pick 5 = .ok (.aload_n 0, 1) := by decide +kernel
theorem dX8_pick_6 : decode cX8_pick 6 = .ok (.invokevirtual 49, 3) := by decide +kernel
theorem dX8_pick_9 : decode cX8_pick 9 = .ok (.aload_n 0, 1) := by decide +kernel
theorem dX8_pick_10 : decode cX8_pick 10 = .ok (.iload_n 1, 1) := by decide +kernel
theorem dX8_pick_11 : decode cX8_pick 11 = .ok (.iload_n 2, 1) := by decide +kernel
theorem dX8_pick_12 : decode cX8_pick 12 = .ok (.aload_n 0, 1) := by decide +kernel
theorem dX8_pick_13 : decode cX8_pick 13 = .ok (.getfield 7, 3) := by decide +kernel
theorem dX8_pick_16 : decode cX8_pick 16 = .ok (.iconst 0, 1) := by decide +kernel
theorem dX8_pick_17 : decode cX8_pick 17 = .ok (.iaload, 1) := by decide +kernel
theorem dX8_pick_18 : decode cX8_pick 18 = .ok (.invokevirtual 190, 3) := by decide +kernel
theorem dX8_pick_21 : decode cX8_pick 21 = .ok (.istore 4, 2) := by decide +kernel
theorem dX8_pick_23 : decode cX8_pick 23 = .ok (.iload 4, 2) := by decide +kernel
theorem dX8_pick_25 : decode cX8_pick 25 = .ok (.iconst (-1), 1) := by decide +kernel
theorem dX8_pick_26 : decode cX8_pick 26 = .ok (.if_icmp .eq 7, 3) := by decide +kernel
theorem dX8_pick_29 : decode cX8_pick 29 = .ok (.iload_n 3, 1) := by decide +kernel
theorem dX8_pick_30 : decode cX8_pick 30 = .ok (.ifCond .ge 5, 3) := by decide +kernel
theorem dX8_pick_33 : decode cX8_pick 33 = .ok (.iconst 0, 1) := by decide +kernel
theorem dX8_pick_34 : decode cX8_pick 34 = .ok (.ireturn, 1) := by decide +kernel
theorem dX8_pick_35 : decode cX8_pick 35 = .ok (.aload_n 0, 1) := by decide +kernel
theorem dX8_pick_36 : decode cX8_pick 36 = .ok (.invokevirtual 198, 3) := by decide +kernel
theorem dX8_pick_39 : decode cX8_pick 39 = .ok (.iconst 0, 1) := by decide +kernel
theorem dX8_pick_40 : decode cX8_pick 40 = .ok (.istore 5, 2) := by decide +kernel
theorem dX8_pick_42 : decode cX8_pick 42 = .ok (.iconst (-1), 1) := by decide +kernel
theorem dX8_pick_43 : decode cX8_pick 43 = .ok (.istore 6, 2) := by decide +kernel
theorem dX8_pick_45 : decode cX8_pick 45 = .ok (.iconst 0, 1) := by decide +kernel
theorem dX8_pick_46 : decode cX8_pick 46 = .ok (.istore 7, 2) := by decide +kernel
theorem dX8_pick_48 : decode cX8_pick 48 = .ok (.iload 7, 2) := by decide +kernel
theorem dX8_pick_50 : decode cX8_pick 50 = .ok (.iload 4, 2) := by decide +kernel
theorem dX8_pick_52 : decode cX8_pick 52 = .ok (.if_icmp .ge 45, 3) := by decide +kernel
theorem dX8_pick_55 : decode cX8_pick 55 = .ok (.iload 6, 2) := by decide +kernel
theorem dX8_pick_57 : decode cX8_pick 57 = .ok (.iconst (-1), 1) := by decide +kernel
theorem dX8_pick_58 : decode cX8_pick 58 = .ok (.if_icmp .ne 39, 3) := by decide +kernel
theorem dX8_pick_61 : decode cX8_pick 61 = .ok (.aload_n 0, 1) := by decide +kernel
theorem dX8_pick_62 : decode cX8_pick 62 = .ok (.iload_n 1, 1) := by decide +kernel
theorem dX8_pick_63 : decode cX8_pick 63 = .ok (.iload_n 2, 1) := by decide +kernel
theorem dX8_pick_64 : decode cX8_pick 64 = .ok (.iload 7, 2) := by decide +kernel
theorem dX8_pick_66 : decode cX8_pick 66 = .ok (.invokevirtual 194, 3) := by decide +kernel
theorem dX8_pick_69 : decode cX8_pick 69 = .ok (.ifCond .ne 6, 3) := by decide +kernel
theorem dX8_pick_72 : decode cX8_pick 72 = .ok (.goto 19, 3) := by decide +kernel
theorem dX8_pick_75 : decode cX8_pick 75 = .ok (.iload 5, 2) := by decide +kernel
theorem dX8_pick_77 : decode cX8_pick 77 = .ok (.iload_n 3, 1) := by decide +kernel
theorem dX8_pick_78 : decode cX8_pick 78 = .ok (.if_icmp .ne 7, 3) := by decide +kernel
theorem dX8_pick_81 : decode cX8_pick 81 = .ok (.iload 7, 2) := by decide +kernel
theorem dX8_pick_83 : decode cX8_pick 83 = .ok (.istore 6, 2) := by decide +kernel
theorem dX8_pick_85 : decode cX8_pick 85 = .ok (.iload 5, 2) := by decide +kernel
theorem dX8_pick_87 : decode cX8_pick 87 = .ok (.iconst 1, 1) := by decide +kernel
theorem dX8_pick_88 : decode cX8_pick 88 = .ok (.iadd, 1) := by decide +kernel
theorem dX8_pick_89 : decode cX8_pick 89 = .ok (.istore 5, 2) := by decide +kernel
theorem dX8_pick_91 : decode cX8_pick 91 = .ok (.iinc 7 1, 3) := by decide +kernel
theorem dX8_pick_94 : decode cX8_pick 94 = .ok (.goto (-46), 3) := by decide +kernel
theorem dX8_pick_97 : decode cX8_pick 97 = .ok (.aload_n 0, 1) := by decide +kernel
theorem dX8_pick_98 : decode cX8_pick 98 = .ok (.invokevirtual 204, 3) := by decide +kernel
theorem dX8_pick_101 : decode cX8_pick 101 = .ok (.iload 6, 2) := by decide +kernel
theorem dX8_pick_103 : decode cX8_pick 103 = .ok (.iconst (-1), 1) := by decide +kernel
theorem dX8_pick_104 : decode cX8_pick 104 = .ok (.if_icmp .ne 5, 3) := by decide +kernel
theorem dX8_pick_107 : decode cX8_pick 107 = .ok (.iconst 0, 1) := by decide +kernel
theorem dX8_pick_108 : decode cX8_pick 108 = .ok (.ireturn, 1) := by decide +kernel
theorem dX8_pick_109 : decode cX8_pick 109 = .ok (.aload_n 0, 1) := by decide +kernel
theorem dX8_pick_110 : decode cX8_pick 110 = .ok (.invokevirtual 52, 3) := by decide +kernel
theorem dX8_pick_113 : decode cX8_pick 113 = .ok (.aload_n 0, 1) := by decide +kernel
theorem dX8_pick_114 : decode cX8_pick 114 = .ok (.iload_n 1, 1) := by decide +kernel
theorem dX8_pick_115 : decode cX8_pick 115 = .ok (.iload 6, 2) := by decide +kernel
theorem dX8_pick_117 : decode cX8_pick 117 = .ok (.invokevirtual 187, 3) := by decide +kernel
theorem dX8_pick_120 : decode cX8_pick 120 = .ok (.aload_n 0, 1) := by decide +kernel
theorem dX8_pick_121 : decode cX8_pick 121 = .ok (.iload_n 1, 1) := by decide +kernel
theorem dX8_pick_122 : decode cX8_pick 122 = .ok (.iload_n 2, 1) := by decide +kernel
theorem dX8_pick_123 : decode cX8_pick 123 = .ok (.invokevirtual 184, 3) := by decide +kernel
theorem dX8_pick_126 : decode cX8_pick 126 = .ok (.iconst 1, 1) := by decide +kernel
theorem dX8_pick_127 : decode cX8_pick 127 = .ok (.ireturn, 1) := by decide +kernel
theorem dX8_isAside_0 : decode cX8_isAside 0 = .ok (.bipush 6, 2) := by decide +kernel
theorem dX8_isAside_2 : decode cX8_isAside 2 = .ok (.istore_n 1, 1) := by decide +kernel
theorem dX8_isAside_3 : decode cX8_isAside 3 = .ok (.iload_n 1, 1) := by decide +kernel
theorem dX8_isAside_4 : decode cX8_isAside 4 = .ok (.bipush 48, 2) := by decide +kernel
theorem dX8_isAside_6 : decode cX8_isAside 6 = .ok (.if_icmp .ge 38, 3) := by decide +kernel
theorem dX8_isAside_9 : decode cX8_isAside 9 = .ok (.iload_n 1, 1) := by decide +kernel
theorem dX8_isAside_10 : decode cX8_isAside 10 = .ok (.bipush 6, 2) := by decide +kernel
theorem dX8_isAside_12 : decode cX8_isAside 12 = .ok (.if_icmp .eq 9, 3) := by decide +kernel
theorem dX8_isAside_15 : decode cX8_isAside 15 = .ok (.iload_n 1, 1) := by decide +kernel
theorem dX8_isAside_16 : decode cX8_isAside 16 = .ok (.bipush 23, 2) := by decide +kernel
theorem dX8_isAside_18 : decode cX8_isAside 18 = .ok (.if_icmp .lt 20, 3) := by decide +kernel
theorem dX8_isAside_21 : decode cX8_isAside 21 = .ok (.aload_n 0, 1) := by decide +kernel
theorem dX8_isAside_22 : decode cX8_isAside 22 = .ok (.getfield 7, 3) := by decide +kernel
theorem dX8_isAside_25 : decode cX8_isAside 25 = .ok (.iload_n 1, 1) := by decide +kernel
theorem dX8_isAside_26 : decode cX8_isAside 26 = .ok (.iaload, 1) := by decide +kernel
theorem dX8_isAside_27 : decode cX8_isAside 27 = .ok (.aload_n 0, 1) := by decide +kernel
theorem dX8_isAside_28 : decode cX8_isAside 28 = .ok (.getfield 22, 3) := by decide +kernel
theorem dX8_isAside_31 : decode cX8_isAside 31 = .ok (.iload_n 1, 1) := by decide +kernel
theorem dX8_isAside_32 : decode cX8_isAside 32 = .ok (.iaload, 1) := by decide +kernel
theorem dX8_isAside_33 : decode cX8_isAside 33 = .ok (.if_icmp .eq 5, 3) := by decide +kernel
theorem dX8_isAside_36 : decode cX8_isAside 36 = .ok (.iconst 0, 1) := by decide +kernel
theorem dX8_isAside_37 : decode cX8_isAside 37 = .ok (.ireturn, 1) := by decide +kernel
theorem dX8_isAside_38 : decode cX8_isAside 38 = .ok (.iinc 1 1, 3) := by decide +kernel
theorem dX8_isAside_41 : decode cX8_isAside 41 = .ok (.goto (-38), 3) := by decide +kernel
theorem dX8_isAside_44 : decode cX8_isAside 44 = .ok (.iconst 1, 1) := by decide +kernel
theorem dX8_isAside_45 : decode cX8_isAside 45 = .ok (.ireturn, 1) := by decide +kernel
theorem dX8_rank_0 : decode cX8_rank 0 = .ok (.aload_n 0, 1) := by decide +kernel
theorem dX8_rank_1 : decode cX8_rank 1 = .ok (.iconst 0, 1) := by decide +kernel
theorem dX8_rank_2 : decode cX8_rank 2 = .ok (.putfield 34, 3) := by decide +kernel
theorem dX8_rank_5 : decode cX8_rank 5 = .ok (.aload_n 0, 1) := by decide +kernel
theorem dX8_rank_6 : decode cX8_rank 6 = .ok (.invokevirtual 49, 3) := by decide +kernel
theorem dX8_rank_9 : decode cX8_rank 9 = .ok (.aload_n 0, 1) := by decide +kernel
theorem dX8_rank_10 : decode cX8_rank 10 = .ok (.iload_n 1, 1) := by decide +kernel
theorem dX8_rank_11 : decode cX8_rank 11 = .ok (.iload_n 2, 1) := by decide +kernel
theorem dX8_rank_12 : decode cX8_rank 12 = .ok (.aload_n 0, 1) := by decide +kernel
theorem dX8_rank_13 : decode cX8_rank 13 = .ok (.getfield 7, 3) := by decide +kernel
theorem dX8_rank_16 : decode cX8_rank 16 = .ok (.iconst 0, 1) := by decide +kernel
theorem dX8_rank_17 : decode cX8_rank 17 = .ok (.iaload, 1) := by decide +kernel
theorem dX8_rank_18 : decode cX8_rank 18 = .ok (.invokevirtual 190, 3) := by decide +kernel
theorem dX8_rank_21 : decode cX8_rank 21 = .ok (.istore_n 3, 1) := by decide +kernel
theorem dX8_rank_22 : decode cX8_rank 22 = .ok (.iload_n 3, 1) := by decide +kernel
theorem dX8_rank_23 : decode cX8_rank 23 = .ok (.iconst (-1), 1) := by decide +kernel
theorem dX8_rank_24 : decode cX8_rank 24 = .ok (.if_icmp .ne 5, 3) := by decide +kernel
theorem dX8_rank_27 : decode cX8_rank 27 = .ok (.iconst (-1), 1) := by decide +kernel
theorem dX8_rank_28 : decode cX8_rank 28 = .ok (.ireturn, 1) := by decide +kernel
theorem dX8_rank_29 : decode cX8_rank 29 = .ok (.aload_n 0, 1) := by decide +kernel
theorem dX8_rank_30 : decode cX8_rank 30 = .ok (.invokevirtual 198, 3) := by decide +kernel
theorem dX8_rank_33 : decode cX8_rank 33 = .ok (.iconst 0, 1) := by decide +kernel
theorem dX8_rank_34 : decode cX8_rank 34 = .ok (.istore 4, 2) := by decide +kernel
theorem dX8_rank_36 : decode cX8_rank 36 = .ok (.iconst (-1), 1) := by decide +kernel
theorem dX8_rank_37 : decode cX8_rank 37 = .ok (.istore 5, 2) := by decide +kernel
theorem dX8_rank_39 : decode cX8_rank 39 = .ok (.iconst 0, 1) := by decide +kernel
theorem dX8_rank_40 : decode cX8_rank 40 = .ok (.istore 6, 2) := by decide +kernel
theorem dX8_rank_42 : decode cX8_rank 42 = .ok (.iload 6, 2) := by decide +kernel
theorem dX8_rank_44 : decode cX8_rank 44 = .ok (.iload_n 3, 1) := by decide +kernel
theorem dX8_rank_45 : decode cX8_rank 45 = .ok (.if_icmp .ge 46, 3) := by decide +kernel
theorem dX8_rank_48 : decode cX8_rank 48 = .ok (.iload 5, 2) := by decide +kernel
theorem dX8_rank_50 : decode cX8_rank 50 = .ok (.iconst (-1), 1) := by decide +kernel
theorem dX8_rank_51 : decode cX8_rank 51 = .ok (.if_icmp .ne 40, 3) := by decide +kernel
theorem dX8_rank_54 : decode cX8_rank 54 = .ok (.aload_n 0, 1) := by decide +kernel
theorem dX8_rank_55 : decode cX8_rank 55 = .ok (.iload_n 1, 1) := by decide +kernel
theorem dX8_rank_56 : decode cX8_rank 56 = .ok (.iload_n 2, 1) := by decide +kernel
theorem dX8_rank_57 : decode cX8_rank 57 = .ok (.iload 6, 2) := by decide +kernel
theorem dX8_rank_59 : decode cX8_rank 59 = .ok (.invokevirtual 194, 3) := by decide +kernel
theorem dX8_rank_62 : decode cX8_rank 62 = .ok (.ifCond .ne 6, 3) := by decide +kernel
theorem dX8_rank_65 : decode cX8_rank 65 = .ok (.goto 20, 3) := by decide +kernel
theorem dX8_rank_68 : decode cX8_rank 68 = .ok (.aload_n 0, 1) := by decide +kernel
theorem dX8_rank_69 : decode cX8_rank 69 = .ok (.invokevirtual 207, 3) := by decide +kernel
theorem dX8_rank_72 : decode cX8_rank 72 = .ok (.ifCond .eq 7, 3) := by decide +kernel
theorem dX8_rank_75 : decode cX8_rank 75 = .ok (.iload 4, 2) := by decide +kernel
theorem dX8_rank_77 : decode cX8_rank 77 = .ok (.istore 5, 2) := by decide +kernel
theorem dX8_rank_79 : decode cX8_rank 79 = .ok (.iload 4, 2) := by decide +kernel
theorem dX8_rank_81 : decode cX8_rank 81 = .ok (.iconst 1, 1) := by decide +kernel
theorem dX8_rank_82 : decode cX8_rank 82 = .ok (.iadd, 1) := by decide +kernel
theorem dX8_rank_83 : decode cX8_rank 83 = .ok (.istore 4, 2) := by decide +kernel
theorem dX8_rank_85 : decode cX8_rank 85 = .ok (.iinc 6 1, 3) := by decide +kernel
theorem dX8_rank_88 : decode cX8_rank 88 = .ok (.goto (-46), 3) := by decide +kernel
theorem dX8_rank_91 : decode cX8_rank 91 = .ok (.aload_n 0, 1) := by decide +kernel
theorem dX8_rank_92 : decode cX8_rank 92 = .ok (.invokevirtual 204, 3) := by decide +kernel
theorem dX8_rank_95 : decode cX8_rank 95 = .ok (.iload 5, 2) := by decide +kernel
theorem dX8_rank_97 : decode cX8_rank 97 = .ok (.ireturn, 1) := by decide +kernel
theorem dX8_mirror_0 : decode cX8_mirror 0 = .ok (.iconst 0, 1) := by decide +kernel
theorem dX8_mirror_1 : decode cX8_mirror 1 = .ok (.istore_n 2, 1) := by decide +kernel
theorem dX8_mirror_2 : decode cX8_mirror 2 = .ok (.aload_n 0, 1) := by decide +kernel
theorem dX8_mirror_3 : decode cX8_mirror 3 = .ok (.getfield 25, 3) := by decide +kernel
theorem dX8_mirror_6 : decode cX8_mirror 6 = .ok (.aload_n 0, 1) := by decide +kernel
theorem dX8_mirror_7 : decode cX8_mirror 7 = .ok (.iconst 0, 1) := by decide +kernel
theorem dX8_mirror_8 : decode cX8_mirror 8 = .ok (.invokevirtual 77, 3) := by decide +kernel
theorem dX8_mirror_11 : decode cX8_mirror 11 = .ok (.iaload, 1) := by decide +kernel
theorem dX8_mirror_12 : decode cX8_mirror 12 = .ok (.istore_n 3, 1) := by decide +kernel
theorem dX8_mirror_13 : decode cX8_mirror 13 = .ok (.iconst 1, 1) := by decide +kernel
theorem dX8_mirror_14 : decode cX8_mirror 14 = .ok (.istore 4, 2) := by decide +kernel
theorem dX8_mirror_16 : decode cX8_mirror 16 = .ok (.iload 4, 2) := by decide +kernel
theorem dX8_mirror_18 : decode cX8_mirror 18 = .ok (.aload_n 0, 1) := by decide +kernel
theorem dX8_mirror_19 : decode cX8_mirror 19 = .ok (.getfield 7, 3) := by decide +kernel
theorem dX8_mirror_22 : decode cX8_mirror 22 = .ok (.iconst 0, 1) := by decide +kernel
theorem dX8_mirror_23 : decode cX8_mirror 23 = .ok (.iaload, 1) := by decide +kernel
theorem dX8_mirror_24 : decode cX8_mirror 24 = .ok (.if_icmp .ge 31, 3) := by decide +kernel
theorem dX8_mirror_27 : decode cX8_mirror 27 = .ok (.iload_n 1, 1) := by decide +kernel
theorem dX8_mirror_28 : decode cX8_mirror 28 = .ok (.iload_n 2, 1) := by decide +kernel
theorem dX8_mirror_29 : decode cX8_mirror 29 = .ok (.imul, 1) := by decide +kernel
theorem dX8_mirror_30 : decode cX8_mirror 30 = .ok (.aload_n 0, 1) := by decide +kernel
theorem dX8_mirror_31 : decode cX8_mirror 31 = .ok (.getfield 25, 3) := by decide +kernel
theorem dX8_mirror_34 : decode cX8_mirror 34 = .ok (.aload_n 0, 1) := by decide +kernel
theorem dX8_mirror_35 : decode cX8_mirror 35 = .ok (.iload 4, 2) := by decide +kernel
theorem dX8_mirror_37 : decode cX8_mirror 37 = .ok (.invokevirtual 77, 3) := by decide +kernel
theorem dX8_mirror_40 : decode cX8_mirror 40 = .ok (.iaload, 1) := by decide +kernel
theorem dX8_mirror_41 : decode cX8_mirror 41 = .ok (.iload_n 3, 1) := by decide +kernel
theorem dX8_mirror_42 : decode cX8_mirror 42 = .ok (.isub, 1) := by decide +kernel
theorem dX8_mirror_43 : decode cX8_mirror 43 = .ok (.iload_n 1, 1) := by decide +kernel
theorem dX8_mirror_44 : decode cX8_mirror 44 = .ok (.iadd, 1) := by decide +kernel
theorem dX8_mirror_45 : decode cX8_mirror 45 = .ok (.iload_n 1, 1) := by decide +kernel
theorem dX8_mirror_46 : decode cX8_mirror 46 = .ok (.irem, 1) := by decide +kernel
theorem dX8_mirror_47 : decode cX8_mirror 47 = .ok (.iadd, 1) := by decide +kernel
theorem dX8_mirror_48 : decode cX8_mirror 48 = .ok (.istore_n 2, 1) := by decide +kernel
theorem dX8_mirror_49 : decode cX8_mirror 49 = .ok (.iinc 4 1, 3) := by decide +kernel
theorem dX8_mirror_52 : decode cX8_mirror 52 = .ok (.goto (-36), 3) := by decide +kernel
theorem dX8_mirror_55 : decode cX8_mirror 55 = .ok (.iload_n 2, 1) := by decide +kernel
theorem dX8_mirror_56 : decode cX8_mirror 56 = .ok (.ireturn, 1) := by decide +kernel
theorem dX8_unlike_0 : decode cX8_unlike 0 = .ok (.aload_n 0, 1) := by decide +kernel
theorem dX8_unlike_1 : decode cX8_unlike 1 = .ok (.iconst 0, 1) := by decide +kernel
theorem dX8_unlike_2 : decode cX8_unlike 2 = .ok (.putfield 34, 3) := by decide +kernel
theorem dX8_unlike_5 : decode cX8_unlike 5 = .ok (.aload_n 0, 1) := by decide +kernel
theorem dX8_unlike_6 : decode cX8_unlike 6 = .ok (.invokevirtual 49, 3) := by decide +kernel
theorem dX8_unlike_9 : decode cX8_unlike 9 = .ok (.aload_n 0, 1) := by decide +kernel
theorem dX8_unlike_10 : decode cX8_unlike 10 = .ok (.iload_n 1, 1) := by decide +kernel
theorem dX8_unlike_11 : decode cX8_unlike 11 = .ok (.iload_n 2, 1) := by decide +kernel
theorem dX8_unlike_12 : decode cX8_unlike 12 = .ok (.aload_n 0, 1) := by decide +kernel
theorem dX8_unlike_13 : decode cX8_unlike 13 = .ok (.getfield 7, 3) := by decide +kernel
theorem dX8_unlike_16 : decode cX8_unlike 16 = .ok (.iconst 0, 1) := by decide +kernel
theorem dX8_unlike_17 : decode cX8_unlike 17 = .ok (.iaload, 1) := by decide +kernel
theorem dX8_unlike_18 : decode cX8_unlike 18 = .ok (.invokevirtual 190, 3) := by decide +kernel
theorem dX8_unlike_21 : decode cX8_unlike 21 = .ok (.istore_n 3, 1) := by decide +kernel
theorem dX8_unlike_22 : decode cX8_unlike 22 = .ok (.iload_n 3, 1) := by decide +kernel
theorem dX8_unlike_23 : decode cX8_unlike 23 = .ok (.iconst (-1), 1) := by decide +kernel
theorem dX8_unlike_24 : decode cX8_unlike 24 = .ok (.if_icmp .ne 5, 3) := by decide +kernel
theorem dX8_unlike_27 : decode cX8_unlike 27 = .ok (.iconst (-1), 1) := by decide +kernel
theorem dX8_unlike_28 : decode cX8_unlike 28 = .ok (.ireturn, 1) := by decide +kernel
theorem dX8_unlike_29 : decode cX8_unlike 29 = .ok (.aload_n 0, 1) := by decide +kernel
theorem dX8_unlike_30 : decode cX8_unlike 30 = .ok (.invokevirtual 198, 3) := by decide +kernel
theorem dX8_unlike_33 : decode cX8_unlike 33 = .ok (.aload_n 0, 1) := by decide +kernel
theorem dX8_unlike_34 : decode cX8_unlike 34 = .ok (.invokevirtual 81, 3) := by decide +kernel
theorem dX8_unlike_37 : decode cX8_unlike 37 = .ok (.istore 4, 2) := by decide +kernel
theorem dX8_unlike_39 : decode cX8_unlike 39 = .ok (.iconst 0, 1) := by decide +kernel
theorem dX8_unlike_40 : decode cX8_unlike 40 = .ok (.istore 5, 2) := by decide +kernel
theorem dX8_unlike_42 : decode cX8_unlike 42 = .ok (.iconst 0, 1) := by decide +kernel
theorem dX8_unlike_43 : decode cX8_unlike 43 = .ok (.istore 6, 2) := by decide +kernel
theorem dX8_unlike_45 : decode cX8_unlike 45 = .ok (.iload 6, 2) := by decide +kernel
theorem dX8_unlike_47 : decode cX8_unlike 47 = .ok (.iload_n 3, 1) := by decide +kernel
theorem dX8_unlike_48 : decode cX8_unlike 48 = .ok (.if_icmp .ge 74, 3) := by decide +kernel
theorem dX8_unlike_51 : decode cX8_unlike 51 = .ok (.aload_n 0, 1) := by decide +kernel
theorem dX8_unlike_52 : decode cX8_unlike 52 = .ok (.iload_n 1, 1) := by decide +kernel
theorem dX8_unlike_53 : decode cX8_unlike 53 = .ok (.iload_n 2, 1) := by decide +kernel
theorem dX8_unlike_54 : decode cX8_unlike 54 = .ok (.iload 6, 2) := by decide +kernel
theorem dX8_unlike_56 : decode cX8_unlike 56 = .ok (.invokevirtual 194, 3) := by decide +kernel
theorem dX8_unlike_59 : decode cX8_unlike 59 = .ok (.ifCond .ne 6, 3) := by decide +kernel
theorem dX8_unlike_62 : decode cX8_unlike 62 = .ok (.goto 54, 3) := by decide +kernel
theorem dX8_unlike_65 : decode cX8_unlike 65 = .ok (.iconst 1, 1) := by decide +kernel
theorem dX8_unlike_66 : decode cX8_unlike 66 = .ok (.istore 7, 2) := by decide +kernel
theorem dX8_unlike_68 : decode cX8_unlike 68 = .ok (.iload 4, 2) := by decide +kernel
theorem dX8_unlike_70 : decode cX8_unlike 70 = .ok (.ifCond .eq 35, 3) := by decide +kernel
theorem dX8_unlike_73 : decode cX8_unlike 73 = .ok (.aload_n 0, 1) := by decide +kernel
theorem dX8_unlike_74 : decode cX8_unlike 74 = .ok (.iload_n 1, 1) := by decide +kernel
theorem dX8_unlike_75 : decode cX8_unlike 75 = .ok (.invokevirtual 210, 3) := by decide +kernel
theorem dX8_unlike_78 : decode cX8_unlike 78 = .ok (.istore 8, 2) := by decide +kernel
theorem dX8_unlike_80 : decode cX8_unlike 80 = .ok (.iload 8, 2) := by decide +kernel
theorem dX8_unlike_82 : decode cX8_unlike 82 = .ok (.iload 6, 2) := by decide +kernel
theorem dX8_unlike_84 : decode cX8_unlike 84 = .ok (.if_icmp .ge 14, 3) := by decide +kernel
theorem dX8_unlike_87 : decode cX8_unlike 87 = .ok (.aload_n 0, 1) := by decide +kernel
theorem dX8_unlike_88 : decode cX8_unlike 88 = .ok (.iload_n 1, 1) := by decide +kernel
theorem dX8_unlike_89 : decode cX8_unlike 89 = .ok (.iload_n 2, 1) := by decide +kernel
theorem dX8_unlike_90 : decode cX8_unlike 90 = .ok (.iload 8, 2) := by decide +kernel
theorem dX8_unlike_92 : decode cX8_unlike 92 = .ok (.invokevirtual 194, 3) := by decide +kernel
theorem dX8_unlike_95 : decode cX8_unlike 95 = .ok (.ifCond .ne 7, 3) := by decide +kernel
theorem dX8_unlike_98 : decode cX8_unlike 98 = .ok (.iconst 1, 1) := by decide +kernel
theorem dX8_unlike_99 : decode cX8_unlike 99 = .ok (.goto 4, 3) := by decide +kernel
theorem dX8_unlike_102 : decode cX8_unlike 102 = .ok (.iconst 0, 1) := by decide +kernel
theorem dX8_unlike_103 : decode cX8_unlike 103 = .ok (.istore 7, 2) := by decide +kernel
theorem dX8_unlike_105 : decode cX8_unlike 105 = .ok (.iload 7, 2) := by decide +kernel
theorem dX8_unlike_107 : decode cX8_unlike 107 = .ok (.ifCond .eq 9, 3) := by decide +kernel
theorem dX8_unlike_110 : decode cX8_unlike 110 = .ok (.iload 5, 2) := by decide +kernel
theorem dX8_unlike_112 : decode cX8_unlike 112 = .ok (.iconst 1, 1) := by decide +kernel
theorem dX8_unlike_113 : decode cX8_unlike 113 = .ok (.iadd, 1) := by decide +kernel
theorem dX8_unlike_114 : decode cX8_unlike 114 = .ok (.istore 5, 2) := by decide +kernel
theorem dX8_unlike_116 : decode cX8_unlike 116 = .ok (.iinc 6 1, 3) := by decide +kernel
theorem dX8_unlike_119 : decode cX8_unlike 119 = .ok (.goto (-74), 3) := by decide +kernel
theorem dX8_unlike_122 : decode cX8_unlike 122 = .ok (.aload_n 0, 1) := by decide +kernel
theorem dX8_unlike_123 : decode cX8_unlike 123 = .ok (.invokevirtual 204, 3) := by decide +kernel
theorem dX8_unlike_126 : decode cX8_unlike 126 = .ok (.iload 5, 2) := by decide +kernel
theorem dX8_unlike_128 : decode cX8_unlike 128 = .ok (.ireturn, 1) := by decide +kernel
theorem dX8_best_0 : decode cX8_best 0 = .ok (.aload_n 0, 1) := by decide +kernel
theorem dX8_best_1 : decode cX8_best 1 = .ok (.iconst 0, 1) := by decide +kernel
theorem dX8_best_2 : decode cX8_best 2 = .ok (.putfield 34, 3) := by decide +kernel
theorem dX8_best_5 : decode cX8_best 5 = .ok (.aload_n 0, 1) := by decide +kernel
theorem dX8_best_6 : decode cX8_best 6 = .ok (.invokevirtual 49, 3) := by decide +kernel
theorem dX8_best_9 : decode cX8_best 9 = .ok (.aload_n 0, 1) := by decide +kernel
theorem dX8_best_10 : decode cX8_best 10 = .ok (.iload_n 1, 1) := by decide +kernel
theorem dX8_best_11 : decode cX8_best 11 = .ok (.iload_n 2, 1) := by decide +kernel
theorem dX8_best_12 : decode cX8_best 12 = .ok (.aload_n 0, 1) := by decide +kernel
theorem dX8_best_13 : decode cX8_best 13 = .ok (.getfield 7, 3) := by decide +kernel
theorem dX8_best_16 : decode cX8_best 16 = .ok (.iconst 0, 1) := by decide +kernel
theorem dX8_best_17 : decode cX8_best 17 = .ok (.iaload, 1) := by decide +kernel
theorem dX8_best_18 : decode cX8_best 18 = .ok (.invokevirtual 190, 3) := by decide +kernel
theorem dX8_best_21 : decode cX8_best 21 = .ok (.istore_n 3, 1) := by decide +kernel
theorem dX8_best_22 : decode cX8_best 22 = .ok (.iload_n 3, 1) := by decide +kernel
theorem dX8_best_23 : decode cX8_best 23 = .ok (.iconst (-1), 1) := by decide +kernel
theorem dX8_best_24 : decode cX8_best 24 = .ok (.if_icmp .ne 5, 3) := by decide +kernel
theorem dX8_best_27 : decode cX8_best 27 = .ok (.iconst (-1), 1) := by decide +kernel
theorem dX8_best_28 : decode cX8_best 28 = .ok (.ireturn, 1) := by decide +kernel
theorem dX8_best_29 : decode cX8_best 29 = .ok (.aload_n 0, 1) := by decide +kernel
theorem dX8_best_30 : decode cX8_best 30 = .ok (.invokevirtual 198, 3) := by decide +kernel
theorem dX8_best_33 : decode cX8_best 33 = .ok (.iconst 0, 1) := by decide +kernel
theorem dX8_best_34 : decode cX8_best 34 = .ok (.istore 4, 2) := by decide +kernel
theorem dX8_best_36 : decode cX8_best 36 = .ok (.iconst (-1), 1) := by decide +kernel
theorem dX8_best_37 : decode cX8_best 37 = .ok (.istore 5, 2) := by decide +kernel
theorem dX8_best_39 : decode cX8_best 39 = .ok (.iconst (-1), 1) := by decide +kernel
theorem dX8_best_40 : decode cX8_best 40 = .ok (.istore 6, 2) := by decide +kernel
theorem dX8_best_42 : decode cX8_best 42 = .ok (.lconst 0, 1) := by decide +kernel
theorem dX8_best_43 : decode cX8_best 43 = .ok (.lstore 7, 2) := by decide +kernel
theorem dX8_best_45 : decode cX8_best 45 = .ok (.lconst 1, 1) := by decide +kernel
theorem dX8_best_46 : decode cX8_best 46 = .ok (.lstore 9, 2) := by decide +kernel
theorem dX8_best_48 : decode cX8_best 48 = .ok (.iconst 0, 1) := by decide +kernel
theorem dX8_best_49 : decode cX8_best 49 = .ok (.istore 11, 2) := by decide +kernel
theorem dX8_best_51 : decode cX8_best 51 = .ok (.iload 11, 2) := by decide +kernel
theorem dX8_best_53 : decode cX8_best 53 = .ok (.iload_n 3, 1) := by decide +kernel
theorem dX8_best_54 : decode cX8_best 54 = .ok (.if_icmp .ge 80, 3) := by decide +kernel
theorem dX8_best_57 : decode cX8_best 57 = .ok (.aload_n 0, 1) := by decide +kernel
theorem dX8_best_58 : decode cX8_best 58 = .ok (.iload_n 1, 1) := by decide +kernel
theorem dX8_best_59 : decode cX8_best 59 = .ok (.iload_n 2, 1) := by decide +kernel
theorem dX8_best_60 : decode cX8_best 60 = .ok (.iload 11, 2) := by decide +kernel
theorem dX8_best_62 : decode cX8_best 62 = .ok (.invokevirtual 194, 3) := by decide +kernel
theorem dX8_best_65 : decode cX8_best 65 = .ok (.ifCond .ne 6, 3) := by decide +kernel
theorem dX8_best_68 : decode cX8_best 68 = .ok (.goto 60, 3) := by decide +kernel
theorem dX8_best_71 : decode cX8_best 71 = .ok (.aload_n 0, 1) := by decide +kernel
theorem dX8_best_72 : decode cX8_best 72 = .ok (.invokevirtual 178, 3) := by decide +kernel
theorem dX8_best_75 : decode cX8_best 75 = .ok (.ifCond .eq 47, 3) := by decide +kernel
theorem dX8_best_78 : decode cX8_best 78 = .ok (.iload 5, 2) := by decide +kernel
theorem dX8_best_80 : decode cX8_best 80 = .ok (.iconst (-1), 1) := by decide +kernel
theorem dX8_best_81 : decode cX8_best 81 = .ok (.if_icmp .eq 21, 3) := by decide +kernel
theorem dX8_best_84 : decode cX8_best 84 = .ok (.aload_n 0, 1) := by decide +kernel
theorem dX8_best_85 : decode cX8_best 85 = .ok (.getfield 175, 3) := by decide +kernel
theorem dX8_best_88 : decode cX8_best 88 = .ok (.lload 9, 2) := by decide +kernel
theorem dX8_best_90 : decode cX8_best 90 = .ok (.lmul, 1) := by decide +kernel
theorem dX8_best_91 : decode cX8_best 91 = .ok (.lload 7, 2) := by decide +kernel
theorem dX8_best_93 : decode cX8_best 93 = .ok (.aload_n 0, 1) := by decide +kernel
theorem dX8_best_94 : decode cX8_best 94 = .ok (.getfield 172, 3) := by decide +kernel
theorem dX8_best_97 : decode cX8_best 97 = .ok (.lmul, 1) := by decide +kernel
theorem dX8_best_98 : decode cX8_best 98 = .ok (.lcmp, 1) := by decide +kernel
theorem dX8_best_99 : decode cX8_best 99 = .ok (.ifCond .le 23, 3) := by decide +kernel
theorem dX8_best_102 : decode cX8_best 102 = .ok (.iload 11, 2) := by decide +kernel
theorem dX8_best_104 : decode cX8_best 104 = .ok (.istore 5, 2) := by decide +kernel
theorem dX8_best_106 : decode cX8_best 106 = .ok (.iload 4, 2) := by decide +kernel
theorem dX8_best_108 : decode cX8_best 108 = .ok (.istore 6, 2) := by decide +kernel
theorem dX8_best_110 : decode cX8_best 110 = .ok (.aload_n 0, 1) := by decide +kernel
theorem dX8_best_111 : decode cX8_best 111 = .ok (.getfield 175, 3) := by decide +kernel
theorem dX8_best_114 : decode cX8_best 114 = .ok (.lstore 7, 2) := by decide +kernel
theorem dX8_best_116 : decode cX8_best 116 = .ok (.aload_n 0, 1) := by decide +kernel
theorem dX8_best_117 : decode cX8_best 117 = .ok (.getfield 172, 3) := by decide +kernel
theorem dX8_best_120 : decode cX8_best 120 = .ok (.lstore 9, 2) := by decide +kernel
theorem dX8_best_122 : decode cX8_best 122 = .ok (.iload 4, 2) := by decide +kernel
theorem dX8_best_124 : decode cX8_best 124 = .ok (.iconst 1, 1) := by decide +kernel
theorem dX8_best_125 : decode cX8_best 125 = .ok (.iadd, 1) := by decide +kernel
theorem dX8_best_126 : decode cX8_best 126 = .ok (.istore 4, 2) := by decide +kernel
theorem dX8_best_128 : decode cX8_best 128 = .ok (.iinc 11 1, 3) := by decide +kernel
theorem dX8_best_131 : decode cX8_best 131 = .ok (.goto (-80), 3) := by decide +kernel
theorem dX8_best_134 : decode cX8_best 134 = .ok (.aload_n 0, 1) := by decide +kernel
theorem dX8_best_135 : decode cX8_best 135 = .ok (.invokevirtual 204, 3) := by decide +kernel
theorem dX8_best_138 : decode cX8_best 138 = .ok (.iload 5, 2) := by decide +kernel
theorem dX8_best_140 : decode cX8_best 140 = .ok (.iconst (-1), 1) := by decide +kernel
theorem dX8_best_141 : decode cX8_best 141 = .ok (.if_icmp .ne 5, 3) := by decide +kernel
theorem dX8_best_144 : decode cX8_best 144 = .ok (.iconst (-1), 1) := by decide +kernel
theorem dX8_best_145 : decode cX8_best 145 = .ok (.ireturn, 1) := by decide +kernel
theorem dX8_best_146 : decode cX8_best 146 = .ok (.aload_n 0, 1) := by decide +kernel
theorem dX8_best_147 : decode cX8_best 147 = .ok (.invokevirtual 52, 3) := by decide +kernel
theorem dX8_best_150 : decode cX8_best 150 = .ok (.aload_n 0, 1) := by decide +kernel
theorem dX8_best_151 : decode cX8_best 151 = .ok (.iload_n 1, 1) := by decide +kernel
theorem dX8_best_152 : decode cX8_best 152 = .ok (.iload 5, 2) := by decide +kernel
theorem dX8_best_154 : decode cX8_best 154 = .ok (.invokevirtual 187, 3) := by decide +kernel
theorem dX8_best_157 : decode cX8_best 157 = .ok (.aload_n 0, 1) := by decide +kernel
theorem dX8_best_158 : decode cX8_best 158 = .ok (.iload_n 1, 1) := by decide +kernel
theorem dX8_best_159 : decode cX8_best 159 = .ok (.iload_n 2, 1) := by decide +kernel
theorem dX8_best_160 : decode cX8_best 160 = .ok (.invokevirtual 184, 3) := by decide +kernel
theorem dX8_best_163 : decode cX8_best 163 = .ok (.iload 6, 2) := by decide +kernel
theorem dX8_best_165 : decode cX8_best 165 = .ok (.ireturn, 1) := by decide +kernel
theorem dX8_without_0 : decode cX8_without 0 = .ok (.aload_n 0, 1) := by decide +kernel
theorem dX8_without_1 : decode cX8_without 1 = .ok (.iconst 0, 1) := by decide +kernel
theorem dX8_without_2 : decode cX8_without 2 = .ok (.putfield 34, 3) := by decide +kernel
theorem dX8_without_5 : decode cX8_without 5 = .ok (.aload_n 0, 1) := by decide +kernel
theorem dX8_without_6 : decode cX8_without 6 = .ok (.invokevirtual 49, 3) := by decide +kernel
theorem dX8_without_9 : decode cX8_without 9 = .ok (.aload_n 0, 1) := by decide +kernel
theorem dX8_without_10 : decode cX8_without 10 = .ok (.iload_n 1, 1) := by decide +kernel
theorem dX8_without_11 : decode cX8_without 11 = .ok (.invokevirtual 55, 3) := by decide +kernel
theorem dX8_without_14 : decode cX8_without 14 = .ok (.ifCond .eq 41, 3) := by decide +kernel
theorem dX8_without_17 : decode cX8_without 17 = .ok (.aload_n 0, 1) := by decide +kernel
theorem dX8_without_18 : decode cX8_without 18 = .ok (.getfield 7, 3) := by decide +kernel
theorem dX8_without_21 : decode cX8_without 21 = .ok (.iconst 0, 1) := by decide +kernel
theorem dX8_without_22 : decode cX8_without 22 = .ok (.iaload, 1) := by decide +kernel
theorem dX8_without_23 : decode cX8_without 23 = .ok (.iconst 3, 1) := by decide +kernel
theorem dX8_without_24 : decode cX8_without 24 = .ok (.if_icmp .lt 31, 3) := by decide +kernel
theorem dX8_without_27 : decode cX8_without 27 = .ok (.aload_n 0, 1) := by decide +kernel
theorem dX8_without_28 : decode cX8_without 28 = .ok (.getfield 7, 3) := by decide +kernel
theorem dX8_without_31 : decode cX8_without 31 = .ok (.iconst 1, 1) := by decide +kernel
theorem dX8_without_32 : decode cX8_without 32 = .ok (.iaload, 1) := by decide +kernel
theorem dX8_without_33 : decode cX8_without 33 = .ok (.iconst 2, 1) := by decide +kernel
theorem dX8_without_34 : decode cX8_without 34 = .ok (.if_icmp .eq 21, 3) := by decide +kernel
theorem dX8_without_37 : decode cX8_without 37 = .ok (.aload_n 0, 1) := by decide +kernel
theorem dX8_without_38 : decode cX8_without 38 = .ok (.iload_n 2, 1) := by decide +kernel
theorem dX8_without_39 : decode cX8_without 39 = .ok (.iload_n 3, 1) := by decide +kernel
theorem dX8_without_40 : decode cX8_without 40 = .ok (.aload_n 0, 1) := by decide +kernel
theorem dX8_without_41 : decode cX8_without 41 = .ok (.getfield 7, 3) := by decide +kernel
theorem dX8_without_44 : decode cX8_without 44 = .ok (.iconst 0, 1) := by decide +kernel
theorem dX8_without_45 : decode cX8_without 45 = .ok (.iaload, 1) := by decide +kernel
theorem dX8_without_46 : decode cX8_without 46 = .ok (.iconst 1, 1) := by decide +kernel
theorem dX8_without_47 : decode cX8_without 47 = .ok (.isub, 1) := by decide +kernel
theorem dX8_without_48 : decode cX8_without 48 = .ok (.invokevirtual 190, 3) := by decide +kernel
theorem dX8_without_51 : decode cX8_without 51 = .ok (.iconst (-1), 1) := by decide +kernel
theorem dX8_without_52 : decode cX8_without 52 = .ok (.if_icmp .ne 5, 3) := by decide +kernel
theorem dX8_without_55 : decode cX8_without 55 = .ok (.iconst (-1), 1) := by decide +kernel
theorem dX8_without_56 : decode cX8_without 56 = .ok (.ireturn, 1) := by decide +kernel
theorem dX8_without_57 : decode cX8_without 57 = .ok (.aload_n 0, 1) := by decide +kernel
theorem dX8_without_58 : decode cX8_without 58 = .ok (.invokevirtual 198, 3) := by decide +kernel
theorem dX8_without_61 : decode cX8_without 61 = .ok (.iload_n 1, 1) := by decide +kernel
theorem dX8_without_62 : decode cX8_without 62 = .ok (.istore 4, 2) := by decide +kernel
theorem dX8_without_64 : decode cX8_without 64 = .ok (.iload 4, 2) := by decide +kernel
theorem dX8_without_66 : decode cX8_without 66 = .ok (.iconst 1, 1) := by decide +kernel
theorem dX8_without_67 : decode cX8_without 67 = .ok (.iadd, 1) := by decide +kernel
theorem dX8_without_68 : decode cX8_without 68 = .ok (.aload_n 0, 1) := by decide +kernel
theorem dX8_without_69 : decode cX8_without 69 = .ok (.getfield 7, 3) := by decide +kernel
theorem dX8_without_72 : decode cX8_without 72 = .ok (.iconst 0, 1) := by decide +kernel
theorem dX8_without_73 : decode cX8_without 73 = .ok (.iaload, 1) := by decide +kernel
theorem dX8_without_74 : decode cX8_without 74 = .ok (.if_icmp .ge 53, 3) := by decide +kernel
theorem dX8_without_77 : decode cX8_without 77 = .ok (.aload_n 0, 1) := by decide +kernel
theorem dX8_without_78 : decode cX8_without 78 = .ok (.getfield 7, 3) := by decide +kernel
theorem dX8_without_81 : decode cX8_without 81 = .ok (.bipush 7, 2) := by decide +kernel
theorem dX8_without_83 : decode cX8_without 83 = .ok (.iload 4, 2) := by decide +kernel
theorem dX8_without_85 : decode cX8_without 85 = .ok (.iadd, 1) := by decide +kernel
theorem dX8_without_86 : decode cX8_without 86 = .ok (.aload_n 0, 1) := by decide +kernel
theorem dX8_without_87 : decode cX8_without 87 = .ok (.getfield 7, 3) := by decide +kernel
theorem dX8_without_90 : decode cX8_without 90 = .ok (.bipush 7, 2) := by decide +kernel
theorem dX8_without_92 : decode cX8_without 92 = .ok (.iload 4, 2) := by decide +kernel
theorem dX8_without_94 : decode cX8_without 94 = .ok (.iadd, 1) := by decide +kernel
theorem dX8_without_95 : decode cX8_without 95 = .ok (.iconst 1, 1) := by decide +kernel
theorem dX8_without_96 : decode cX8_without 96 = .ok (.iadd, 1) := by decide +kernel
theorem dX8_without_97 : decode cX8_without 97 = .ok (.iaload, 1) := by decide +kernel
theorem dX8_without_98 : decode cX8_without 98 = .ok (.iastore, 1) := by decide +kernel
theorem dX8_without_99 : decode cX8_without 99 = .ok (.aload_n 0, 1) := by decide +kernel
theorem dX8_without_100 : decode cX8_without 100 = .ok (.getfield 7, 3) := by decide +kernel
theorem dX8_without_103 : decode cX8_without 103 = .ok (.bipush 15, 2) := by decide +kernel
theorem dX8_without_105 : decode cX8_without 105 = .ok (.iload 4, 2) := by decide +kernel
theorem dX8_without_107 : decode cX8_without 107 = .ok (.iadd, 1) := by decide +kernel
theorem dX8_without_108 : decode cX8_without 108 = .ok (.aload_n 0, 1) := by decide +kernel
theorem dX8_without_109 : decode cX8_without 109 = .ok (.getfield 7, 3) := by decide +kernel
theorem dX8_without_112 : decode cX8_without 112 = .ok (.bipush 15, 2) := by decide +kernel
theorem dX8_without_114 : decode cX8_without 114 = .ok (.iload 4, 2) := by decide +kernel
theorem dX8_without_116 : decode cX8_without 116 = .ok (.iadd, 1) := by decide +kernel
theorem dX8_without_117 : decode cX8_without 117 = .ok (.iconst 1, 1) := by decide +kernel
theorem dX8_without_118 : decode cX8_without 118 = .ok (.iadd, 1) := by decide +kernel
theorem dX8_without_119 : decode cX8_without 119 = .ok (.iaload, 1) := by decide +kernel
theorem dX8_without_120 : decode cX8_without 120 = .ok (.iastore, 1) := by decide +kernel
theorem dX8_without_121 : decode cX8_without 121 = .ok (.iinc 4 1, 3) := by decide +kernel
theorem dX8_without_124 : decode cX8_without 124 = .ok (.goto (-60), 3) := by decide +kernel
theorem dX8_without_127 : decode cX8_without 127 = .ok (.aload_n 0, 1) := by decide +kernel
theorem dX8_without_128 : decode cX8_without 128 = .ok (.getfield 7, 3) := by decide +kernel
theorem dX8_without_131 : decode cX8_without 131 = .ok (.iconst 0, 1) := by decide +kernel
theorem dX8_without_132 : decode cX8_without 132 = .ok (.aload_n 0, 1) := by decide +kernel
theorem dX8_without_133 : decode cX8_without 133 = .ok (.getfield 7, 3) := by decide +kernel
theorem dX8_without_136 : decode cX8_without 136 = .ok (.iconst 0, 1) := by decide +kernel
theorem dX8_without_137 : decode cX8_without 137 = .ok (.iaload, 1) := by decide +kernel
theorem dX8_without_138 : decode cX8_without 138 = .ok (.iconst 1, 1) := by decide +kernel
theorem dX8_without_139 : decode cX8_without 139 = .ok (.isub, 1) := by decide +kernel
theorem dX8_without_140 : decode cX8_without 140 = .ok (.iastore, 1) := by decide +kernel
theorem dX8_without_141 : decode cX8_without 141 = .ok (.aload_n 0, 1) := by decide +kernel
theorem dX8_without_142 : decode cX8_without 142 = .ok (.iload_n 2, 1) := by decide +kernel
theorem dX8_without_143 : decode cX8_without 143 = .ok (.iload_n 3, 1) := by decide +kernel
theorem dX8_without_144 : decode cX8_without 144 = .ok (.invokevirtual 201, 3) := by decide +kernel
theorem dX8_without_147 : decode cX8_without 147 = .ok (.istore 4, 2) := by decide +kernel
theorem dX8_without_149 : decode cX8_without 149 = .ok (.aload_n 0, 1) := by decide +kernel
theorem dX8_without_150 : decode cX8_without 150 = .ok (.invokevirtual 204, 3) := by decide +kernel
theorem dX8_without_153 : decode cX8_without 153 = .ok (.iload 4, 2) := by decide +kernel
theorem dX8_without_155 : decode cX8_without 155 = .ok (.ireturn, 1) := by decide +kernel
theorem dX8_loads_0 : decode cX8_loads 0 = .ok (.aload_n 0, 1) := by decide +kernel
theorem dX8_loads_1 : decode cX8_loads 1 = .ok (.iconst 0, 1) := by decide +kernel
theorem dX8_loads_2 : decode cX8_loads 2 = .ok (.putfield 34, 3) := by decide +kernel
theorem dX8_loads_5 : decode cX8_loads 5 = .ok (.aload_n 0, 1) := by decide +kernel
theorem dX8_loads_6 : decode cX8_loads 6 = .ok (.invokevirtual 49, 3) := by decide +kernel
theorem dX8_loads_9 : decode cX8_loads 9 = .ok (.iload_n 1, 1) := by decide +kernel
theorem dX8_loads_10 : decode cX8_loads 10 = .ok (.bipush (-20), 2) := by decide +kernel
theorem dX8_loads_12 : decode cX8_loads 12 = .ok (.if_icmp .lt 9, 3) := by decide +kernel
theorem dX8_loads_15 : decode cX8_loads 15 = .ok (.iload_n 1, 1) := by decide +kernel
theorem dX8_loads_16 : decode cX8_loads 16 = .ok (.bipush 20, 2) := by decide +kernel
theorem dX8_loads_18 : decode cX8_loads 18 = .ok (.if_icmp .le 5, 3) := by decide +kernel
theorem dX8_loads_21 : decode cX8_loads 21 = .ok (.iconst (-1), 1) := by decide +kernel
theorem dX8_loads_22 : decode cX8_loads 22 = .ok (.ireturn, 1) := by decide +kernel
theorem dX8_loads_23 : decode cX8_loads 23 = .ok (.aload_n 0, 1) := by decide +kernel
theorem dX8_loads_24 : decode cX8_loads 24 = .ok (.invokevirtual 198, 3) := by decide +kernel
theorem dX8_loads_27 : decode cX8_loads 27 = .ok (.iconst 0, 1) := by decide +kernel
theorem dX8_loads_28 : decode cX8_loads 28 = .ok (.istore_n 2, 1) := by decide +kernel
theorem dX8_loads_29 : decode cX8_loads 29 = .ok (.aload_n 0, 1) := by decide +kernel
theorem dX8_loads_30 : decode cX8_loads 30 = .ok (.getfield 7, 3) := by decide +kernel
theorem dX8_loads_33 : decode cX8_loads 33 = .ok (.iconst 5, 1) := by decide +kernel
theorem dX8_loads_34 : decode cX8_loads 34 = .ok (.iload_n 1, 1) := by decide +kernel
theorem dX8_loads_35 : decode cX8_loads 35 = .ok (.iastore, 1) := by decide +kernel
theorem dX8_loads_36 : decode cX8_loads 36 = .ok (.bipush (-20), 2) := by decide +kernel
theorem dX8_loads_38 : decode cX8_loads 38 = .ok (.istore_n 3, 1) := by decide +kernel
theorem dX8_loads_39 : decode cX8_loads 39 = .ok (.iload_n 3, 1) := by decide +kernel
theorem dX8_loads_40 : decode cX8_loads 40 = .ok (.bipush 20, 2) := by decide +kernel
theorem dX8_loads_42 : decode cX8_loads 42 = .ok (.if_icmp .gt 28, 3) := by decide +kernel
theorem dX8_loads_45 : decode cX8_loads 45 = .ok (.aload_n 0, 1) := by decide +kernel
theorem dX8_loads_46 : decode cX8_loads 46 = .ok (.getfield 7, 3) := by decide +kernel
theorem dX8_loads_49 : decode cX8_loads 49 = .ok (.iconst 4, 1) := by decide +kernel
theorem dX8_loads_50 : decode cX8_loads 50 = .ok (.iload_n 3, 1) := by decide +kernel
theorem dX8_loads_51 : decode cX8_loads 51 = .ok (.iastore, 1) := by decide +kernel
theorem dX8_loads_52 : decode cX8_loads 52 = .ok (.aload_n 0, 1) := by decide +kernel
theorem dX8_loads_53 : decode cX8_loads 53 = .ok (.invokevirtual 143, 3) := by decide +kernel
theorem dX8_loads_56 : decode cX8_loads 56 = .ok (.iconst (-1), 1) := by decide +kernel
theorem dX8_loads_57 : decode cX8_loads 57 = .ok (.if_icmp .ne 7, 3) := by decide +kernel
theorem dX8_loads_60 : decode cX8_loads 60 = .ok (.iload_n 2, 1) := by decide +kernel
theorem dX8_loads_61 : decode cX8_loads 61 = .ok (.iconst 1, 1) := by decide +kernel
theorem dX8_loads_62 : decode cX8_loads 62 = .ok (.iadd, 1) := by decide +kernel
theorem dX8_loads_63 : decode cX8_loads 63 = .ok (.istore_n 2, 1) := by decide +kernel
theorem dX8_loads_64 : decode cX8_loads 64 = .ok (.iinc 3 1, 3) := by decide +kernel
theorem dX8_loads_67 : decode cX8_loads 67 = .ok (.goto (-28), 3) := by decide +kernel
theorem dX8_loads_70 : decode cX8_loads 70 = .ok (.aload_n 0, 1) := by decide +kernel
theorem dX8_loads_71 : decode cX8_loads 71 = .ok (.invokevirtual 204, 3) := by decide +kernel
theorem dX8_loads_74 : decode cX8_loads 74 = .ok (.iload_n 2, 1) := by decide +kernel
theorem dX8_loads_75 : decode cX8_loads 75 = .ok (.ireturn, 1) := by decide +kernel
theorem dX8_mayBe_0 : decode cX8_mayBe 0 = .ok (.aload_n 0, 1) := by decide +kernel
theorem dX8_mayBe_1 : decode cX8_mayBe 1 = .ok (.getfield 7, 3) := by decide +kernel
theorem dX8_mayBe_4 : decode cX8_mayBe 4 = .ok (.iconst 1, 1) := by decide +kernel
theorem dX8_mayBe_5 : decode cX8_mayBe 5 = .ok (.iaload, 1) := by decide +kernel
theorem dX8_mayBe_6 : decode cX8_mayBe 6 = .ok (.iconst 2, 1) := by decide +kernel
theorem dX8_mayBe_7 : decode cX8_mayBe 7 = .ok (.if_icmp .ne 13, 3) := by decide +kernel
theorem dX8_mayBe_10 : decode cX8_mayBe 10 = .ok (.aload_n 0, 1) := by decide +kernel
theorem dX8_mayBe_11 : decode cX8_mayBe 11 = .ok (.iload_n 1, 1) := by decide +kernel
theorem dX8_mayBe_12 : decode cX8_mayBe 12 = .ok (.invokevirtual 124, 3) := by decide +kernel
theorem dX8_mayBe_15 : decode cX8_mayBe 15 = .ok (.ifCond .ne 5, 3) := by decide +kernel
theorem dX8_mayBe_18 : decode cX8_mayBe 18 = .ok (.iconst 0, 1) := by decide +kernel
theorem dX8_mayBe_19 : decode cX8_mayBe 19 = .ok (.ireturn, 1) := by decide +kernel
theorem dX8_mayBe_20 : decode cX8_mayBe 20 = .ok (.aload_n 0, 1) := by decide +kernel
theorem dX8_mayBe_21 : decode cX8_mayBe 21 = .ok (.iconst 0, 1) := by decide +kernel
theorem dX8_mayBe_22 : decode cX8_mayBe 22 = .ok (.putfield 100, 3) := by decide +kernel
theorem dX8_mayBe_25 : decode cX8_mayBe 25 = .ok (.iconst 0, 1) := by decide +kernel
theorem dX8_mayBe_26 : decode cX8_mayBe 26 = .ok (.istore_n 2, 1) := by decide +kernel
theorem dX8_mayBe_27 : decode cX8_mayBe 27 = .ok (.iload_n 2, 1) := by decide +kernel
theorem dX8_mayBe_28 : decode cX8_mayBe 28 = .ok (.aload_n 0, 1) := by decide +kernel
theorem dX8_mayBe_29 : decode cX8_mayBe 29 = .ok (.getfield 7, 3) := by decide +kernel
theorem dX8_mayBe_32 : decode cX8_mayBe 32 = .ok (.iconst 0, 1) := by decide +kernel
theorem dX8_mayBe_33 : decode cX8_mayBe 33 = .ok (.iaload, 1) := by decide +kernel
theorem dX8_mayBe_34 : decode cX8_mayBe 34 = .ok (.if_icmp .ge 44, 3) := by decide +kernel
theorem dX8_mayBe_37 : decode cX8_mayBe 37 = .ok (.iload_n 1, 1) := by decide +kernel
theorem dX8_mayBe_38 : decode cX8_mayBe 38 = .ok (.iload_n 2, 1) := by decide +kernel
theorem dX8_mayBe_39 : decode cX8_mayBe 39 = .ok (.ishr, 1) := by decide +kernel
theorem dX8_mayBe_40 : decode cX8_mayBe 40 = .ok (.iconst 1, 1) := by decide +kernel
theorem dX8_mayBe_41 : decode cX8_mayBe 41 = .ok (.iand, 1) := by decide +kernel
theorem dX8_mayBe_42 : decode cX8_mayBe 42 = .ok (.iconst 1, 1) := by decide +kernel
theorem dX8_mayBe_43 : decode cX8_mayBe 43 = .ok (.if_icmp .ne 29, 3) := by decide +kernel
theorem dX8_mayBe_46 : decode cX8_mayBe 46 = .ok (.aload_n 0, 1) := by decide +kernel
theorem dX8_mayBe_47 : decode cX8_mayBe 47 = .ok (.iconst 2, 1) := by decide +kernel
theorem dX8_mayBe_48 : decode cX8_mayBe 48 = .ok (.aload_n 0, 1) := by decide +kernel
theorem dX8_mayBe_49 : decode cX8_mayBe 49 = .ok (.getfield 7, 3) := by decide +kernel
theorem dX8_mayBe_52 : decode cX8_mayBe 52 = .ok (.bipush 7, 2) := by decide +kernel
theorem dX8_mayBe_54 : decode cX8_mayBe 54 = .ok (.iload_n 2, 1) := by decide +kernel
theorem dX8_mayBe_55 : decode cX8_mayBe 55 = .ok (.iadd, 1) := by decide +kernel
theorem dX8_mayBe_56 : decode cX8_mayBe 56 = .ok (.iaload, 1) := by decide +kernel
theorem dX8_mayBe_57 : decode cX8_mayBe 57 = .ok (.imul, 1) := by decide +kernel
theorem dX8_mayBe_58 : decode cX8_mayBe 58 = .ok (.iconst 2, 1) := by decide +kernel
theorem dX8_mayBe_59 : decode cX8_mayBe 59 = .ok (.aload_n 0, 1) := by decide +kernel
theorem dX8_mayBe_60 : decode cX8_mayBe 60 = .ok (.getfield 7, 3) := by decide +kernel
theorem dX8_mayBe_63 : decode cX8_mayBe 63 = .ok (.bipush 15, 2) := by decide +kernel
theorem dX8_mayBe_65 : decode cX8_mayBe 65 = .ok (.iload_n 2, 1) := by decide +kernel
theorem dX8_mayBe_66 : decode cX8_mayBe 66 = .ok (.iadd, 1) := by decide +kernel
theorem dX8_mayBe_67 : decode cX8_mayBe 67 = .ok (.iaload, 1) := by decide +kernel
theorem dX8_mayBe_68 : decode cX8_mayBe 68 = .ok (.imul, 1) := by decide +kernel
theorem dX8_mayBe_69 : decode cX8_mayBe 69 = .ok (.invokevirtual 121, 3) := by decide +kernel
theorem dX8_mayBe_72 : decode cX8_mayBe 72 = .ok (.iinc 2 1, 3) := by decide +kernel
theorem dX8_mayBe_75 : decode cX8_mayBe 75 = .ok (.goto (-48), 3) := by decide +kernel
theorem dX8_mayBe_78 : decode cX8_mayBe 78 = .ok (.aload_n 0, 1) := by decide +kernel
theorem dX8_mayBe_79 : decode cX8_mayBe 79 = .ok (.iconst 2, 1) := by decide +kernel
theorem dX8_mayBe_80 : decode cX8_mayBe 80 = .ok (.aload_n 0, 1) := by decide +kernel
theorem dX8_mayBe_81 : decode cX8_mayBe 81 = .ok (.getfield 7, 3) := by decide +kernel
theorem dX8_mayBe_84 : decode cX8_mayBe 84 = .ok (.iconst 4, 1) := by decide +kernel
theorem dX8_mayBe_85 : decode cX8_mayBe 85 = .ok (.iaload, 1) := by decide +kernel
theorem dX8_mayBe_86 : decode cX8_mayBe 86 = .ok (.imul, 1) := by decide +kernel
theorem dX8_mayBe_87 : decode cX8_mayBe 87 = .ok (.invokevirtual 134, 3) := by decide +kernel
theorem dX8_mayBe_90 : decode cX8_mayBe 90 = .ok (.aload_n 0, 1) := by decide +kernel
theorem dX8_mayBe_91 : decode cX8_mayBe 91 = .ok (.iconst 2, 1) := by decide +kernel
theorem dX8_mayBe_92 : decode cX8_mayBe 92 = .ok (.aload_n 0, 1) := by decide +kernel
theorem dX8_mayBe_93 : decode cX8_mayBe 93 = .ok (.getfield 7, 3) := by decide +kernel
theorem dX8_mayBe_96 : decode cX8_mayBe 96 = .ok (.iconst 5, 1) := by decide +kernel
theorem dX8_mayBe_97 : decode cX8_mayBe 97 = .ok (.iaload, 1) := by decide +kernel
theorem dX8_mayBe_98 : decode cX8_mayBe 98 = .ok (.imul, 1) := by decide +kernel
theorem dX8_mayBe_99 : decode cX8_mayBe 99 = .ok (.invokevirtual 137, 3) := by decide +kernel
theorem dX8_mayBe_102 : decode cX8_mayBe 102 = .ok (.ireturn, 1) := by decide +kernel
theorem dX8_ones_0 : decode cX8_ones 0 = .ok (.iconst 0, 1) := by decide +kernel
theorem dX8_ones_1 : decode cX8_ones 1 = .ok (.istore_n 2, 1) := by decide +kernel
theorem dX8_ones_2 : decode cX8_ones 2 = .ok (.iload_n 1, 1) := by decide +kernel
theorem dX8_ones_3 : decode cX8_ones 3 = .ok (.istore_n 3, 1) := by decide +kernel
theorem dX8_ones_4 : decode cX8_ones 4 = .ok (.iload_n 3, 1) := by decide +kernel
theorem dX8_ones_5 : decode cX8_ones 5 = .ok (.ifCond .eq 16, 3) := by decide +kernel
theorem dX8_ones_8 : decode cX8_ones 8 = .ok (.iload_n 2, 1) := by decide +kernel
theorem dX8_ones_9 : decode cX8_ones 9 = .ok (.iconst 1, 1) := by decide +kernel
theorem dX8_ones_10 : decode cX8_ones 10 = .ok (.iadd, 1) := by decide +kernel
theorem dX8_ones_11 : decode cX8_ones 11 = .ok (.istore_n 2, 1) := by decide +kernel
theorem dX8_ones_12 : decode cX8_ones 12 = .ok (.iload_n 3, 1) := by decide +kernel
theorem dX8_ones_13 : decode cX8_ones 13 = .ok (.iload_n 3, 1) := by decide +kernel
theorem dX8_ones_14 : decode cX8_ones 14 = .ok (.iconst 1, 1) := by decide +kernel
theorem dX8_ones_15 : decode cX8_ones 15 = .ok (.isub, 1) := by decide +kernel
theorem dX8_ones_16 : decode cX8_ones 16 = .ok (.iand, 1) := by decide +kernel
theorem dX8_ones_17 : decode cX8_ones 17 = .ok (.istore_n 3, 1) := by decide +kernel
theorem dX8_ones_18 : decode cX8_ones 18 = .ok (.goto (-14), 3) := by decide +kernel
theorem dX8_ones_21 : decode cX8_ones 21 = .ok (.iload_n 2, 1) := by decide +kernel
theorem dX8_ones_22 : decode cX8_ones 22 = .ok (.ireturn, 1) := by decide +kernel
theorem dX8_way_0 : decode cX8_way 0 = .ok (.aload_n 0, 1) := by decide +kernel
theorem dX8_way_1 : decode cX8_way 1 = .ok (.iconst 0, 1) := by decide +kernel
theorem dX8_way_2 : decode cX8_way 2 = .ok (.putfield 34, 3) := by decide +kernel
theorem dX8_way_5 : decode cX8_way 5 = .ok (.aload_n 0, 1) := by decide +kernel
theorem dX8_way_6 : decode cX8_way 6 = .ok (.invokevirtual 49, 3) := by decide +kernel
theorem dX8_way_9 : decode cX8_way 9 = .ok (.aload_n 0, 1) := by decide +kernel
theorem dX8_way_10 : decode cX8_way 10 = .ok (.iload_n 1, 1) := by decide +kernel
theorem dX8_way_11 : decode cX8_way 11 = .ok (.invokevirtual 74, 3) := by decide +kernel
theorem dX8_way_14 : decode cX8_way 14 = .ok (.ifCond .eq 38, 3) := by decide +kernel
theorem dX8_way_17 : decode cX8_way 17 = .ok (.aload_n 0, 1) := by decide +kernel
theorem dX8_way_18 : decode cX8_way 18 = .ok (.iload_n 2, 1) := by decide +kernel
theorem dX8_way_19 : decode cX8_way 19 = .ok (.invokevirtual 74, 3) := by decide +kernel
theorem dX8_way_22 : decode cX8_way 22 = .ok (.ifCond .eq 30, 3) := by decide +kernel
theorem dX8_way_25 : decode cX8_way 25 = .ok (.iload_n 3, 1) := by decide +kernel
theorem dX8_way_26 : decode cX8_way 26 = .ok (.iconst 1, 1) := by decide +kernel
theorem dX8_way_27 : decode cX8_way 27 = .ok (.if_icmp .lt 25, 3) := by decide +kernel
theorem dX8_way_30 : decode cX8_way 30 = .ok (.iload_n 3, 1) := by decide +kernel
theorem dX8_way_31 : decode cX8_way 31 = .ok (.bipush 8, 2) := by decide +kernel
theorem dX8_way_33 : decode cX8_way 33 = .ok (.if_icmp .gt 19, 3) := by decide +kernel
theorem dX8_way_36 : decode cX8_way 36 = .ok (.aload_n 0, 1) := by decide +kernel
theorem dX8_way_37 : decode cX8_way 37 = .ok (.iload_n 1, 1) := by decide +kernel
theorem dX8_way_38 : decode cX8_way 38 = .ok (.invokevirtual 213, 3) := by decide +kernel
theorem dX8_way_41 : decode cX8_way 41 = .ok (.ifCond .eq 11, 3) := by decide +kernel
theorem dX8_way_44 : decode cX8_way 44 = .ok (.aload_n 0, 1) := by decide +kernel
theorem dX8_way_45 : decode cX8_way 45 = .ok (.iload_n 2, 1) := by decide +kernel
theorem dX8_way_46 : decode cX8_way 46 = .ok (.invokevirtual 213, 3) := by decide +kernel
theorem dX8_way_49 : decode cX8_way 49 = .ok (.ifCond .ne 5, 3) := by decide +kernel
theorem dX8_way_52 : decode cX8_way 52 = .ok (.iconst (-1), 1) := by decide +kernel
theorem dX8_way_53 : decode cX8_way 53 = .ok (.ireturn, 1) := by decide +kernel
theorem dX8_way_54 : decode cX8_way 54 = .ok (.iconst 0, 1) := by decide +kernel
theorem dX8_way_55 : decode cX8_way 55 = .ok (.istore 4, 2) := by decide +kernel
theorem dX8_way_57 : decode cX8_way 57 = .ok (.iload 4, 2) := by decide +kernel
theorem dX8_way_59 : decode cX8_way 59 = .ok (.sipush 256, 3) := by decide +kernel
theorem dX8_way_62 : decode cX8_way 62 = .ok (.if_icmp .ge 17, 3) := by decide +kernel
theorem dX8_way_65 : decode cX8_way 65 = .ok (.aload_n 0, 1) := by decide +kernel
theorem dX8_way_66 : decode cX8_way 66 = .ok (.getfield 28, 3) := by decide +kernel
theorem dX8_way_69 : decode cX8_way 69 = .ok (.iload 4, 2) := by decide +kernel
theorem dX8_way_71 : decode cX8_way 71 = .ok (.iconst (-1), 1) := by decide +kernel
theorem dX8_way_72 : decode cX8_way 72 = .ok (.iastore, 1) := by decide +kernel
theorem dX8_way_73 : decode cX8_way 73 = .ok (.iinc 4 1, 3) := by decide +kernel
theorem dX8_way_76 : decode cX8_way 76 = .ok (.goto (-19), 3) := by decide +kernel
theorem dX8_way_79 : decode cX8_way 79 = .ok (.aload_n 0, 1) := by decide +kernel
theorem dX8_way_80 : decode cX8_way 80 = .ok (.getfield 28, 3) := by decide +kernel
theorem dX8_way_83 : decode cX8_way 83 = .ok (.iload_n 1, 1) := by decide +kernel
theorem dX8_way_84 : decode cX8_way 84 = .ok (.iconst 0, 1) := by decide +kernel
theorem dX8_way_85 : decode cX8_way 85 = .ok (.iastore, 1) := by decide +kernel
theorem dX8_way_86 : decode cX8_way 86 = .ok (.aload_n 0, 1) := by decide +kernel
theorem dX8_way_87 : decode cX8_way 87 = .ok (.getfield 31, 3) := by decide +kernel
theorem dX8_way_90 : decode cX8_way 90 = .ok (.iconst 0, 1) := by decide +kernel
theorem dX8_way_91 : decode cX8_way 91 = .ok (.iload_n 1, 1) := by decide +kernel
theorem dX8_way_92 : decode cX8_way 92 = .ok (.iastore, 1) := by decide +kernel
theorem dX8_way_93 : decode cX8_way 93 = .ok (.iconst 0, 1) := by decide +kernel
theorem dX8_way_94 : decode cX8_way 94 = .ok (.istore 4, 2) := by decide +kernel
theorem dX8_way_96 : decode cX8_way 96 = .ok (.iconst 1, 1) := by decide +kernel
theorem dX8_way_97 : decode cX8_way 97 = .ok (.istore 5, 2) := by decide +kernel
theorem dX8_way_99 : decode cX8_way 99 = .ok (.iload 4, 2) := by decide +kernel
theorem dX8_way_101 : decode cX8_way 101 = .ok (.iload 5, 2) := by decide +kernel
theorem dX8_way_103 : decode cX8_way 103 = .ok (.if_icmp .ge 110, 3) := by decide +kernel
theorem dX8_way_106 : decode cX8_way 106 = .ok (.aload_n 0, 1) := by decide +kernel
theorem dX8_way_107 : decode cX8_way 107 = .ok (.getfield 31, 3) := by decide +kernel
theorem dX8_way_110 : decode cX8_way 110 = .ok (.iload 4, 2) := by decide +kernel
theorem dX8_way_112 : decode cX8_way 112 = .ok (.iaload, 1) := by decide +kernel
theorem dX8_way_113 : decode cX8_way 113 = .ok (.istore 6, 2) := by decide +kernel
theorem dX8_way_115 : decode cX8_way 115 = .ok (.iload 4, 2) := by decide +kernel
theorem dX8_way_117 : decode cX8_way 117 = .ok (.iconst 1, 1) := by decide +kernel
theorem dX8_way_118 : decode cX8_way 118 = .ok (.iadd, 1) := by decide +kernel
theorem dX8_way_119 : decode cX8_way 119 = .ok (.istore 4, 2) := by decide +kernel
theorem dX8_way_121 : decode cX8_way 121 = .ok (.iconst 0, 1) := by decide +kernel
theorem dX8_way_122 : decode cX8_way 122 = .ok (.istore 7, 2) := by decide +kernel
theorem dX8_way_124 : decode cX8_way 124 = .ok (.iload 7, 2) := by decide +kernel
theorem dX8_way_126 : decode cX8_way 126 = .ok (.iconst 1, 1) := by decide +kernel
theorem dX8_way_127 : decode cX8_way 127 = .ok (.aload_n 0, 1) := by decide +kernel
theorem dX8_way_128 : decode cX8_way 128 = .ok (.getfield 7, 3) := by decide +kernel
theorem dX8_way_131 : decode cX8_way 131 = .ok (.iconst 0, 1) := by decide +kernel
theorem dX8_way_132 : decode cX8_way 132 = .ok (.iaload, 1) := by decide +kernel
theorem dX8_way_133 : decode cX8_way 133 = .ok (.ishl, 1) := by decide +kernel
theorem dX8_way_134 : decode cX8_way 134 = .ok (.if_icmp .ge 76, 3) := by decide +kernel
theorem dX8_way_137 : decode cX8_way 137 = .ok (.aload_n 0, 1) := by decide +kernel
theorem dX8_way_138 : decode cX8_way 138 = .ok (.getfield 28, 3) := by decide +kernel
theorem dX8_way_141 : decode cX8_way 141 = .ok (.iload 7, 2) := by decide +kernel
theorem dX8_way_143 : decode cX8_way 143 = .ok (.iaload, 1) := by decide +kernel
theorem dX8_way_144 : decode cX8_way 144 = .ok (.iconst (-1), 1) := by decide +kernel
theorem dX8_way_145 : decode cX8_way 145 = .ok (.if_icmp .ne 59, 3) := by decide +kernel
theorem dX8_way_148 : decode cX8_way 148 = .ok (.aload_n 0, 1) := by decide +kernel
theorem dX8_way_149 : decode cX8_way 149 = .ok (.iload 6, 2) := by decide +kernel
theorem dX8_way_151 : decode cX8_way 151 = .ok (.iload 7, 2) := by decide +kernel
theorem dX8_way_153 : decode cX8_way 153 = .ok (.ixor, 1) := by decide +kernel
theorem dX8_way_154 : decode cX8_way 154 = .ok (.invokevirtual 216, 3) := by decide +kernel
theorem dX8_way_157 : decode cX8_way 157 = .ok (.iload_n 3, 1) := by decide +kernel
theorem dX8_way_158 : decode cX8_way 158 = .ok (.if_icmp .gt 46, 3) := by decide +kernel
theorem dX8_way_161 : decode cX8_way 161 = .ok (.aload_n 0, 1) := by decide +kernel
theorem dX8_way_162 : decode cX8_way 162 = .ok (.iload 7, 2) := by decide +kernel
theorem dX8_way_164 : decode cX8_way 164 = .ok (.invokevirtual 213, 3) := by decide +kernel
theorem dX8_way_167 : decode cX8_way 167 = .ok (.ifCond .ne 6, 3) := by decide +kernel
theorem dX8_way_170 : decode cX8_way 170 = .ok (.goto 34, 3) := by decide +kernel
theorem dX8_way_173 : decode cX8_way 173 = .ok (.aload_n 0, 1) := by decide +kernel
theorem dX8_way_174 : decode cX8_way 174 = .ok (.getfield 28, 3) := by decide +kernel
theorem dX8_way_177 : decode cX8_way 177 = .ok (.iload 7, 2) := by decide +kernel
theorem dX8_way_179 : decode cX8_way 179 = .ok (.aload_n 0, 1) := by decide +kernel
theorem dX8_way_180 : decode cX8_way 180 = .ok (.getfield 28, 3) := by decide +kernel
theorem dX8_way_183 : decode cX8_way 183 = .ok (.iload 6, 2) := by decide +kernel
theorem dX8_way_185 : decode cX8_way 185 = .ok (.iaload, 1) := by decide +kernel
theorem dX8_way_186 : decode cX8_way 186 = .ok (.iconst 1, 1) := by decide +kernel
theorem dX8_way_187 : decode cX8_way 187 = .ok (.iadd, 1) := by decide +kernel
theorem dX8_way_188 : decode cX8_way 188 = .ok (.iastore, 1) := by decide +kernel
theorem dX8_way_189 : decode cX8_way 189 = .ok (.aload_n 0, 1) := by decide +kernel
theorem dX8_way_190 : decode cX8_way 190 = .ok (.getfield 31, 3) := by decide +kernel
theorem dX8_way_193 : decode cX8_way 193 = .ok (.iload 5, 2) := by decide +kernel
theorem dX8_way_195 : decode cX8_way 195 = .ok (.iload 7, 2) := by decide +kernel
theorem dX8_way_197 : decode cX8_way 197 = .ok (.iastore, 1) := by decide +kernel
theorem dX8_way_198 : decode cX8_way 198 = .ok (.iload 5, 2) := by decide +kernel
theorem dX8_way_200 : decode cX8_way 200 = .ok (.iconst 1, 1) := by decide +kernel
theorem dX8_way_201 : decode cX8_way 201 = .ok (.iadd, 1) := by decide +kernel
theorem dX8_way_202 : decode cX8_way 202 = .ok (.istore 5, 2) := by decide +kernel
theorem dX8_way_204 : decode cX8_way 204 = .ok (.iinc 7 1, 3) := by decide +kernel
theorem dX8_way_207 : decode cX8_way 207 = .ok (.goto (-83), 3) := by decide +kernel
theorem dX8_way_210 : decode cX8_way 210 = .ok (.goto (-111), 3) := by decide +kernel
theorem dX8_way_213 : decode cX8_way 213 = .ok (.aload_n 0, 1) := by decide +kernel
theorem dX8_way_214 : decode cX8_way 214 = .ok (.getfield 28, 3) := by decide +kernel
theorem dX8_way_217 : decode cX8_way 217 = .ok (.iload_n 2, 1) := by decide +kernel
theorem dX8_way_218 : decode cX8_way 218 = .ok (.iaload, 1) := by decide +kernel
theorem dX8_way_219 : decode cX8_way 219 = .ok (.ireturn, 1) := by decide +kernel
theorem dJ6_bitCount_0f7a4_0 : decode cJ6_bitCount_0f7a4 0 = .ok (.iload_n 0, 1) := by decide +kernel
theorem dJ6_bitCount_0f7a4_1 : decode cJ6_bitCount_0f7a4 1 = .ok (.iload_n 0, 1) := by decide +kernel
theorem dJ6_bitCount_0f7a4_2 : decode cJ6_bitCount_0f7a4 2 = .ok (.iconst 1, 1) := by decide +kernel
theorem dJ6_bitCount_0f7a4_3 : decode cJ6_bitCount_0f7a4 3 = .ok (.iushr, 1) := by decide +kernel
theorem dJ6_bitCount_0f7a4_4 : decode cJ6_bitCount_0f7a4 4 = .ok (.ldc_w 265, 3) := by decide +kernel
theorem dJ6_bitCount_0f7a4_7 : decode cJ6_bitCount_0f7a4 7 = .ok (.iand, 1) := by decide +kernel
theorem dJ6_bitCount_0f7a4_8 : decode cJ6_bitCount_0f7a4 8 = .ok (.isub, 1) := by decide +kernel
theorem dJ6_bitCount_0f7a4_9 : decode cJ6_bitCount_0f7a4 9 = .ok (.istore_n 0, 1) := by decide +kernel
theorem dJ6_bitCount_0f7a4_10 : decode cJ6_bitCount_0f7a4 10 = .ok (.iload_n 0, 1) := by decide +kernel
theorem dJ6_bitCount_0f7a4_11 : decode cJ6_bitCount_0f7a4 11 = .ok (.ldc_w 266, 3) := by decide +kernel
theorem dJ6_bitCount_0f7a4_14 : decode cJ6_bitCount_0f7a4 14 = .ok (.iand, 1) := by decide +kernel
theorem dJ6_bitCount_0f7a4_15 : decode cJ6_bitCount_0f7a4 15 = .ok (.iload_n 0, 1) := by decide +kernel
theorem dJ6_bitCount_0f7a4_16 : decode cJ6_bitCount_0f7a4 16 = .ok (.iconst 2, 1) := by decide +kernel
theorem dJ6_bitCount_0f7a4_17 : decode cJ6_bitCount_0f7a4 17 = .ok (.iushr, 1) := by decide +kernel
theorem dJ6_bitCount_0f7a4_18 : decode cJ6_bitCount_0f7a4 18 = .ok (.ldc_w 266, 3) := by decide +kernel
theorem dJ6_bitCount_0f7a4_21 : decode cJ6_bitCount_0f7a4 21 = .ok (.iand, 1) := by decide +kernel
theorem dJ6_bitCount_0f7a4_22 : decode cJ6_bitCount_0f7a4 22 = .ok (.iadd, 1) := by decide +kernel
theorem dJ6_bitCount_0f7a4_23 : decode cJ6_bitCount_0f7a4 23 = .ok (.istore_n 0, 1) := by decide +kernel
theorem dJ6_bitCount_0f7a4_24 : decode cJ6_bitCount_0f7a4 24 = .ok (.iload_n 0, 1) := by decide +kernel
theorem dJ6_bitCount_0f7a4_25 : decode cJ6_bitCount_0f7a4 25 = .ok (.iload_n 0, 1) := by decide +kernel
theorem dJ6_bitCount_0f7a4_26 : decode cJ6_bitCount_0f7a4 26 = .ok (.iconst 4, 1) := by decide +kernel
theorem dJ6_bitCount_0f7a4_27 : decode cJ6_bitCount_0f7a4 27 = .ok (.iushr, 1) := by decide +kernel
theorem dJ6_bitCount_0f7a4_28 : decode cJ6_bitCount_0f7a4 28 = .ok (.iadd, 1) := by decide +kernel
theorem dJ6_bitCount_0f7a4_29 : decode cJ6_bitCount_0f7a4 29 = .ok (.ldc_w 267, 3) := by decide +kernel
theorem dJ6_bitCount_0f7a4_32 : decode cJ6_bitCount_0f7a4 32 = .ok (.iand, 1) := by decide +kernel
theorem dJ6_bitCount_0f7a4_33 : decode cJ6_bitCount_0f7a4 33 = .ok (.istore_n 0, 1) := by decide +kernel
theorem dJ6_bitCount_0f7a4_34 : decode cJ6_bitCount_0f7a4 34 = .ok (.iload_n 0, 1) := by decide +kernel
theorem dJ6_bitCount_0f7a4_35 : decode cJ6_bitCount_0f7a4 35 = .ok (.iload_n 0, 1) := by decide +kernel
theorem dJ6_bitCount_0f7a4_36 : decode cJ6_bitCount_0f7a4 36 = .ok (.bipush 8, 2) := by decide +kernel
theorem dJ6_bitCount_0f7a4_38 : decode cJ6_bitCount_0f7a4 38 = .ok (.iushr, 1) := by decide +kernel
theorem dJ6_bitCount_0f7a4_39 : decode cJ6_bitCount_0f7a4 39 = .ok (.iadd, 1) := by decide +kernel
theorem dJ6_bitCount_0f7a4_40 : decode cJ6_bitCount_0f7a4 40 = .ok (.istore_n 0, 1) := by decide +kernel
theorem dJ6_bitCount_0f7a4_41 : decode cJ6_bitCount_0f7a4 41 = .ok (.iload_n 0, 1) := by decide +kernel
theorem dJ6_bitCount_0f7a4_42 : decode cJ6_bitCount_0f7a4 42 = .ok (.iload_n 0, 1) := by decide +kernel
theorem dJ6_bitCount_0f7a4_43 : decode cJ6_bitCount_0f7a4 43 = .ok (.bipush 16, 2) := by decide +kernel
theorem dJ6_bitCount_0f7a4_45 : decode cJ6_bitCount_0f7a4 45 = .ok (.iushr, 1) := by decide +kernel
theorem dJ6_bitCount_0f7a4_46 : decode cJ6_bitCount_0f7a4 46 = .ok (.iadd, 1) := by decide +kernel
theorem dJ6_bitCount_0f7a4_47 : decode cJ6_bitCount_0f7a4 47 = .ok (.istore_n 0, 1) := by decide +kernel
theorem dJ6_bitCount_0f7a4_48 : decode cJ6_bitCount_0f7a4 48 = .ok (.iload_n 0, 1) := by decide +kernel
theorem dJ6_bitCount_0f7a4_49 : decode cJ6_bitCount_0f7a4 49 = .ok (.bipush 63, 2) := by decide +kernel
theorem dJ6_bitCount_0f7a4_51 : decode cJ6_bitCount_0f7a4 51 = .ok (.iand, 1) := by decide +kernel
theorem dJ6_bitCount_0f7a4_52 : decode cJ6_bitCount_0f7a4 52 = .ok (.ireturn, 1) := by decide +kernel
theorem dJ9_abs_067f4_0 : decode cJ9_abs_067f4 0 = .ok (.lload_n 0, 1) := by decide +kernel
theorem dJ9_abs_067f4_1 : decode cJ9_abs_067f4 1 = .ok (.lconst 0, 1) := by decide +kernel
theorem dJ9_abs_067f4_2 : decode cJ9_abs_067f4 2 = .ok (.lcmp, 1) := by decide +kernel
theorem dJ9_abs_067f4_3 : decode cJ9_abs_067f4 3 = .ok (.ifCond .ge 8, 3) := by decide +kernel
theorem dJ9_abs_067f4_6 : decode cJ9_abs_067f4 6 = .ok (.lload_n 0, 1) := by decide +kernel
theorem dJ9_abs_067f4_7 : decode cJ9_abs_067f4 7 = .ok (.lneg, 1) := by decide +kernel
theorem dJ9_abs_067f4_8 : decode cJ9_abs_067f4 8 = .ok (.goto 4, 3) := by decide +kernel
theorem dJ9_abs_067f4_11 : decode cJ9_abs_067f4 11 = .ok (.lload_n 0, 1) := by decide +kernel
theorem dJ9_abs_067f4_12 : decode cJ9_abs_067f4 12 = .ok (.lreturn, 1) := by decide +kernel
theorem dJ9_max_7cf53_0 : decode cJ9_max_7cf53 0 = .ok (.iload_n 0, 1) := by decide +kernel
theorem dJ9_max_7cf53_1 : decode cJ9_max_7cf53 1 = .ok (.iload_n 1, 1) := by decide +kernel
theorem dJ9_max_7cf53_2 : decode cJ9_max_7cf53 2 = .ok (.if_icmp .lt 7, 3) := by decide +kernel
theorem dJ9_max_7cf53_5 : decode cJ9_max_7cf53 5 = .ok (.iload_n 0, 1) := by decide +kernel
theorem dJ9_max_7cf53_6 : decode cJ9_max_7cf53 6 = .ok (.goto 4, 3) := by decide +kernel
theorem dJ9_max_7cf53_9 : decode cJ9_max_7cf53 9 = .ok (.iload_n 1, 1) := by decide +kernel
theorem dJ9_max_7cf53_10 : decode cJ9_max_7cf53 10 = .ok (.ireturn, 1) := by decide +kernel
theorem dJ9_min_7cf53_0 : decode cJ9_min_7cf53 0 = .ok (.iload_n 0, 1) := by decide +kernel
theorem dJ9_min_7cf53_1 : decode cJ9_min_7cf53 1 = .ok (.iload_n 1, 1) := by decide +kernel
theorem dJ9_min_7cf53_2 : decode cJ9_min_7cf53 2 = .ok (.if_icmp .gt 7, 3) := by decide +kernel
theorem dJ9_min_7cf53_5 : decode cJ9_min_7cf53 5 = .ok (.iload_n 0, 1) := by decide +kernel
theorem dJ9_min_7cf53_6 : decode cJ9_min_7cf53 6 = .ok (.goto 4, 3) := by decide +kernel
theorem dJ9_min_7cf53_9 : decode cJ9_min_7cf53 9 = .ok (.iload_n 1, 1) := by decide +kernel
theorem dJ9_min_7cf53_10 : decode cJ9_min_7cf53 10 = .ok (.ireturn, 1) := by decide +kernel
theorem dL_law_0 : decode cL_law 0 = .ok (.new 7, 3) := by decide +kernel
theorem dL_law_3 : decode cL_law 3 = .ok (.dup, 1) := by decide +kernel
theorem dL_law_4 : decode cL_law 4 = .ok (.invokespecial 9, 3) := by decide +kernel
theorem dL_law_7 : decode cL_law 7 = .ok (.astore_n 1, 1) := by decide +kernel
theorem dL_law_8 : decode cL_law 8 = .ok (.new 10, 3) := by decide +kernel
theorem dL_law_11 : decode cL_law 11 = .ok (.dup, 1) := by decide +kernel
theorem dL_law_12 : decode cL_law 12 = .ok (.invokespecial 12, 3) := by decide +kernel
theorem dL_law_15 : decode cL_law 15 = .ok (.astore_n 2, 1) := by decide +kernel
theorem dL_law_16 : decode cL_law 16 = .ok (.iconst 0, 1) := by decide +kernel
theorem dL_law_17 : decode cL_law 17 = .ok (.istore_n 3, 1) := by decide +kernel
theorem dL_law_18 : decode cL_law 18 = .ok (.iload_n 3, 1) := by decide +kernel
theorem dL_law_19 : decode cL_law 19 = .ok (.aload_n 0, 1) := by decide +kernel
theorem dL_law_20 : decode cL_law 20 = .ok (.arraylength, 1) := by decide +kernel
theorem dL_law_21 : decode cL_law 21 = .ok (.bipush 7, 2) := by decide +kernel
theorem dL_law_23 : decode cL_law 23 = .ok (.isub, 1) := by decide +kernel
theorem dL_law_24 : decode cL_law 24 = .ok (.if_icmp .gt 929, 3) := by decide +kernel
theorem dL_law_27 : decode cL_law 27 = .ok (.aload_n 0, 1) := by decide +kernel
theorem dL_law_28 : decode cL_law 28 = .ok (.iload_n 3, 1) := by decide +kernel
theorem dL_law_29 : decode cL_law 29 = .ok (.iaload, 1) := by decide +kernel
theorem dL_law_30 : decode cL_law 30 = .ok (.bipush 31, 2) := by decide +kernel
theorem dL_law_32 : decode cL_law 32 = .ok (.iand, 1) := by decide +kernel
theorem dL_law_33 : decode cL_law 33 = .ok (.tableswitch 914 0 24 #[115, 148, 191, 224, 257, 332, 365, 408, 431, 454, 497, 520, 533, 546, 580, 604, 617, 650, 693, 726, 759, 792, 835, 858, 901], 115) := by decide +kernel
theorem dL_law_148 : decode cL_law 148 = .ok (.aload_n 1, 1) := by decide +kernel
theorem dL_law_149 : decode cL_law 149 = .ok (.aload_n 0, 1) := by decide +kernel
theorem dL_law_150 : decode cL_law 150 = .ok (.iload_n 3, 1) := by decide +kernel
theorem dL_law_151 : decode cL_law 151 = .ok (.iconst 1, 1) := by decide +kernel
theorem dL_law_152 : decode cL_law 152 = .ok (.iadd, 1) := by decide +kernel
theorem dL_law_153 : decode cL_law 153 = .ok (.iaload, 1) := by decide +kernel
theorem dL_law_154 : decode cL_law 154 = .ok (.aload_n 0, 1) := by decide +kernel
theorem dL_law_155 : decode cL_law 155 = .ok (.iload_n 3, 1) := by decide +kernel
theorem dL_law_156 : decode cL_law 156 = .ok (.iconst 2, 1) := by decide +kernel
theorem dL_law_157 : decode cL_law 157 = .ok (.iadd, 1) := by decide +kernel
theorem dL_law_158 : decode cL_law 158 = .ok (.iaload, 1) := by decide +kernel
theorem dL_law_159 : decode cL_law 159 = .ok (.invokevirtual 13, 3) := by decide +kernel
theorem dL_law_162 : decode cL_law 162 = .ok (.aload_n 2, 1) := by decide +kernel
theorem dL_law_163 : decode cL_law 163 = .ok (.aload_n 0, 1) := by decide +kernel
theorem dL_law_164 : decode cL_law 164 = .ok (.iload_n 3, 1) := by decide +kernel
theorem dL_law_165 : decode cL_law 165 = .ok (.iconst 1, 1) := by decide +kernel
theorem dL_law_166 : decode cL_law 166 = .ok (.iadd, 1) := by decide +kernel
theorem dL_law_167 : decode cL_law 167 = .ok (.iaload, 1) := by decide +kernel
theorem dL_law_168 : decode cL_law 168 = .ok (.aload_n 0, 1) := by decide +kernel
theorem dL_law_169 : decode cL_law 169 = .ok (.iload_n 3, 1) := by decide +kernel
theorem dL_law_170 : decode cL_law 170 = .ok (.iconst 2, 1) := by decide +kernel
theorem dL_law_171 : decode cL_law 171 = .ok (.iadd, 1) := by decide +kernel
theorem dL_law_172 : decode cL_law 172 = .ok (.iaload, 1) := by decide +kernel
theorem dL_law_173 : decode cL_law 173 = .ok (.invokevirtual 17, 3) := by decide +kernel
theorem dL_law_176 : decode cL_law 176 = .ok (.if_icmp .eq 771, 3) := by decide +kernel
theorem dL_law_179 : decode cL_law 179 = .ok (.iconst 0, 1) := by decide +kernel
theorem dL_law_180 : decode cL_law 180 = .ok (.ireturn, 1) := by decide +kernel
theorem dL_law_181 : decode cL_law 181 = .ok (.aload_n 1, 1) := by decide +kernel
theorem dL_law_182 : decode cL_law 182 = .ok (.aload_n 0, 1) := by decide +kernel
theorem dL_law_183 : decode cL_law 183 = .ok (.iload_n 3, 1) := by decide +kernel
theorem dL_law_184 : decode cL_law 184 = .ok (.iconst 1, 1) := by decide +kernel
theorem dL_law_185 : decode cL_law 185 = .ok (.iadd, 1) := by decide +kernel
theorem dL_law_186 : decode cL_law 186 = .ok (.iaload, 1) := by decide +kernel
theorem dL_law_187 : decode cL_law 187 = .ok (.aload_n 0, 1) := by decide +kernel
theorem dL_law_188 : decode cL_law 188 = .ok (.iload_n 3, 1) := by decide +kernel
theorem dL_law_189 : decode cL_law 189 = .ok (.iconst 2, 1) := by decide +kernel
theorem dL_law_190 : decode cL_law 190 = .ok (.iadd, 1) := by decide +kernel
theorem dL_law_191 : decode cL_law 191 = .ok (.iaload, 1) := by decide +kernel
theorem dL_law_192 : decode cL_law 192 = .ok (.aload_n 0, 1) := by decide +kernel
theorem dL_law_193 : decode cL_law 193 = .ok (.iload_n 3, 1) := by decide +kernel
theorem dL_law_194 : decode cL_law 194 = .ok (.iconst 3, 1) := by decide +kernel
theorem dL_law_195 : decode cL_law 195 = .ok (.iadd, 1) := by decide +kernel
theorem dL_law_196 : decode cL_law 196 = .ok (.iaload, 1) := by decide +kernel
theorem dL_law_197 : decode cL_law 197 = .ok (.invokevirtual 18, 3) := by decide +kernel
theorem dL_law_200 : decode cL_law 200 = .ok (.aload_n 2, 1) := by decide +kernel
theorem dL_law_201 : decode cL_law 201 = .ok (.aload_n 0, 1) := by decide +kernel
theorem dL_law_202 : decode cL_law 202 = .ok (.iload_n 3, 1) := by decide +kernel
theorem dL_law_203 : decode cL_law 203 = .ok (.iconst 1, 1) := by decide +kernel
theorem dL_law_204 : decode cL_law 204 = .ok (.iadd, 1) := by decide +kernel
theorem dL_law_205 : decode cL_law 205 = .ok (.iaload, 1) := by decide +kernel
theorem dL_law_206 : decode cL_law 206 = .ok (.aload_n 0, 1) := by decide +kernel
theorem dL_law_207 : decode cL_law 207 = .ok (.iload_n 3, 1) := by decide +kernel
theorem dL_law_208 : decode cL_law 208 = .ok (.iconst 2, 1) := by decide +kernel
theorem dL_law_209 : decode cL_law 209 = .ok (.iadd, 1) := by decide +kernel
theorem dL_law_210 : decode cL_law 210 = .ok (.iaload, 1) := by decide +kernel
theorem dL_law_211 : decode cL_law 211 = .ok (.aload_n 0, 1) := by decide +kernel
theorem dL_law_212 : decode cL_law 212 = .ok (.iload_n 3, 1) := by decide +kernel
theorem dL_law_213 : decode cL_law 213 = .ok (.iconst 3, 1) := by decide +kernel
theorem dL_law_214 : decode cL_law 214 = .ok (.iadd, 1) := by decide +kernel
theorem dL_law_215 : decode cL_law 215 = .ok (.iaload, 1) := by decide +kernel
theorem dL_law_216 : decode cL_law 216 = .ok (.invokevirtual 22, 3) := by decide +kernel
theorem dL_law_219 : decode cL_law 219 = .ok (.if_icmp .eq 728, 3) := by decide +kernel
theorem dL_law_222 : decode cL_law 222 = .ok (.iconst 0, 1) := by decide +kernel
theorem dL_law_223 : decode cL_law 223 = .ok (.ireturn, 1) := by decide +kernel
theorem dL_law_224 : decode cL_law 224 = .ok (.aload_n 1, 1) := by decide +kernel
theorem dL_law_225 : decode cL_law 225 = .ok (.aload_n 0, 1) := by decide +kernel
theorem dL_law_226 : decode cL_law 226 = .ok (.iload_n 3, 1) := by decide +kernel
theorem dL_law_227 : decode cL_law 227 = .ok (.iconst 1, 1) := by decide +kernel
theorem dL_law_228 : decode cL_law 228 = .ok (.iadd, 1) := by decide +kernel
theorem dL_law_229 : decode cL_law 229 = .ok (.iaload, 1) := by decide +kernel
theorem dL_law_230 : decode cL_law 230 = .ok (.aload_n 0, 1) := by decide +kernel
theorem dL_law_231 : decode cL_law 231 = .ok (.iload_n 3, 1) := by decide +kernel
theorem dL_law_232 : decode cL_law 232 = .ok (.iconst 2, 1) := by decide +kernel
theorem dL_law_233 : decode cL_law 233 = .ok (.iadd, 1) := by decide +kernel
theorem dL_law_234 : decode cL_law 234 = .ok (.iaload, 1) := by decide +kernel
theorem dL_law_235 : decode cL_law 235 = .ok (.invokevirtual 23, 3) := by decide +kernel
theorem dL_law_238 : decode cL_law 238 = .ok (.aload_n 2, 1) := by decide +kernel
theorem dL_law_239 : decode cL_law 239 = .ok (.aload_n 0, 1) := by decide +kernel
theorem dL_law_240 : decode cL_law 240 = .ok (.iload_n 3, 1) := by decide +kernel
theorem dL_law_241 : decode cL_law 241 = .ok (.iconst 1, 1) := by decide +kernel
theorem dL_law_242 : decode cL_law 242 = .ok (.iadd, 1) := by decide +kernel
theorem dL_law_243 : decode cL_law 243 = .ok (.iaload, 1) := by decide +kernel
theorem dL_law_244 : decode cL_law 244 = .ok (.aload_n 0, 1) := by decide +kernel
theorem dL_law_245 : decode cL_law 245 = .ok (.iload_n 3, 1) := by decide +kernel
theorem dL_law_246 : decode cL_law 246 = .ok (.iconst 2, 1) := by decide +kernel
theorem dL_law_247 : decode cL_law 247 = .ok (.iadd, 1) := by decide +kernel
theorem dL_law_248 : decode cL_law 248 = .ok (.iaload, 1) := by decide +kernel
theorem dL_law_249 : decode cL_law 249 = .ok (.invokevirtual 26, 3) := by decide +kernel
theorem dL_law_252 : decode cL_law 252 = .ok (.if_icmp .eq 695, 3) := by decide +kernel
theorem dL_law_255 : decode cL_law 255 = .ok (.iconst 0, 1) := by decide +kernel
theorem dL_law_256 : decode cL_law 256 = .ok (.ireturn, 1) := by decide +kernel
theorem dL_law_257 : decode cL_law 257 = .ok (.aload_n 1, 1) := by decide +kernel
theorem dL_law_258 : decode cL_law 258 = .ok (.aload_n 0, 1) := by decide +kernel
theorem dL_law_259 : decode cL_law 259 = .ok (.iload_n 3, 1) := by decide +kernel
theorem dL_law_260 : decode cL_law 260 = .ok (.iconst 1, 1) := by decide +kernel
theorem dL_law_261 : decode cL_law 261 = .ok (.iadd, 1) := by decide +kernel
theorem dL_law_262 : decode cL_law 262 = .ok (.iaload, 1) := by decide +kernel
theorem dL_law_263 : decode cL_law 263 = .ok (.aload_n 0, 1) := by decide +kernel
theorem dL_law_264 : decode cL_law 264 = .ok (.iload_n 3, 1) := by decide +kernel
theorem dL_law_265 : decode cL_law 265 = .ok (.iconst 2, 1) := by decide +kernel
theorem dL_law_266 : decode cL_law 266 = .ok (.iadd, 1) := by decide +kernel
theorem dL_law_267 : decode cL_law 267 = .ok (.iaload, 1) := by decide +kernel
theorem dL_law_268 : decode cL_law 268 = .ok (.invokevirtual 27, 3) := by decide +kernel
theorem dL_law_271 : decode cL_law 271 = .ok (.aload_n 2, 1) := by decide +kernel
theorem dL_law_272 : decode cL_law 272 = .ok (.aload_n 0, 1) := by decide +kernel
theorem dL_law_273 : decode cL_law 273 = .ok (.iload_n 3, 1) := by decide +kernel
theorem dL_law_274 : decode cL_law 274 = .ok (.iconst 1, 1) := by decide +kernel
theorem dL_law_275 : decode cL_law 275 = .ok (.iadd, 1) := by decide +kernel
theorem dL_law_276 : decode cL_law 276 = .ok (.iaload, 1) := by decide +kernel
theorem dL_law_277 : decode cL_law 277 = .ok (.aload_n 0, 1) := by decide +kernel
theorem dL_law_278 : decode cL_law 278 = .ok (.iload_n 3, 1) := by decide +kernel
theorem dL_law_279 : decode cL_law 279 = .ok (.iconst 2, 1) := by decide +kernel
theorem dL_law_280 : decode cL_law 280 = .ok (.iadd, 1) := by decide +kernel
theorem dL_law_281 : decode cL_law 281 = .ok (.iaload, 1) := by decide +kernel
theorem dL_law_282 : decode cL_law 282 = .ok (.invokevirtual 30, 3) := by decide +kernel
theorem dL_law_285 : decode cL_law 285 = .ok (.if_icmp .eq 662, 3) := by decide +kernel
theorem dL_law_288 : decode cL_law 288 = .ok (.iconst 0, 1) := by decide +kernel
theorem dL_law_289 : decode cL_law 289 = .ok (.ireturn, 1) := by decide +kernel
theorem dL_law_290 : decode cL_law 290 = .ok (.aload_n 1, 1) := by decide +kernel
theorem dL_law_291 : decode cL_law 291 = .ok (.aload_n 0, 1) := by decide +kernel
theorem dL_law_292 : decode cL_law 292 = .ok (.iload_n 3, 1) := by decide +kernel
theorem dL_law_293 : decode cL_law 293 = .ok (.iconst 1, 1) := by decide +kernel
theorem dL_law_294 : decode cL_law 294 = .ok (.iadd, 1) := by decide +kernel
theorem dL_law_295 : decode cL_law 295 = .ok (.iaload, 1) := by decide +kernel
theorem dL_law_296 : decode cL_law 296 = .ok (.aload_n 0, 1) := by decide +kernel
theorem dL_law_297 : decode cL_law 297 = .ok (.iload_n 3, 1) := by decide +kernel
theorem dL_law_298 : decode cL_law 298 = .ok (.iconst 2, 1) := by decide +kernel
theorem dL_law_299 : decode cL_law 299 = .ok (.iadd, 1) := by decide +kernel
theorem dL_law_300 : decode cL_law 300 = .ok (.iaload, 1) := by decide +kernel
theorem dL_law_301 : decode cL_law 301 = .ok (.aload_n 0, 1) := by decide +kernel
theorem dL_law_302 : decode cL_law 302 = .ok (.iload_n 3, 1) := by decide +kernel
theorem dL_law_303 : decode cL_law 303 = .ok (.iconst 3, 1) := by decide +kernel
theorem dL_law_304 : decode cL_law 304 = .ok (.iadd, 1) := by decide +kernel
theorem dL_law_305 : decode cL_law 305 = .ok (.iaload, 1) := by decide +kernel
theorem dL_law_306 : decode cL_law 306 = .ok (.aload_n 0, 1) := by decide +kernel
theorem dL_law_307 : decode cL_law 307 = .ok (.iload_n 3, 1) := by decide +kernel
theorem dL_law_308 : decode cL_law 308 = .ok (.iconst 4, 1) := by decide +kernel
theorem dL_law_309 : decode cL_law 309 = .ok (.iadd, 1) := by decide +kernel
theorem dL_law_310 : decode cL_law 310 = .ok (.iaload, 1) := by decide +kernel
theorem dL_law_311 : decode cL_law 311 = .ok (.aload_n 0, 1) := by decide +kernel
theorem dL_law_312 : decode cL_law 312 = .ok (.iload_n 3, 1) := by decide +kernel
theorem dL_law_313 : decode cL_law 313 = .ok (.iconst 5, 1) := by decide +kernel
theorem dL_law_314 : decode cL_law 314 = .ok (.iadd, 1) := by decide +kernel
theorem dL_law_315 : decode cL_law 315 = .ok (.iaload, 1) := by decide +kernel
theorem dL_law_316 : decode cL_law 316 = .ok (.aload_n 0, 1) := by decide +kernel
theorem dL_law_317 : decode cL_law 317 = .ok (.iload_n 3, 1) := by decide +kernel
theorem dL_law_318 : decode cL_law 318 = .ok (.bipush 6, 2) := by decide +kernel
theorem dL_law_320 : decode cL_law 320 = .ok (.iadd, 1) := by decide +kernel
theorem dL_law_321 : decode cL_law 321 = .ok (.iaload, 1) := by decide +kernel
theorem dL_law_322 : decode cL_law 322 = .ok (.invokevirtual 31, 3) := by decide +kernel
theorem dL_law_325 : decode cL_law 325 = .ok (.aload_n 2, 1) := by decide +kernel
theorem dL_law_326 : decode cL_law 326 = .ok (.aload_n 0, 1) := by decide +kernel
theorem dL_law_327 : decode cL_law 327 = .ok (.iload_n 3, 1) := by decide +kernel
theorem dL_law_328 : decode cL_law 328 = .ok (.iconst 1, 1) := by decide +kernel
theorem dL_law_329 : decode cL_law 329 = .ok (.iadd, 1) := by decide +kernel
theorem dL_law_330 : decode cL_law 330 = .ok (.iaload, 1) := by decide +kernel
theorem dL_law_331 : decode cL_law 331 = .ok (.aload_n 0, 1) := by decide +kernel
theorem dL_law_332 : decode cL_law 332 = .ok (.iload_n 3, 1) := by decide +kernel
theorem dL_law_333 : decode cL_law 333 = .ok (.iconst 2, 1) := by decide +kernel
theorem dL_law_334 : decode cL_law 334 = .ok (.iadd, 1) := by decide +kernel
theorem dL_law_335 : decode cL_law 335 = .ok (.iaload, 1) := by decide +kernel
theorem dL_law_336 : decode cL_law 336 = .ok (.aload_n 0, 1) := by decide +kernel
theorem dL_law_337 : decode cL_law 337 = .ok (.iload_n 3, 1) := by decide +kernel
theorem dL_law_338 : decode cL_law 338 = .ok (.iconst 3, 1) := by decide +kernel
theorem dL_law_339 : decode cL_law 339 = .ok (.iadd, 1) := by decide +kernel
theorem dL_law_340 : decode cL_law 340 = .ok (.iaload, 1) := by decide +kernel
theorem dL_law_341 : decode cL_law 341 = .ok (.aload_n 0, 1) := by decide +kernel
theorem dL_law_342 : decode cL_law 342 = .ok (.iload_n 3, 1) := by decide +kernel
theorem dL_law_343 : decode cL_law 343 = .ok (.iconst 4, 1) := by decide +kernel
theorem dL_law_344 : decode cL_law 344 = .ok (.iadd, 1) := by decide +kernel
theorem dL_law_345 : decode cL_law 345 = .ok (.iaload, 1) := by decide +kernel
theorem dL_law_346 : decode cL_law 346 = .ok (.aload_n 0, 1) := by decide +kernel
theorem dL_law_347 : decode cL_law 347 = .ok (.iload_n 3, 1) := by decide +kernel
theorem dL_law_348 : decode cL_law 348 = .ok (.iconst 5, 1) := by decide +kernel
theorem dL_law_349 : decode cL_law 349 = .ok (.iadd, 1) := by decide +kernel
theorem dL_law_350 : decode cL_law 350 = .ok (.iaload, 1) := by decide +kernel
theorem dL_law_351 : decode cL_law 351 = .ok (.aload_n 0, 1) := by decide +kernel
theorem dL_law_352 : decode cL_law 352 = .ok (.iload_n 3, 1) := by decide +kernel
theorem dL_law_353 : decode cL_law 353 = .ok (.bipush 6, 2) := by decide +kernel
theorem dL_law_355 : decode cL_law 355 = .ok (.iadd, 1) := by decide +kernel
theorem dL_law_356 : decode cL_law 356 = .ok (.iaload, 1) := by decide +kernel
theorem dL_law_357 : decode cL_law 357 = .ok (.invokevirtual 35, 3) := by decide +kernel
theorem dL_law_360 : decode cL_law 360 = .ok (.if_icmp .eq 587, 3) := by decide +kernel
theorem dL_law_363 : decode cL_law 363 = .ok (.iconst 0, 1) := by decide +kernel
theorem dL_law_364 : decode cL_law 364 = .ok (.ireturn, 1) := by decide +kernel
theorem dL_law_365 : decode cL_law 365 = .ok (.aload_n 1, 1) := by decide +kernel
theorem dL_law_366 : decode cL_law 366 = .ok (.aload_n 0, 1) := by decide +kernel
theorem dL_law_367 : decode cL_law 367 = .ok (.iload_n 3, 1) := by decide +kernel
theorem dL_law_368 : decode cL_law 368 = .ok (.iconst 1, 1) := by decide +kernel
theorem dL_law_369 : decode cL_law 369 = .ok (.iadd, 1) := by decide +kernel
theorem dL_law_370 : decode cL_law 370 = .ok (.iaload, 1) := by decide +kernel
theorem dL_law_371 : decode cL_law 371 = .ok (.aload_n 0, 1) := by decide +kernel
theorem dL_law_372 : decode cL_law 372 = .ok (.iload_n 3, 1) := by decide +kernel
theorem dL_law_373 : decode cL_law 373 = .ok (.iconst 2, 1) := by decide +kernel
theorem dL_law_374 : decode cL_law 374 = .ok (.iadd, 1) := by decide +kernel
theorem dL_law_375 : decode cL_law 375 = .ok (.iaload, 1) := by decide +kernel
theorem dL_law_376 : decode cL_law 376 = .ok (.invokevirtual 36, 3) := by decide +kernel
theorem dL_law_379 : decode cL_law 379 = .ok (.aload_n 2, 1) := by decide +kernel
theorem dL_law_380 : decode cL_law 380 = .ok (.aload_n 0, 1) := by decide +kernel
theorem dL_law_381 : decode cL_law 381 = .ok (.iload_n 3, 1) := by decide +kernel
theorem dL_law_382 : decode cL_law 382 = .ok (.iconst 1, 1) := by decide +kernel
theorem dL_law_383 : decode cL_law 383 = .ok (.iadd, 1) := by decide +kernel
theorem dL_law_384 : decode cL_law 384 = .ok (.iaload, 1) := by decide +kernel
theorem dL_law_385 : decode cL_law 385 = .ok (.aload_n 0, 1) := by decide +kernel
theorem dL_law_386 : decode cL_law 386 = .ok (.iload_n 3, 1) := by decide +kernel
theorem dL_law_387 : decode cL_law 387 = .ok (.iconst 2, 1) := by decide +kernel
theorem dL_law_388 : decode cL_law 388 = .ok (.iadd, 1) := by decide +kernel
theorem dL_law_389 : decode cL_law 389 = .ok (.iaload, 1) := by decide +kernel
theorem dL_law_390 : decode cL_law 390 = .ok (.invokevirtual 39, 3) := by decide +kernel
theorem dL_law_393 : decode cL_law 393 = .ok (.if_icmp .eq 554, 3) := by decide +kernel
theorem dL_law_396 : decode cL_law 396 = .ok (.iconst 0, 1) := by decide +kernel
theorem dL_law_397 : decode cL_law 397 = .ok (.ireturn, 1) := by decide +kernel
theorem dL_law_398 : decode cL_law 398 = .ok (.aload_n 1, 1) := by decide +kernel
theorem dL_law_399 : decode cL_law 399 = .ok (.aload_n 0, 1) := by decide +kernel
theorem dL_law_400 : decode cL_law 400 = .ok (.iload_n 3, 1) := by decide +kernel
theorem dL_law_401 : decode cL_law 401 = .ok (.iconst 1, 1) := by decide +kernel
theorem dL_law_402 : decode cL_law 402 = .ok (.iadd, 1) := by decide +kernel
theorem dL_law_403 : decode cL_law 403 = .ok (.iaload, 1) := by decide +kernel
theorem dL_law_404 : decode cL_law 404 = .ok (.aload_n 0, 1) := by decide +kernel
theorem dL_law_405 : decode cL_law 405 = .ok (.iload_n 3, 1) := by decide +kernel
theorem dL_law_406 : decode cL_law 406 = .ok (.iconst 2, 1) := by decide +kernel
theorem dL_law_407 : decode cL_law 407 = .ok (.iadd, 1) := by decide +kernel
theorem dL_law_408 : decode cL_law 408 = .ok (.iaload, 1) := by decide +kernel
theorem dL_law_409 : decode cL_law 409 = .ok (.aload_n 0, 1) := by decide +kernel
theorem dL_law_410 : decode cL_law 410 = .ok (.iload_n 3, 1) := by decide +kernel
theorem dL_law_411 : decode cL_law 411 = .ok (.iconst 3, 1) := by decide +kernel
theorem dL_law_412 : decode cL_law 412 = .ok (.iadd, 1) := by decide +kernel
theorem dL_law_413 : decode cL_law 413 = .ok (.iaload, 1) := by decide +kernel
theorem dL_law_414 : decode cL_law 414 = .ok (.invokevirtual 40, 3) := by decide +kernel
theorem dL_law_417 : decode cL_law 417 = .ok (.aload_n 2, 1) := by decide +kernel
theorem dL_law_418 : decode cL_law 418 = .ok (.aload_n 0, 1) := by decide +kernel
theorem dL_law_419 : decode cL_law 419 = .ok (.iload_n 3, 1) := by decide +kernel
theorem dL_law_420 : decode cL_law 420 = .ok (.iconst 1, 1) := by decide +kernel
theorem dL_law_421 : decode cL_law 421 = .ok (.iadd, 1) := by decide +kernel
theorem dL_law_422 : decode cL_law 422 = .ok (.iaload, 1) := by decide +kernel
theorem dL_law_423 : decode cL_law 423 = .ok (.aload_n 0, 1) := by decide +kernel
theorem dL_law_424 : decode cL_law 424 = .ok (.iload_n 3, 1) := by decide +kernel
theorem dL_law_425 : decode cL_law 425 = .ok (.iconst 2, 1) := by decide +kernel
theorem dL_law_426 : decode cL_law 426 = .ok (.iadd, 1) := by decide +kernel
theorem dL_law_427 : decode cL_law 427 = .ok (.iaload, 1) := by decide +kernel
theorem dL_law_428 : decode cL_law 428 = .ok (.aload_n 0, 1) := by decide +kernel
theorem dL_law_429 : decode cL_law 429 = .ok (.iload_n 3, 1) := by decide +kernel
theorem dL_law_430 : decode cL_law 430 = .ok (.iconst 3, 1) := by decide +kernel
theorem dL_law_431 : decode cL_law 431 = .ok (.iadd, 1) := by decide +kernel
theorem dL_law_432 : decode cL_law 432 = .ok (.iaload, 1) := by decide +kernel
theorem dL_law_433 : decode cL_law 433 = .ok (.invokevirtual 43, 3) := by decide +kernel
theorem dL_law_436 : decode cL_law 436 = .ok (.if_icmp .eq 511, 3) := by decide +kernel
theorem dL_law_439 : decode cL_law 439 = .ok (.iconst 0, 1) := by decide +kernel
theorem dL_law_440 : decode cL_law 440 = .ok (.ireturn, 1) := by decide +kernel
theorem dL_law_441 : decode cL_law 441 = .ok (.aload_n 1, 1) := by decide +kernel
theorem dL_law_442 : decode cL_law 442 = .ok (.aload_n 0, 1) := by decide +kernel
theorem dL_law_443 : decode cL_law 443 = .ok (.iload_n 3, 1) := by decide +kernel
theorem dL_law_444 : decode cL_law 444 = .ok (.iconst 1, 1) := by decide +kernel
theorem dL_law_445 : decode cL_law 445 = .ok (.iadd, 1) := by decide +kernel
theorem dL_law_446 : decode cL_law 446 = .ok (.iaload, 1) := by decide +kernel
theorem dL_law_447 : decode cL_law 447 = .ok (.invokevirtual 44, 3) := by decide +kernel
theorem dL_law_450 : decode cL_law 450 = .ok (.aload_n 2, 1) := by decide +kernel
theorem dL_law_451 : decode cL_law 451 = .ok (.aload_n 0, 1) := by decide +kernel
theorem dL_law_452 : decode cL_law 452 = .ok (.iload_n 3, 1) := by decide +kernel
theorem dL_law_453 : decode cL_law 453 = .ok (.iconst 1, 1) := by decide +kernel
theorem dL_law_454 : decode cL_law 454 = .ok (.iadd, 1) := by decide +kernel
theorem dL_law_455 : decode cL_law 455 = .ok (.iaload, 1) := by decide +kernel
theorem dL_law_456 : decode cL_law 456 = .ok (.invokevirtual 48, 3) := by decide +kernel
theorem dL_law_459 : decode cL_law 459 = .ok (.if_icmp .eq 488, 3) := by decide +kernel
theorem dL_law_462 : decode cL_law 462 = .ok (.iconst 0, 1) := by decide +kernel
theorem dL_law_463 : decode cL_law 463 = .ok (.ireturn, 1) := by decide +kernel
theorem dL_law_464 : decode cL_law 464 = .ok (.aload_n 1, 1) := by decide +kernel
theorem dL_law_465 : decode cL_law 465 = .ok (.aload_n 0, 1) := by decide +kernel
theorem dL_law_466 : decode cL_law 466 = .ok (.iload_n 3, 1) := by decide +kernel
theorem dL_law_467 : decode cL_law 467 = .ok (.iconst 1, 1) := by decide +kernel
theorem dL_law_468 : decode cL_law 468 = .ok (.iadd, 1) := by decide +kernel
theorem dL_law_469 : decode cL_law 469 = .ok (.iaload, 1) := by decide +kernel
theorem dL_law_470 : decode cL_law 470 = .ok (.invokevirtual 49, 3) := by decide +kernel
theorem dL_law_473 : decode cL_law 473 = .ok (.aload_n 2, 1) := by decide +kernel
theorem dL_law_474 : decode cL_law 474 = .ok (.aload_n 0, 1) := by decide +kernel
theorem dL_law_475 : decode cL_law 475 = .ok (.iload_n 3, 1) := by decide +kernel
theorem dL_law_476 : decode cL_law 476 = .ok (.iconst 1, 1) := by decide +kernel
theorem dL_law_477 : decode cL_law 477 = .ok (.iadd, 1) := by decide +kernel
theorem dL_law_478 : decode cL_law 478 = .ok (.iaload, 1) := by decide +kernel
theorem dL_law_479 : decode cL_law 479 = .ok (.invokevirtual 52, 3) := by decide +kernel
theorem dL_law_482 : decode cL_law 482 = .ok (.if_icmp .eq 465, 3) := by decide +kernel
theorem dL_law_485 : decode cL_law 485 = .ok (.iconst 0, 1) := by decide +kernel
theorem dL_law_486 : decode cL_law 486 = .ok (.ireturn, 1) := by decide +kernel
theorem dL_law_487 : decode cL_law 487 = .ok (.aload_n 1, 1) := by decide +kernel
theorem dL_law_488 : decode cL_law 488 = .ok (.aload_n 0, 1) := by decide +kernel
theorem dL_law_489 : decode cL_law 489 = .ok (.iload_n 3, 1) := by decide +kernel
theorem dL_law_490 : decode cL_law 490 = .ok (.iconst 1, 1) := by decide +kernel
theorem dL_law_491 : decode cL_law 491 = .ok (.iadd, 1) := by decide +kernel
theorem dL_law_492 : decode cL_law 492 = .ok (.iaload, 1) := by decide +kernel
theorem dL_law_493 : decode cL_law 493 = .ok (.aload_n 0, 1) := by decide +kernel
theorem dL_law_494 : decode cL_law 494 = .ok (.iload_n 3, 1) := by decide +kernel
theorem dL_law_495 : decode cL_law 495 = .ok (.iconst 2, 1) := by decide +kernel
theorem dL_law_496 : decode cL_law 496 = .ok (.iadd, 1) := by decide +kernel
theorem dL_law_497 : decode cL_law 497 = .ok (.iaload, 1) := by decide +kernel
theorem dL_law_498 : decode cL_law 498 = .ok (.aload_n 0, 1) := by decide +kernel
theorem dL_law_499 : decode cL_law 499 = .ok (.iload_n 3, 1) := by decide +kernel
theorem dL_law_500 : decode cL_law 500 = .ok (.iconst 3, 1) := by decide +kernel
theorem dL_law_501 : decode cL_law 501 = .ok (.iadd, 1) := by decide +kernel
theorem dL_law_502 : decode cL_law 502 = .ok (.iaload, 1) := by decide +kernel
theorem dL_law_503 : decode cL_law 503 = .ok (.invokevirtual 53, 3) := by decide +kernel
theorem dL_law_506 : decode cL_law 506 = .ok (.aload_n 2, 1) := by decide +kernel
theorem dL_law_507 : decode cL_law 507 = .ok (.aload_n 0, 1) := by decide +kernel
theorem dL_law_508 : decode cL_law 508 = .ok (.iload_n 3, 1) := by decide +kernel
theorem dL_law_509 : decode cL_law 509 = .ok (.iconst 1, 1) := by decide +kernel
theorem dL_law_510 : decode cL_law 510 = .ok (.iadd, 1) := by decide +kernel
theorem dL_law_511 : decode cL_law 511 = .ok (.iaload, 1) := by decide +kernel
theorem dL_law_512 : decode cL_law 512 = .ok (.aload_n 0, 1) := by decide +kernel
theorem dL_law_513 : decode cL_law 513 = .ok (.iload_n 3, 1) := by decide +kernel
theorem dL_law_514 : decode cL_law 514 = .ok (.iconst 2, 1) := by decide +kernel
theorem dL_law_515 : decode cL_law 515 = .ok (.iadd, 1) := by decide +kernel
theorem dL_law_516 : decode cL_law 516 = .ok (.iaload, 1) := by decide +kernel
theorem dL_law_517 : decode cL_law 517 = .ok (.aload_n 0, 1) := by decide +kernel
theorem dL_law_518 : decode cL_law 518 = .ok (.iload_n 3, 1) := by decide +kernel
theorem dL_law_519 : decode cL_law 519 = .ok (.iconst 3, 1) := by decide +kernel
theorem dL_law_520 : decode cL_law 520 = .ok (.iadd, 1) := by decide +kernel
theorem dL_law_521 : decode cL_law 521 = .ok (.iaload, 1) := by decide +kernel
theorem dL_law_522 : decode cL_law 522 = .ok (.invokevirtual 57, 3) := by decide +kernel
theorem dL_law_525 : decode cL_law 525 = .ok (.if_icmp .eq 422, 3) := by decide +kernel
theorem dL_law_528 : decode cL_law 528 = .ok (.iconst 0, 1) := by decide +kernel
theorem dL_law_529 : decode cL_law 529 = .ok (.ireturn, 1) := by decide +kernel
theorem dL_law_530 : decode cL_law 530 = .ok (.aload_n 1, 1) := by decide +kernel
theorem dL_law_531 : decode cL_law 531 = .ok (.aload_n 0, 1) := by decide +kernel
theorem dL_law_532 : decode cL_law 532 = .ok (.iload_n 3, 1) := by decide +kernel
theorem dL_law_533 : decode cL_law 533 = .ok (.iconst 1, 1) := by decide +kernel
theorem dL_law_534 : decode cL_law 534 = .ok (.iadd, 1) := by decide +kernel
theorem dL_law_535 : decode cL_law 535 = .ok (.iaload, 1) := by decide +kernel
theorem dL_law_536 : decode cL_law 536 = .ok (.invokevirtual 58, 3) := by decide +kernel
theorem dL_law_539 : decode cL_law 539 = .ok (.aload_n 2, 1) := by decide +kernel
theorem dL_law_540 : decode cL_law 540 = .ok (.aload_n 0, 1) := by decide +kernel
theorem dL_law_541 : decode cL_law 541 = .ok (.iload_n 3, 1) := by decide +kernel
theorem dL_law_542 : decode cL_law 542 = .ok (.iconst 1, 1) := by decide +kernel
theorem dL_law_543 : decode cL_law 543 = .ok (.iadd, 1) := by decide +kernel
theorem dL_law_544 : decode cL_law 544 = .ok (.iaload, 1) := by decide +kernel
theorem dL_law_545 : decode cL_law 545 = .ok (.invokevirtual 61, 3) := by decide +kernel
theorem dL_law_548 : decode cL_law 548 = .ok (.if_icmp .eq 399, 3) := by decide +kernel
theorem dL_law_551 : decode cL_law 551 = .ok (.iconst 0, 1) := by decide +kernel
theorem dL_law_552 : decode cL_law 552 = .ok (.ireturn, 1) := by decide +kernel
theorem dL_law_553 : decode cL_law 553 = .ok (.aload_n 1, 1) := by decide +kernel
theorem dL_law_554 : decode cL_law 554 = .ok (.invokevirtual 62, 3) := by decide +kernel
theorem dL_law_557 : decode cL_law 557 = .ok (.aload_n 2, 1) := by decide +kernel
theorem dL_law_558 : decode cL_law 558 = .ok (.invokevirtual 66, 3) := by decide +kernel
theorem dL_law_561 : decode cL_law 561 = .ok (.if_icmp .eq 386, 3) := by decide +kernel
theorem dL_law_564 : decode cL_law 564 = .ok (.iconst 0, 1) := by decide +kernel
theorem dL_law_565 : decode cL_law 565 = .ok (.ireturn, 1) := by decide +kernel
theorem dL_law_566 : decode cL_law 566 = .ok (.aload_n 1, 1) := by decide +kernel
theorem dL_law_567 : decode cL_law 567 = .ok (.invokevirtual 67, 3) := by decide +kernel
theorem dL_law_570 : decode cL_law 570 = .ok (.aload_n 2, 1) := by decide +kernel
theorem dL_law_571 : decode cL_law 571 = .ok (.invokevirtual 71, 3) := by decide +kernel
theorem dL_law_574 : decode cL_law 574 = .ok (.if_icmp .eq 373, 3) := by decide +kernel
theorem dL_law_577 : decode cL_law 577 = .ok (.iconst 0, 1) := by decide +kernel
theorem dL_law_578 : decode cL_law 578 = .ok (.ireturn, 1) := by decide +kernel
theorem dL_law_579 : decode cL_law 579 = .ok (.aload_n 1, 1) := by decide +kernel
theorem dL_law_580 : decode cL_law 580 = .ok (.aload_n 0, 1) := by decide +kernel
theorem dL_law_581 : decode cL_law 581 = .ok (.iload_n 3, 1) := by decide +kernel
theorem dL_law_582 : decode cL_law 582 = .ok (.iconst 1, 1) := by decide +kernel
theorem dL_law_583 : decode cL_law 583 = .ok (.iadd, 1) := by decide +kernel
theorem dL_law_584 : decode cL_law 584 = .ok (.iaload, 1) := by decide +kernel
theorem dL_law_585 : decode cL_law 585 = .ok (.aload_n 0, 1) := by decide +kernel
theorem dL_law_586 : decode cL_law 586 = .ok (.iload_n 3, 1) := by decide +kernel
theorem dL_law_587 : decode cL_law 587 = .ok (.iconst 2, 1) := by decide +kernel
theorem dL_law_588 : decode cL_law 588 = .ok (.iadd, 1) := by decide +kernel
theorem dL_law_589 : decode cL_law 589 = .ok (.iaload, 1) := by decide +kernel
theorem dL_law_590 : decode cL_law 590 = .ok (.invokevirtual 72, 3) := by decide +kernel
theorem dL_law_593 : decode cL_law 593 = .ok (.aload_n 2, 1) := by decide +kernel
theorem dL_law_594 : decode cL_law 594 = .ok (.aload_n 0, 1) := by decide +kernel
theorem dL_law_595 : decode cL_law 595 = .ok (.iload_n 3, 1) := by decide +kernel
theorem dL_law_596 : decode cL_law 596 = .ok (.iconst 1, 1) := by decide +kernel
theorem dL_law_597 : decode cL_law 597 = .ok (.iadd, 1) := by decide +kernel
theorem dL_law_598 : decode cL_law 598 = .ok (.iaload, 1) := by decide +kernel
theorem dL_law_599 : decode cL_law 599 = .ok (.aload_n 0, 1) := by decide +kernel
theorem dL_law_600 : decode cL_law 600 = .ok (.iload_n 3, 1) := by decide +kernel
theorem dL_law_601 : decode cL_law 601 = .ok (.iconst 2, 1) := by decide +kernel
theorem dL_law_602 : decode cL_law 602 = .ok (.iadd, 1) := by decide +kernel
theorem dL_law_603 : decode cL_law 603 = .ok (.iaload, 1) := by decide +kernel
theorem dL_law_604 : decode cL_law 604 = .ok (.invokevirtual 76, 3) := by decide +kernel
theorem dL_law_607 : decode cL_law 607 = .ok (.lcmp, 1) := by decide +kernel
theorem dL_law_608 : decode cL_law 608 = .ok (.ifCond .eq 339, 3) := by decide +kernel
theorem dL_law_611 : decode cL_law 611 = .ok (.iconst 0, 1) := by decide +kernel
theorem dL_law_612 : decode cL_law 612 = .ok (.ireturn, 1) := by decide +kernel
theorem dL_law_613 : decode cL_law 613 = .ok (.aload_n 1, 1) := by decide +kernel
theorem dL_law_614 : decode cL_law 614 = .ok (.aload_n 0, 1) := by decide +kernel
theorem dL_law_615 : decode cL_law 615 = .ok (.iload_n 3, 1) := by decide +kernel
theorem dL_law_616 : decode cL_law 616 = .ok (.iconst 1, 1) := by decide +kernel
theorem dL_law_617 : decode cL_law 617 = .ok (.iadd, 1) := by decide +kernel
theorem dL_law_618 : decode cL_law 618 = .ok (.iaload, 1) := by decide +kernel
theorem dL_law_619 : decode cL_law 619 = .ok (.invokevirtual 77, 3) := by decide +kernel
theorem dL_law_622 : decode cL_law 622 = .ok (.aload_n 2, 1) := by decide +kernel
theorem dL_law_623 : decode cL_law 623 = .ok (.aload_n 0, 1) := by decide +kernel
theorem dL_law_624 : decode cL_law 624 = .ok (.iload_n 3, 1) := by decide +kernel
theorem dL_law_625 : decode cL_law 625 = .ok (.iconst 1, 1) := by decide +kernel
theorem dL_law_626 : decode cL_law 626 = .ok (.iadd, 1) := by decide +kernel
theorem dL_law_627 : decode cL_law 627 = .ok (.iaload, 1) := by decide +kernel
theorem dL_law_628 : decode cL_law 628 = .ok (.invokevirtual 81, 3) := by decide +kernel
theorem dL_law_631 : decode cL_law 631 = .ok (.lcmp, 1) := by decide +kernel
theorem dL_law_632 : decode cL_law 632 = .ok (.ifCond .eq 315, 3) := by decide +kernel
theorem dL_law_635 : decode cL_law 635 = .ok (.iconst 0, 1) := by decide +kernel
theorem dL_law_636 : decode cL_law 636 = .ok (.ireturn, 1) := by decide +kernel
theorem dL_law_637 : decode cL_law 637 = .ok (.aload_n 1, 1) := by decide +kernel
theorem dL_law_638 : decode cL_law 638 = .ok (.invokevirtual 82, 3) := by decide +kernel
theorem dL_law_641 : decode cL_law 641 = .ok (.aload_n 2, 1) := by decide +kernel
theorem dL_law_642 : decode cL_law 642 = .ok (.invokevirtual 85, 3) := by decide +kernel
theorem dL_law_645 : decode cL_law 645 = .ok (.if_icmp .eq 302, 3) := by decide +kernel
theorem dL_law_648 : decode cL_law 648 = .ok (.iconst 0, 1) := by decide +kernel
theorem dL_law_649 : decode cL_law 649 = .ok (.ireturn, 1) := by decide +kernel
theorem dL_law_650 : decode cL_law 650 = .ok (.aload_n 1, 1) := by decide +kernel
theorem dL_law_651 : decode cL_law 651 = .ok (.aload_n 0, 1) := by decide +kernel
theorem dL_law_652 : decode cL_law 652 = .ok (.iload_n 3, 1) := by decide +kernel
theorem dL_law_653 : decode cL_law 653 = .ok (.iconst 1, 1) := by decide +kernel
theorem dL_law_654 : decode cL_law 654 = .ok (.iadd, 1) := by decide +kernel
theorem dL_law_655 : decode cL_law 655 = .ok (.iaload, 1) := by decide +kernel
theorem dL_law_656 : decode cL_law 656 = .ok (.aload_n 0, 1) := by decide +kernel
theorem dL_law_657 : decode cL_law 657 = .ok (.iload_n 3, 1) := by decide +kernel
theorem dL_law_658 : decode cL_law 658 = .ok (.iconst 2, 1) := by decide +kernel
theorem dL_law_659 : decode cL_law 659 = .ok (.iadd, 1) := by decide +kernel
theorem dL_law_660 : decode cL_law 660 = .ok (.iaload, 1) := by decide +kernel
theorem dL_law_661 : decode cL_law 661 = .ok (.invokevirtual 86, 3) := by decide +kernel
theorem dL_law_664 : decode cL_law 664 = .ok (.aload_n 2, 1) := by decide +kernel
theorem dL_law_665 : decode cL_law 665 = .ok (.aload_n 0, 1) := by decide +kernel
theorem dL_law_666 : decode cL_law 666 = .ok (.iload_n 3, 1) := by decide +kernel
theorem dL_law_667 : decode cL_law 667 = .ok (.iconst 1, 1) := by decide +kernel
theorem dL_law_668 : decode cL_law 668 = .ok (.iadd, 1) := by decide +kernel
theorem dL_law_669 : decode cL_law 669 = .ok (.iaload, 1) := by decide +kernel
theorem dL_law_670 : decode cL_law 670 = .ok (.aload_n 0, 1) := by decide +kernel
theorem dL_law_671 : decode cL_law 671 = .ok (.iload_n 3, 1) := by decide +kernel
theorem dL_law_672 : decode cL_law 672 = .ok (.iconst 2, 1) := by decide +kernel
theorem dL_law_673 : decode cL_law 673 = .ok (.iadd, 1) := by decide +kernel
theorem dL_law_674 : decode cL_law 674 = .ok (.iaload, 1) := by decide +kernel
theorem dL_law_675 : decode cL_law 675 = .ok (.invokevirtual 90, 3) := by decide +kernel
theorem dL_law_678 : decode cL_law 678 = .ok (.if_icmp .eq 269, 3) := by decide +kernel
theorem dL_law_681 : decode cL_law 681 = .ok (.iconst 0, 1) := by decide +kernel
theorem dL_law_682 : decode cL_law 682 = .ok (.ireturn, 1) := by decide +kernel
theorem dL_law_683 : decode cL_law 683 = .ok (.aload_n 1, 1) := by decide +kernel
theorem dL_law_684 : decode cL_law 684 = .ok (.aload_n 0, 1) := by decide +kernel
theorem dL_law_685 : decode cL_law 685 = .ok (.iload_n 3, 1) := by decide +kernel
theorem dL_law_686 : decode cL_law 686 = .ok (.iconst 1, 1) := by decide +kernel
theorem dL_law_687 : decode cL_law 687 = .ok (.iadd, 1) := by decide +kernel
theorem dL_law_688 : decode cL_law 688 = .ok (.iaload, 1) := by decide +kernel
theorem dL_law_689 : decode cL_law 689 = .ok (.aload_n 0, 1) := by decide +kernel
theorem dL_law_690 : decode cL_law 690 = .ok (.iload_n 3, 1) := by decide +kernel
theorem dL_law_691 : decode cL_law 691 = .ok (.iconst 2, 1) := by decide +kernel
theorem dL_law_692 : decode cL_law 692 = .ok (.iadd, 1) := by decide +kernel
theorem dL_law_693 : decode cL_law 693 = .ok (.iaload, 1) := by decide +kernel
theorem dL_law_694 : decode cL_law 694 = .ok (.aload_n 0, 1) := by decide +kernel
theorem dL_law_695 : decode cL_law 695 = .ok (.iload_n 3, 1) := by decide +kernel
theorem dL_law_696 : decode cL_law 696 = .ok (.iconst 3, 1) := by decide +kernel
theorem dL_law_697 : decode cL_law 697 = .ok (.iadd, 1) := by decide +kernel
theorem dL_law_698 : decode cL_law 698 = .ok (.iaload, 1) := by decide +kernel
theorem dL_law_699 : decode cL_law 699 = .ok (.invokevirtual 91, 3) := by decide +kernel
theorem dL_law_702 : decode cL_law 702 = .ok (.aload_n 2, 1) := by decide +kernel
theorem dL_law_703 : decode cL_law 703 = .ok (.aload_n 0, 1) := by decide +kernel
theorem dL_law_704 : decode cL_law 704 = .ok (.iload_n 3, 1) := by decide +kernel
theorem dL_law_705 : decode cL_law 705 = .ok (.iconst 1, 1) := by decide +kernel
theorem dL_law_706 : decode cL_law 706 = .ok (.iadd, 1) := by decide +kernel
theorem dL_law_707 : decode cL_law 707 = .ok (.iaload, 1) := by decide +kernel
theorem dL_law_708 : decode cL_law 708 = .ok (.aload_n 0, 1) := by decide +kernel
theorem dL_law_709 : decode cL_law 709 = .ok (.iload_n 3, 1) := by decide +kernel
theorem dL_law_710 : decode cL_law 710 = .ok (.iconst 2, 1) := by decide +kernel
theorem dL_law_711 : decode cL_law 711 = .ok (.iadd, 1) := by decide +kernel
theorem dL_law_712 : decode cL_law 712 = .ok (.iaload, 1) := by decide +kernel
theorem dL_law_713 : decode cL_law 713 = .ok (.aload_n 0, 1) := by decide +kernel
theorem dL_law_714 : decode cL_law 714 = .ok (.iload_n 3, 1) := by decide +kernel
theorem dL_law_715 : decode cL_law 715 = .ok (.iconst 3, 1) := by decide +kernel
theorem dL_law_716 : decode cL_law 716 = .ok (.iadd, 1) := by decide +kernel
theorem dL_law_717 : decode cL_law 717 = .ok (.iaload, 1) := by decide +kernel
theorem dL_law_718 : decode cL_law 718 = .ok (.invokevirtual 94, 3) := by decide +kernel
theorem dL_law_721 : decode cL_law 721 = .ok (.if_icmp .eq 226, 3) := by decide +kernel
theorem dL_law_724 : decode cL_law 724 = .ok (.iconst 0, 1) := by decide +kernel
theorem dL_law_725 : decode cL_law 725 = .ok (.ireturn, 1) := by decide +kernel
theorem dL_law_726 : decode cL_law 726 = .ok (.aload_n 1, 1) := by decide +kernel
theorem dL_law_727 : decode cL_law 727 = .ok (.aload_n 0, 1) := by decide +kernel
theorem dL_law_728 : decode cL_law 728 = .ok (.iload_n 3, 1) := by decide +kernel
theorem dL_law_729 : decode cL_law 729 = .ok (.iconst 1, 1) := by decide +kernel
theorem dL_law_730 : decode cL_law 730 = .ok (.iadd, 1) := by decide +kernel
theorem dL_law_731 : decode cL_law 731 = .ok (.iaload, 1) := by decide +kernel
theorem dL_law_732 : decode cL_law 732 = .ok (.aload_n 0, 1) := by decide +kernel
theorem dL_law_733 : decode cL_law 733 = .ok (.iload_n 3, 1) := by decide +kernel
theorem dL_law_734 : decode cL_law 734 = .ok (.iconst 2, 1) := by decide +kernel
theorem dL_law_735 : decode cL_law 735 = .ok (.iadd, 1) := by decide +kernel
theorem dL_law_736 : decode cL_law 736 = .ok (.iaload, 1) := by decide +kernel
theorem dL_law_737 : decode cL_law 737 = .ok (.invokevirtual 95, 3) := by decide +kernel
theorem dL_law_740 : decode cL_law 740 = .ok (.aload_n 2, 1) := by decide +kernel
theorem dL_law_741 : decode cL_law 741 = .ok (.aload_n 0, 1) := by decide +kernel
theorem dL_law_742 : decode cL_law 742 = .ok (.iload_n 3, 1) := by decide +kernel
theorem dL_law_743 : decode cL_law 743 = .ok (.iconst 1, 1) := by decide +kernel
theorem dL_law_744 : decode cL_law 744 = .ok (.iadd, 1) := by decide +kernel
theorem dL_law_745 : decode cL_law 745 = .ok (.iaload, 1) := by decide +kernel
theorem dL_law_746 : decode cL_law 746 = .ok (.aload_n 0, 1) := by decide +kernel
theorem dL_law_747 : decode cL_law 747 = .ok (.iload_n 3, 1) := by decide +kernel
theorem dL_law_748 : decode cL_law 748 = .ok (.iconst 2, 1) := by decide +kernel
theorem dL_law_749 : decode cL_law 749 = .ok (.iadd, 1) := by decide +kernel
theorem dL_law_750 : decode cL_law 750 = .ok (.iaload, 1) := by decide +kernel
theorem dL_law_751 : decode cL_law 751 = .ok (.invokevirtual 98, 3) := by decide +kernel
theorem dL_law_754 : decode cL_law 754 = .ok (.if_icmp .eq 193, 3) := by decide +kernel
theorem dL_law_757 : decode cL_law 757 = .ok (.iconst 0, 1) := by decide +kernel
theorem dL_law_758 : decode cL_law 758 = .ok (.ireturn, 1) := by decide +kernel
theorem dL_law_759 : decode cL_law 759 = .ok (.aload_n 1, 1) := by decide +kernel
theorem dL_law_760 : decode cL_law 760 = .ok (.aload_n 0, 1) := by decide +kernel
theorem dL_law_761 : decode cL_law 761 = .ok (.iload_n 3, 1) := by decide +kernel
theorem dL_law_762 : decode cL_law 762 = .ok (.iconst 1, 1) := by decide +kernel
theorem dL_law_763 : decode cL_law 763 = .ok (.iadd, 1) := by decide +kernel
theorem dL_law_764 : decode cL_law 764 = .ok (.iaload, 1) := by decide +kernel
theorem dL_law_765 : decode cL_law 765 = .ok (.aload_n 0, 1) := by decide +kernel
theorem dL_law_766 : decode cL_law 766 = .ok (.iload_n 3, 1) := by decide +kernel
theorem dL_law_767 : decode cL_law 767 = .ok (.iconst 2, 1) := by decide +kernel
theorem dL_law_768 : decode cL_law 768 = .ok (.iadd, 1) := by decide +kernel
theorem dL_law_769 : decode cL_law 769 = .ok (.iaload, 1) := by decide +kernel
theorem dL_law_770 : decode cL_law 770 = .ok (.invokevirtual 99, 3) := by decide +kernel
theorem dL_law_773 : decode cL_law 773 = .ok (.aload_n 2, 1) := by decide +kernel
theorem dL_law_774 : decode cL_law 774 = .ok (.aload_n 0, 1) := by decide +kernel
theorem dL_law_775 : decode cL_law 775 = .ok (.iload_n 3, 1) := by decide +kernel
theorem dL_law_776 : decode cL_law 776 = .ok (.iconst 1, 1) := by decide +kernel
theorem dL_law_777 : decode cL_law 777 = .ok (.iadd, 1) := by decide +kernel
theorem dL_law_778 : decode cL_law 778 = .ok (.iaload, 1) := by decide +kernel
theorem dL_law_779 : decode cL_law 779 = .ok (.aload_n 0, 1) := by decide +kernel
theorem dL_law_780 : decode cL_law 780 = .ok (.iload_n 3, 1) := by decide +kernel
theorem dL_law_781 : decode cL_law 781 = .ok (.iconst 2, 1) := by decide +kernel
theorem dL_law_782 : decode cL_law 782 = .ok (.iadd, 1) := by decide +kernel
theorem dL_law_783 : decode cL_law 783 = .ok (.iaload, 1) := by decide +kernel
theorem dL_law_784 : decode cL_law 784 = .ok (.invokevirtual 102, 3) := by decide +kernel
theorem dL_law_787 : decode cL_law 787 = .ok (.if_icmp .eq 160, 3) := by decide +kernel
theorem dL_law_790 : decode cL_law 790 = .ok (.iconst 0, 1) := by decide +kernel
theorem dL_law_791 : decode cL_law 791 = .ok (.ireturn, 1) := by decide +kernel
theorem dL_law_792 : decode cL_law 792 = .ok (.aload_n 1, 1) := by decide +kernel
theorem dL_law_793 : decode cL_law 793 = .ok (.aload_n 0, 1) := by decide +kernel
theorem dL_law_794 : decode cL_law 794 = .ok (.iload_n 3, 1) := by decide +kernel
theorem dL_law_795 : decode cL_law 795 = .ok (.iconst 1, 1) := by decide +kernel
theorem dL_law_796 : decode cL_law 796 = .ok (.iadd, 1) := by decide +kernel
theorem dL_law_797 : decode cL_law 797 = .ok (.iaload, 1) := by decide +kernel
theorem dL_law_798 : decode cL_law 798 = .ok (.aload_n 0, 1) := by decide +kernel
theorem dL_law_799 : decode cL_law 799 = .ok (.iload_n 3, 1) := by decide +kernel
theorem dL_law_800 : decode cL_law 800 = .ok (.iconst 2, 1) := by decide +kernel
theorem dL_law_801 : decode cL_law 801 = .ok (.iadd, 1) := by decide +kernel
theorem dL_law_802 : decode cL_law 802 = .ok (.iaload, 1) := by decide +kernel
theorem dL_law_803 : decode cL_law 803 = .ok (.invokevirtual 103, 3) := by decide +kernel
theorem dL_law_806 : decode cL_law 806 = .ok (.aload_n 2, 1) := by decide +kernel
theorem dL_law_807 : decode cL_law 807 = .ok (.aload_n 0, 1) := by decide +kernel
theorem dL_law_808 : decode cL_law 808 = .ok (.iload_n 3, 1) := by decide +kernel
theorem dL_law_809 : decode cL_law 809 = .ok (.iconst 1, 1) := by decide +kernel
theorem dL_law_810 : decode cL_law 810 = .ok (.iadd, 1) := by decide +kernel
theorem dL_law_811 : decode cL_law 811 = .ok (.iaload, 1) := by decide +kernel
theorem dL_law_812 : decode cL_law 812 = .ok (.aload_n 0, 1) := by decide +kernel
theorem dL_law_813 : decode cL_law 813 = .ok (.iload_n 3, 1) := by decide +kernel
theorem dL_law_814 : decode cL_law 814 = .ok (.iconst 2, 1) := by decide +kernel
theorem dL_law_815 : decode cL_law 815 = .ok (.iadd, 1) := by decide +kernel
theorem dL_law_816 : decode cL_law 816 = .ok (.iaload, 1) := by decide +kernel
theorem dL_law_817 : decode cL_law 817 = .ok (.invokevirtual 106, 3) := by decide +kernel
theorem dL_law_820 : decode cL_law 820 = .ok (.if_icmp .eq 127, 3) := by decide +kernel
theorem dL_law_823 : decode cL_law 823 = .ok (.iconst 0, 1) := by decide +kernel
theorem dL_law_824 : decode cL_law 824 = .ok (.ireturn, 1) := by decide +kernel
theorem dL_law_825 : decode cL_law 825 = .ok (.aload_n 1, 1) := by decide +kernel
theorem dL_law_826 : decode cL_law 826 = .ok (.aload_n 0, 1) := by decide +kernel
theorem dL_law_827 : decode cL_law 827 = .ok (.iload_n 3, 1) := by decide +kernel
theorem dL_law_828 : decode cL_law 828 = .ok (.iconst 1, 1) := by decide +kernel
theorem dL_law_829 : decode cL_law 829 = .ok (.iadd, 1) := by decide +kernel
theorem dL_law_830 : decode cL_law 830 = .ok (.iaload, 1) := by decide +kernel
theorem dL_law_831 : decode cL_law 831 = .ok (.aload_n 0, 1) := by decide +kernel
theorem dL_law_832 : decode cL_law 832 = .ok (.iload_n 3, 1) := by decide +kernel
theorem dL_law_833 : decode cL_law 833 = .ok (.iconst 2, 1) := by decide +kernel
theorem dL_law_834 : decode cL_law 834 = .ok (.iadd, 1) := by decide +kernel
theorem dL_law_835 : decode cL_law 835 = .ok (.iaload, 1) := by decide +kernel
theorem dL_law_836 : decode cL_law 836 = .ok (.aload_n 0, 1) := by decide +kernel
theorem dL_law_837 : decode cL_law 837 = .ok (.iload_n 3, 1) := by decide +kernel
theorem dL_law_838 : decode cL_law 838 = .ok (.iconst 3, 1) := by decide +kernel
theorem dL_law_839 : decode cL_law 839 = .ok (.iadd, 1) := by decide +kernel
theorem dL_law_840 : decode cL_law 840 = .ok (.iaload, 1) := by decide +kernel
theorem dL_law_841 : decode cL_law 841 = .ok (.invokevirtual 107, 3) := by decide +kernel
theorem dL_law_844 : decode cL_law 844 = .ok (.aload_n 2, 1) := by decide +kernel
theorem dL_law_845 : decode cL_law 845 = .ok (.aload_n 0, 1) := by decide +kernel
theorem dL_law_846 : decode cL_law 846 = .ok (.iload_n 3, 1) := by decide +kernel
theorem dL_law_847 : decode cL_law 847 = .ok (.iconst 1, 1) := by decide +kernel
theorem dL_law_848 : decode cL_law 848 = .ok (.iadd, 1) := by decide +kernel
theorem dL_law_849 : decode cL_law 849 = .ok (.iaload, 1) := by decide +kernel
theorem dL_law_850 : decode cL_law 850 = .ok (.aload_n 0, 1) := by decide +kernel
theorem dL_law_851 : decode cL_law 851 = .ok (.iload_n 3, 1) := by decide +kernel
theorem dL_law_852 : decode cL_law 852 = .ok (.iconst 2, 1) := by decide +kernel
theorem dL_law_853 : decode cL_law 853 = .ok (.iadd, 1) := by decide +kernel
theorem dL_law_854 : decode cL_law 854 = .ok (.iaload, 1) := by decide +kernel
theorem dL_law_855 : decode cL_law 855 = .ok (.aload_n 0, 1) := by decide +kernel
theorem dL_law_856 : decode cL_law 856 = .ok (.iload_n 3, 1) := by decide +kernel
theorem dL_law_857 : decode cL_law 857 = .ok (.iconst 3, 1) := by decide +kernel
theorem dL_law_858 : decode cL_law 858 = .ok (.iadd, 1) := by decide +kernel
theorem dL_law_859 : decode cL_law 859 = .ok (.iaload, 1) := by decide +kernel
theorem dL_law_860 : decode cL_law 860 = .ok (.invokevirtual 110, 3) := by decide +kernel
theorem dL_law_863 : decode cL_law 863 = .ok (.if_icmp .eq 84, 3) := by decide +kernel
theorem dL_law_866 : decode cL_law 866 = .ok (.iconst 0, 1) := by decide +kernel
theorem dL_law_867 : decode cL_law 867 = .ok (.ireturn, 1) := by decide +kernel
theorem dL_law_868 : decode cL_law 868 = .ok (.aload_n 1, 1) := by decide +kernel
theorem dL_law_869 : decode cL_law 869 = .ok (.aload_n 0, 1) := by decide +kernel
theorem dL_law_870 : decode cL_law 870 = .ok (.iload_n 3, 1) := by decide +kernel
theorem dL_law_871 : decode cL_law 871 = .ok (.iconst 1, 1) := by decide +kernel
theorem dL_law_872 : decode cL_law 872 = .ok (.iadd, 1) := by decide +kernel
theorem dL_law_873 : decode cL_law 873 = .ok (.iaload, 1) := by decide +kernel
theorem dL_law_874 : decode cL_law 874 = .ok (.invokevirtual 111, 3) := by decide +kernel
theorem dL_law_877 : decode cL_law 877 = .ok (.aload_n 2, 1) := by decide +kernel
theorem dL_law_878 : decode cL_law 878 = .ok (.aload_n 0, 1) := by decide +kernel
theorem dL_law_879 : decode cL_law 879 = .ok (.iload_n 3, 1) := by decide +kernel
theorem dL_law_880 : decode cL_law 880 = .ok (.iconst 1, 1) := by decide +kernel
theorem dL_law_881 : decode cL_law 881 = .ok (.iadd, 1) := by decide +kernel
theorem dL_law_882 : decode cL_law 882 = .ok (.iaload, 1) := by decide +kernel
theorem dL_law_883 : decode cL_law 883 = .ok (.invokevirtual 114, 3) := by decide +kernel
theorem dL_law_886 : decode cL_law 886 = .ok (.if_icmp .eq 61, 3) := by decide +kernel
theorem dL_law_889 : decode cL_law 889 = .ok (.iconst 0, 1) := by decide +kernel
theorem dL_law_890 : decode cL_law 890 = .ok (.ireturn, 1) := by decide +kernel
theorem dL_law_891 : decode cL_law 891 = .ok (.aload_n 1, 1) := by decide +kernel
theorem dL_law_892 : decode cL_law 892 = .ok (.aload_n 0, 1) := by decide +kernel
theorem dL_law_893 : decode cL_law 893 = .ok (.iload_n 3, 1) := by decide +kernel
theorem dL_law_894 : decode cL_law 894 = .ok (.iconst 1, 1) := by decide +kernel
theorem dL_law_895 : decode cL_law 895 = .ok (.iadd, 1) := by decide +kernel
theorem dL_law_896 : decode cL_law 896 = .ok (.iaload, 1) := by decide +kernel
theorem dL_law_897 : decode cL_law 897 = .ok (.aload_n 0, 1) := by decide +kernel
theorem dL_law_898 : decode cL_law 898 = .ok (.iload_n 3, 1) := by decide +kernel
theorem dL_law_899 : decode cL_law 899 = .ok (.iconst 2, 1) := by decide +kernel
theorem dL_law_900 : decode cL_law 900 = .ok (.iadd, 1) := by decide +kernel
theorem dL_law_901 : decode cL_law 901 = .ok (.iaload, 1) := by decide +kernel
theorem dL_law_902 : decode cL_law 902 = .ok (.aload_n 0, 1) := by decide +kernel
theorem dL_law_903 : decode cL_law 903 = .ok (.iload_n 3, 1) := by decide +kernel
theorem dL_law_904 : decode cL_law 904 = .ok (.iconst 3, 1) := by decide +kernel
theorem dL_law_905 : decode cL_law 905 = .ok (.iadd, 1) := by decide +kernel
theorem dL_law_906 : decode cL_law 906 = .ok (.iaload, 1) := by decide +kernel
theorem dL_law_907 : decode cL_law 907 = .ok (.invokevirtual 115, 3) := by decide +kernel
theorem dL_law_910 : decode cL_law 910 = .ok (.aload_n 2, 1) := by decide +kernel
theorem dL_law_911 : decode cL_law 911 = .ok (.aload_n 0, 1) := by decide +kernel
theorem dL_law_912 : decode cL_law 912 = .ok (.iload_n 3, 1) := by decide +kernel
theorem dL_law_913 : decode cL_law 913 = .ok (.iconst 1, 1) := by decide +kernel
theorem dL_law_914 : decode cL_law 914 = .ok (.iadd, 1) := by decide +kernel
theorem dL_law_915 : decode cL_law 915 = .ok (.iaload, 1) := by decide +kernel
theorem dL_law_916 : decode cL_law 916 = .ok (.aload_n 0, 1) := by decide +kernel
theorem dL_law_917 : decode cL_law 917 = .ok (.iload_n 3, 1) := by decide +kernel
theorem dL_law_918 : decode cL_law 918 = .ok (.iconst 2, 1) := by decide +kernel
theorem dL_law_919 : decode cL_law 919 = .ok (.iadd, 1) := by decide +kernel
theorem dL_law_920 : decode cL_law 920 = .ok (.iaload, 1) := by decide +kernel
theorem dL_law_921 : decode cL_law 921 = .ok (.aload_n 0, 1) := by decide +kernel
theorem dL_law_922 : decode cL_law 922 = .ok (.iload_n 3, 1) := by decide +kernel
theorem dL_law_923 : decode cL_law 923 = .ok (.iconst 3, 1) := by decide +kernel
theorem dL_law_924 : decode cL_law 924 = .ok (.iadd, 1) := by decide +kernel
theorem dL_law_925 : decode cL_law 925 = .ok (.iaload, 1) := by decide +kernel
theorem dL_law_926 : decode cL_law 926 = .ok (.invokevirtual 118, 3) := by decide +kernel
theorem dL_law_929 : decode cL_law 929 = .ok (.if_icmp .eq 18, 3) := by decide +kernel
theorem dL_law_932 : decode cL_law 932 = .ok (.iconst 0, 1) := by decide +kernel
theorem dL_law_933 : decode cL_law 933 = .ok (.ireturn, 1) := by decide +kernel
theorem dL_law_934 : decode cL_law 934 = .ok (.aload_n 1, 1) := by decide +kernel
theorem dL_law_935 : decode cL_law 935 = .ok (.invokevirtual 119, 3) := by decide +kernel
theorem dL_law_938 : decode cL_law 938 = .ok (.aload_n 2, 1) := by decide +kernel
theorem dL_law_939 : decode cL_law 939 = .ok (.invokevirtual 122, 3) := by decide +kernel
theorem dL_law_942 : decode cL_law 942 = .ok (.if_icmp .eq 5, 3) := by decide +kernel
theorem dL_law_945 : decode cL_law 945 = .ok (.iconst 0, 1) := by decide +kernel
theorem dL_law_946 : decode cL_law 946 = .ok (.ireturn, 1) := by decide +kernel
theorem dL_law_947 : decode cL_law 947 = .ok (.iinc 3 7, 3) := by decide +kernel
theorem dL_law_950 : decode cL_law 950 = .ok (.goto (-932), 3) := by decide +kernel
theorem dL_law_953 : decode cL_law 953 = .ok (.iconst 1, 1) := by decide +kernel
theorem dL_law_954 : decode cL_law 954 = .ok (.ireturn, 1) := by decide +kernel
