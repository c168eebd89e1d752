theorem dX7_about_84 : decode cX7_about 84 = .ok (.getfield 102, 3) := by decide +kernel
theorem dX7_about_87 : decode cX7_about 87 = .ok (.ireturn, 1) := by decide +kernel
theorem dX7_about_88 : decode cX7_about 88 = .ok (.aload_n 0, 1) := by decide +kernel
theorem dX7_about_89 : decode cX7_about 89 = .ok (.getfield 12, 3) := by decide +kernel
theorem dX7_about_92 : decode cX7_about 92 = .ok (.getfield 92, 3) := by decide +kernel
theorem dX7_about_95 : decode cX7_about 95 = .ok (.ireturn, 1) := by decide +kernel
theorem dX7_about_96 : decode cX7_about 96 = .ok (.aload_n 0, 1) := by decide +kernel
theorem dX7_about_97 : decode cX7_about 97 = .ok (.getfield 12, 3) := by decide +kernel
theorem dX7_about_100 : decode cX7_about 100 = .ok (.getfield 96, 3) := by decide +kernel
theorem dX7_about_103 : decode cX7_about 103 = .ok (.ireturn, 1) := by decide +kernel
theorem dX7_about_104 : decode cX7_about 104 = .ok (.aload_n 0, 1) := by decide +kernel
theorem dX7_about_105 : decode cX7_about 105 = .ok (.getfield 12, 3) := by decide +kernel
theorem dX7_about_108 : decode cX7_about 108 = .ok (.invokevirtual 137, 3) := by decide +kernel
theorem dX7_about_111 : decode cX7_about 111 = .ok (.ifCond .eq 7, 3) := by decide +kernel
theorem dX7_about_114 : decode cX7_about 114 = .ok (.iconst 1, 1) := by decide +kernel
theorem dX7_about_115 : decode cX7_about 115 = .ok (.goto 4, 3) := by decide +kernel
theorem dX7_about_118 : decode cX7_about 118 = .ok (.iconst 0, 1) := by decide +kernel
theorem dX7_about_119 : decode cX7_about 119 = .ok (.ireturn, 1) := by decide +kernel
theorem dX7_about_120 : decode cX7_about 120 = .ok (.aload_n 0, 1) := by decide +kernel
theorem dX7_about_121 : decode cX7_about 121 = .ok (.iload_n 1, 1) := by decide +kernel
theorem dX7_about_122 : decode cX7_about 122 = .ok (.invokevirtual 141, 3) := by decide +kernel
theorem dX7_about_125 : decode cX7_about 125 = .ok (.ireturn, 1) := by decide +kernel
theorem dX7_down_0 : decode cX7_down 0 = .ok (.aload_n 0, 1) := by decide +kernel
theorem dX7_down_1 : decode cX7_down 1 = .ok (.getfield 12, 3) := by decide +kernel
theorem dX7_down_4 : decode cX7_down 4 = .ok (.iload_n 1, 1) := by decide +kernel
theorem dX7_down_5 : decode cX7_down 5 = .ok (.invokevirtual 115, 3) := by decide +kernel
theorem dX7_down_8 : decode cX7_down 8 = .ok (.ifCond .eq 17, 3) := by decide +kernel
theorem dX7_down_11 : decode cX7_down 11 = .ok (.aload_n 0, 1) := by decide +kernel
theorem dX7_down_12 : decode cX7_down 12 = .ok (.getfield 12, 3) := by decide +kernel
theorem dX7_down_15 : decode cX7_down 15 = .ok (.getfield 108, 3) := by decide +kernel
theorem dX7_down_18 : decode cX7_down 18 = .ok (.iload_n 1, 1) := by decide +kernel
theorem dX7_down_19 : decode cX7_down 19 = .ok (.invokevirtual 145, 3) := by decide +kernel
theorem dX7_down_22 : decode cX7_down 22 = .ok (.goto 4, 3) := by decide +kernel
theorem dX7_down_25 : decode cX7_down 25 = .ok (.iconst (-1), 1) := by decide +kernel
theorem dX7_down_26 : decode cX7_down 26 = .ok (.ireturn, 1) := by decide +kernel
theorem dX7_foot_0 : decode cX7_foot 0 = .ok (.aload_n 0, 1) := by decide +kernel
theorem dX7_foot_1 : decode cX7_foot 1 = .ok (.getfield 12, 3) := by decide +kernel
theorem dX7_foot_4 : decode cX7_foot 4 = .ok (.iload_n 1, 1) := by decide +kernel
theorem dX7_foot_5 : decode cX7_foot 5 = .ok (.invokevirtual 71, 3) := by decide +kernel
theorem dX7_foot_8 : decode cX7_foot 8 = .ok (.ifCond .eq 35, 3) := by decide +kernel
theorem dX7_foot_11 : decode cX7_foot 11 = .ok (.aload_n 0, 1) := by decide +kernel
theorem dX7_foot_12 : decode cX7_foot 12 = .ok (.getfield 12, 3) := by decide +kernel
theorem dX7_foot_15 : decode cX7_foot 15 = .ok (.iload_n 2, 1) := by decide +kernel
theorem dX7_foot_16 : decode cX7_foot 16 = .ok (.invokevirtual 115, 3) := by decide +kernel
theorem dX7_foot_19 : decode cX7_foot 19 = .ok (.ifCond .eq 24, 3) := by decide +kernel
theorem dX7_foot_22 : decode cX7_foot 22 = .ok (.iload_n 3, 1) := by decide +kernel
theorem dX7_foot_23 : decode cX7_foot 23 = .ok (.iconst 0, 1) := by decide +kernel
theorem dX7_foot_24 : decode cX7_foot 24 = .ok (.iconst 1, 1) := by decide +kernel
theorem dX7_foot_25 : decode cX7_foot 25 = .ok (.invokestatic 63, 3) := by decide +kernel
theorem dX7_foot_28 : decode cX7_foot 28 = .ok (.ifCond .eq 15, 3) := by decide +kernel
theorem dX7_foot_31 : decode cX7_foot 31 = .ok (.aload_n 0, 1) := by decide +kernel
theorem dX7_foot_32 : decode cX7_foot 32 = .ok (.getfield 12, 3) := by decide +kernel
theorem dX7_foot_35 : decode cX7_foot 35 = .ok (.iload_n 1, 1) := by decide +kernel
theorem dX7_foot_36 : decode cX7_foot 36 = .ok (.iload_n 2, 1) := by decide +kernel
theorem dX7_foot_37 : decode cX7_foot 37 = .ok (.invokevirtual 148, 3) := by decide +kernel
theorem dX7_foot_40 : decode cX7_foot 40 = .ok (.ifCond .ne 7, 3) := by decide +kernel
theorem dX7_foot_43 : decode cX7_foot 43 = .ok (.sipush (-1000), 3) := by decide +kernel
theorem dX7_foot_46 : decode cX7_foot 46 = .ok (.ireturn, 1) := by decide +kernel
theorem dX7_foot_47 : decode cX7_foot 47 = .ok (.iload_n 3, 1) := by decide +kernel
theorem dX7_foot_48 : decode cX7_foot 48 = .ok (.ifCond .ne 17, 3) := by decide +kernel
theorem dX7_foot_51 : decode cX7_foot 51 = .ok (.iconst 2, 1) := by decide +kernel
theorem dX7_foot_52 : decode cX7_foot 52 = .ok (.aload_n 0, 1) := by decide +kernel
theorem dX7_foot_53 : decode cX7_foot 53 = .ok (.getfield 12, 3) := by decide +kernel
theorem dX7_foot_56 : decode cX7_foot 56 = .ok (.getfield 83, 3) := by decide +kernel
theorem dX7_foot_59 : decode cX7_foot 59 = .ok (.iload_n 1, 1) := by decide +kernel
theorem dX7_foot_60 : decode cX7_foot 60 = .ok (.invokevirtual 145, 3) := by decide +kernel
theorem dX7_foot_63 : decode cX7_foot 63 = .ok (.imul, 1) := by decide +kernel
theorem dX7_foot_64 : decode cX7_foot 64 = .ok (.ireturn, 1) := by decide +kernel
theorem dX7_foot_65 : decode cX7_foot 65 = .ok (.aload_n 0, 1) := by decide +kernel
theorem dX7_foot_66 : decode cX7_foot 66 = .ok (.invokevirtual 151, 3) := by decide +kernel
theorem dX7_foot_69 : decode cX7_foot 69 = .ok (.aload_n 0, 1) := by decide +kernel
theorem dX7_foot_70 : decode cX7_foot 70 = .ok (.getfield 34, 3) := by decide +kernel
theorem dX7_foot_73 : decode cX7_foot 73 = .ok (.iload_n 1, 1) := by decide +kernel
theorem dX7_foot_74 : decode cX7_foot 74 = .ok (.iload_n 2, 1) := by decide +kernel
theorem dX7_foot_75 : decode cX7_foot 75 = .ok (.invokevirtual 154, 3) := by decide +kernel
theorem dX7_foot_78 : decode cX7_foot 78 = .ok (.ireturn, 1) := by decide +kernel
theorem dX7_stands_0 : decode cX7_stands 0 = .ok (.aload_n 0, 1) := by decide +kernel
theorem dX7_stands_1 : decode cX7_stands 1 = .ok (.getfield 12, 3) := by decide +kernel
theorem dX7_stands_4 : decode cX7_stands 4 = .ok (.iload_n 1, 1) := by decide +kernel
theorem dX7_stands_5 : decode cX7_stands 5 = .ok (.invokevirtual 115, 3) := by decide +kernel
theorem dX7_stands_8 : decode cX7_stands 8 = .ok (.ifCond .ne 5, 3) := by decide +kernel
theorem dX7_stands_11 : decode cX7_stands 11 = .ok (.iconst (-1), 1) := by decide +kernel
theorem dX7_stands_12 : decode cX7_stands 12 = .ok (.ireturn, 1) := by decide +kernel
theorem dX7_stands_13 : decode cX7_stands 13 = .ok (.aload_n 0, 1) := by decide +kernel
theorem dX7_stands_14 : decode cX7_stands 14 = .ok (.invokevirtual 151, 3) := by decide +kernel
theorem dX7_stands_17 : decode cX7_stands 17 = .ok (.aload_n 0, 1) := by decide +kernel
theorem dX7_stands_18 : decode cX7_stands 18 = .ok (.getfield 34, 3) := by decide +kernel
theorem dX7_stands_21 : decode cX7_stands 21 = .ok (.iload_n 1, 1) := by decide +kernel
theorem dX7_stands_22 : decode cX7_stands 22 = .ok (.invokevirtual 157, 3) := by decide +kernel
theorem dX7_stands_25 : decode cX7_stands 25 = .ok (.ifCond .eq 7, 3) := by decide +kernel
theorem dX7_stands_28 : decode cX7_stands 28 = .ok (.iconst 1, 1) := by decide +kernel
theorem dX7_stands_29 : decode cX7_stands 29 = .ok (.goto 4, 3) := by decide +kernel
theorem dX7_stands_32 : decode cX7_stands 32 = .ok (.iconst 0, 1) := by decide +kernel
theorem dX7_stands_33 : decode cX7_stands 33 = .ok (.ireturn, 1) := by decide +kernel
theorem dX7_walks_0 : decode cX7_walks 0 = .ok (.aload_n 0, 1) := by decide +kernel
theorem dX7_walks_1 : decode cX7_walks 1 = .ok (.invokevirtual 151, 3) := by decide +kernel
theorem dX7_walks_4 : decode cX7_walks 4 = .ok (.aload_n 0, 1) := by decide +kernel
theorem dX7_walks_5 : decode cX7_walks 5 = .ok (.getfield 34, 3) := by decide +kernel
theorem dX7_walks_8 : decode cX7_walks 8 = .ok (.invokevirtual 160, 3) := by decide +kernel
theorem dX7_walks_11 : decode cX7_walks 11 = .ok (.ireturn, 1) := by decide +kernel
theorem dX7_why_0 : decode cX7_why 0 = .ok (.aload_n 0, 1) := by decide +kernel
theorem dX7_why_1 : decode cX7_why 1 = .ok (.invokevirtual 151, 3) := by decide +kernel
theorem dX7_why_4 : decode cX7_why 4 = .ok (.aload_n 0, 1) := by decide +kernel
theorem dX7_why_5 : decode cX7_why 5 = .ok (.getfield 34, 3) := by decide +kernel
theorem dX7_why_8 : decode cX7_why 8 = .ok (.invokevirtual 163, 3) := by decide +kernel
theorem dX7_why_11 : decode cX7_why 11 = .ok (.istore_n 1, 1) := by decide +kernel
theorem dX7_why_12 : decode cX7_why 12 = .ok (.iload_n 1, 1) := by decide +kernel
theorem dX7_why_13 : decode cX7_why 13 = .ok (.iconst (-1), 1) := by decide +kernel
theorem dX7_why_14 : decode cX7_why 14 = .ok (.if_icmp .eq 5, 3) := by decide +kernel
theorem dX7_why_17 : decode cX7_why 17 = .ok (.iload_n 1, 1) := by decide +kernel
theorem dX7_why_18 : decode cX7_why 18 = .ok (.ireturn, 1) := by decide +kernel
theorem dX7_why_19 : decode cX7_why 19 = .ok (.aload_n 0, 1) := by decide +kernel
theorem dX7_why_20 : decode cX7_why 20 = .ok (.getfield 34, 3) := by decide +kernel
theorem dX7_why_23 : decode cX7_why 23 = .ok (.invokevirtual 166, 3) := by decide +kernel
theorem dX7_why_26 : decode cX7_why 26 = .ok (.istore_n 2, 1) := by decide +kernel
theorem dX7_why_27 : decode cX7_why 27 = .ok (.iload_n 2, 1) := by decide +kernel
theorem dX7_why_28 : decode cX7_why 28 = .ok (.iconst (-1), 1) := by decide +kernel
theorem dX7_why_29 : decode cX7_why 29 = .ok (.if_icmp .ne 7, 3) := by decide +kernel
theorem dX7_why_32 : decode cX7_why 32 = .ok (.iconst (-1), 1) := by decide +kernel
theorem dX7_why_33 : decode cX7_why 33 = .ok (.goto 7, 3) := by decide +kernel
theorem dX7_why_36 : decode cX7_why 36 = .ok (.bipush 100, 2) := by decide +kernel
theorem dX7_why_38 : decode cX7_why 38 = .ok (.iload_n 2, 1) := by decide +kernel
theorem dX7_why_39 : decode cX7_why 39 = .ok (.iadd, 1) := by decide +kernel
theorem dX7_why_40 : decode cX7_why 40 = .ok (.ireturn, 1) := by decide +kernel
theorem dX7_margin_0 : decode cX7_margin 0 = .ok (.aload_n 0, 1) := by decide +kernel
theorem dX7_margin_1 : decode cX7_margin 1 = .ok (.getfield 12, 3) := by decide +kernel
theorem dX7_margin_4 : decode cX7_margin 4 = .ok (.iload_n 1, 1) := by decide +kernel
theorem dX7_margin_5 : decode cX7_margin 5 = .ok (.invokevirtual 115, 3) := by decide +kernel
theorem dX7_margin_8 : decode cX7_margin 8 = .ok (.ifCond .eq 12, 3) := by decide +kernel
theorem dX7_margin_11 : decode cX7_margin 11 = .ok (.iload_n 2, 1) := by decide +kernel
theorem dX7_margin_12 : decode cX7_margin 12 = .ok (.iconst 0, 1) := by decide +kernel
theorem dX7_margin_13 : decode cX7_margin 13 = .ok (.iconst 1, 1) := by decide +kernel
theorem dX7_margin_14 : decode cX7_margin 14 = .ok (.invokestatic 63, 3) := by decide +kernel
theorem dX7_margin_17 : decode cX7_margin 17 = .ok (.ifCond .ne 7, 3) := by decide +kernel
theorem dX7_margin_20 : decode cX7_margin 20 = .ok (.ldc2_w 169, 3) := by decide +kernel
theorem dX7_margin_23 : decode cX7_margin 23 = .ok (.lreturn, 1) := by decide +kernel
theorem dX7_margin_24 : decode cX7_margin 24 = .ok (.aload_n 0, 1) := by decide +kernel
theorem dX7_margin_25 : decode cX7_margin 25 = .ok (.invokevirtual 151, 3) := by decide +kernel
theorem dX7_margin_28 : decode cX7_margin 28 = .ok (.aload_n 0, 1) := by decide +kernel
theorem dX7_margin_29 : decode cX7_margin 29 = .ok (.getfield 34, 3) := by decide +kernel
theorem dX7_margin_32 : decode cX7_margin 32 = .ok (.iload_n 1, 1) := by decide +kernel
theorem dX7_margin_33 : decode cX7_margin 33 = .ok (.invokevirtual 171, 3) := by decide +kernel
theorem dX7_margin_36 : decode cX7_margin 36 = .ok (.iload_n 2, 1) := by decide +kernel
theorem dX7_margin_37 : decode cX7_margin 37 = .ok (.invokestatic 175, 3) := by decide +kernel
theorem dX7_margin_40 : decode cX7_margin 40 = .ok (.lreturn, 1) := by decide +kernel
theorem dX7_worst_0 : decode cX7_worst 0 = .ok (.iload_n 1, 1) := by decide +kernel
theorem dX7_worst_1 : decode cX7_worst 1 = .ok (.iconst 0, 1) := by decide +kernel
theorem dX7_worst_2 : decode cX7_worst 2 = .ok (.iconst 2, 1) := by decide +kernel
theorem dX7_worst_3 : decode cX7_worst 3 = .ok (.invokestatic 63, 3) := by decide +kernel
theorem dX7_worst_6 : decode cX7_worst 6 = .ok (.ifCond .ne 7, 3) := by decide +kernel
theorem dX7_worst_9 : decode cX7_worst 9 = .ok (.ldc2_w 169, 3) := by decide +kernel
theorem dX7_worst_12 : decode cX7_worst 12 = .ok (.lreturn, 1) := by decide +kernel
theorem dX7_worst_13 : decode cX7_worst 13 = .ok (.aload_n 0, 1) := by decide +kernel
theorem dX7_worst_14 : decode cX7_worst 14 = .ok (.invokevirtual 151, 3) := by decide +kernel
theorem dX7_worst_17 : decode cX7_worst 17 = .ok (.aload_n 0, 1) := by decide +kernel
theorem dX7_worst_18 : decode cX7_worst 18 = .ok (.getfield 34, 3) := by decide +kernel
theorem dX7_worst_21 : decode cX7_worst 21 = .ok (.invokevirtual 179, 3) := by decide +kernel
theorem dX7_worst_24 : decode cX7_worst 24 = .ok (.istore_n 2, 1) := by decide +kernel
theorem dX7_worst_25 : decode cX7_worst 25 = .ok (.iload_n 2, 1) := by decide +kernel
theorem dX7_worst_26 : decode cX7_worst 26 = .ok (.iconst (-1), 1) := by decide +kernel
theorem dX7_worst_27 : decode cX7_worst 27 = .ok (.if_icmp .ne 7, 3) := by decide +kernel
theorem dX7_worst_30 : decode cX7_worst 30 = .ok (.ldc2_w 169, 3) := by decide +kernel
theorem dX7_worst_33 : decode cX7_worst 33 = .ok (.lreturn, 1) := by decide +kernel
theorem dX7_worst_34 : decode cX7_worst 34 = .ok (.iload_n 1, 1) := by decide +kernel
theorem dX7_worst_35 : decode cX7_worst 35 = .ok (.iconst 2, 1) := by decide +kernel
theorem dX7_worst_36 : decode cX7_worst 36 = .ok (.if_icmp .ne 8, 3) := by decide +kernel
theorem dX7_worst_39 : decode cX7_worst 39 = .ok (.iload_n 2, 1) := by decide +kernel
theorem dX7_worst_40 : decode cX7_worst 40 = .ok (.i2l, 1) := by decide +kernel
theorem dX7_worst_41 : decode cX7_worst 41 = .ok (.goto 14, 3) := by decide +kernel
theorem dX7_worst_44 : decode cX7_worst 44 = .ok (.aload_n 0, 1) := by decide +kernel
theorem dX7_worst_45 : decode cX7_worst 45 = .ok (.getfield 34, 3) := by decide +kernel
theorem dX7_worst_48 : decode cX7_worst 48 = .ok (.getfield 182, 3) := by decide +kernel
theorem dX7_worst_51 : decode cX7_worst 51 = .ok (.iload_n 1, 1) := by decide +kernel
theorem dX7_worst_52 : decode cX7_worst 52 = .ok (.invokestatic 175, 3) := by decide +kernel
theorem dX7_worst_55 : decode cX7_worst 55 = .ok (.lreturn, 1) := by decide +kernel
theorem dX7_fastest_0 : decode cX7_fastest 0 = .ok (.aload_n 0, 1) := by decide +kernel
theorem dX7_fastest_1 : decode cX7_fastest 1 = .ok (.invokevirtual 151, 3) := by decide +kernel
theorem dX7_fastest_4 : decode cX7_fastest 4 = .ok (.bipush 9, 2) := by decide +kernel
theorem dX7_fastest_6 : decode cX7_fastest 6 = .ok (.istore_n 1, 1) := by decide +kernel
theorem dX7_fastest_7 : decode cX7_fastest 7 = .ok (.iload_n 1, 1) := by decide +kernel
theorem dX7_fastest_8 : decode cX7_fastest 8 = .ok (.ifCond .lt 29, 3) := by decide +kernel
theorem dX7_fastest_11 : decode cX7_fastest 11 = .ok (.aload_n 0, 1) := by decide +kernel
theorem dX7_fastest_12 : decode cX7_fastest 12 = .ok (.getfield 40, 3) := by decide +kernel
theorem dX7_fastest_15 : decode cX7_fastest 15 = .ok (.iload_n 1, 1) := by decide +kernel
theorem dX7_fastest_16 : decode cX7_fastest 16 = .ok (.putfield 99, 3) := by decide +kernel
theorem dX7_fastest_19 : decode cX7_fastest 19 = .ok (.aload_n 0, 1) := by decide +kernel
theorem dX7_fastest_20 : decode cX7_fastest 20 = .ok (.getfield 34, 3) := by decide +kernel
theorem dX7_fastest_23 : decode cX7_fastest 23 = .ok (.invokevirtual 160, 3) := by decide +kernel
theorem dX7_fastest_26 : decode cX7_fastest 26 = .ok (.ifCond .eq 5, 3) := by decide +kernel
theorem dX7_fastest_29 : decode cX7_fastest 29 = .ok (.iload_n 1, 1) := by decide +kernel
theorem dX7_fastest_30 : decode cX7_fastest 30 = .ok (.ireturn, 1) := by decide +kernel
theorem dX7_fastest_31 : decode cX7_fastest 31 = .ok (.iinc 1 (-1), 3) := by decide +kernel
theorem dX7_fastest_34 : decode cX7_fastest 34 = .ok (.goto (-27), 3) := by decide +kernel
theorem dX7_fastest_37 : decode cX7_fastest 37 = .ok (.iconst (-1), 1) := by decide +kernel
theorem dX7_fastest_38 : decode cX7_fastest 38 = .ok (.ireturn, 1) := by decide +kernel
theorem dX7_many_0 : decode cX7_many 0 = .ok (.aload_n 0, 1) := by decide +kernel
theorem dX7_many_1 : decode cX7_many 1 = .ok (.getfield 40, 3) := by decide +kernel
theorem dX7_many_4 : decode cX7_many 4 = .ok (.aload_n 0, 1) := by decide +kernel
theorem dX7_many_5 : decode cX7_many 5 = .ok (.getfield 12, 3) := by decide +kernel
theorem dX7_many_8 : decode cX7_many 8 = .ok (.invokevirtual 185, 3) := by decide +kernel
theorem dX7_many_11 : decode cX7_many 11 = .ok (.aload_n 0, 1) := by decide +kernel
theorem dX7_many_12 : decode cX7_many 12 = .ok (.iload_n 1, 1) := by decide +kernel
theorem dX7_many_13 : decode cX7_many 13 = .ok (.iload_n 2, 1) := by decide +kernel
theorem dX7_many_14 : decode cX7_many 14 = .ok (.invokevirtual 188, 3) := by decide +kernel
theorem dX7_many_17 : decode cX7_many 17 = .ok (.ireturn, 1) := by decide +kernel
theorem dX7_pick_0 : decode cX7_pick 0 = .ok (.iload_n 3, 1) := by decide +kernel
theorem dX7_pick_1 : decode cX7_pick 1 = .ok (.ifCond .lt 18, 3) := by decide +kernel
theorem dX7_pick_4 : decode cX7_pick 4 = .ok (.iload_n 1, 1) := by decide +kernel
theorem dX7_pick_5 : decode cX7_pick 5 = .ok (.iload_n 2, 1) := by decide +kernel
theorem dX7_pick_6 : decode cX7_pick 6 = .ok (.aload_n 0, 1) := by decide +kernel
theorem dX7_pick_7 : decode cX7_pick 7 = .ok (.getfield 12, 3) := by decide +kernel
theorem dX7_pick_10 : decode cX7_pick 10 = .ok (.getfield 124, 3) := by decide +kernel
theorem dX7_pick_13 : decode cX7_pick 13 = .ok (.invokestatic 191, 3) := by decide +kernel
theorem dX7_pick_16 : decode cX7_pick 16 = .ok (.ifCond .ne 5, 3) := by decide +kernel
theorem dX7_pick_19 : decode cX7_pick 19 = .ok (.iconst 0, 1) := by decide +kernel
theorem dX7_pick_20 : decode cX7_pick 20 = .ok (.ireturn, 1) := by decide +kernel
theorem dX7_pick_21 : decode cX7_pick 21 = .ok (.aload_n 0, 1) := by decide +kernel
theorem dX7_pick_22 : decode cX7_pick 22 = .ok (.getfield 40, 3) := by decide +kernel
theorem dX7_pick_25 : decode cX7_pick 25 = .ok (.aload_n 0, 1) := by decide +kernel
theorem dX7_pick_26 : decode cX7_pick 26 = .ok (.getfield 12, 3) := by decide +kernel
theorem dX7_pick_29 : decode cX7_pick 29 = .ok (.invokevirtual 185, 3) := by decide +kernel
theorem dX7_pick_32 : decode cX7_pick 32 = .ok (.aload_n 0, 1) := by decide +kernel
theorem dX7_pick_33 : decode cX7_pick 33 = .ok (.getfield 26, 3) := by decide +kernel
theorem dX7_pick_36 : decode cX7_pick 36 = .ok (.iload_n 1, 1) := by decide +kernel
theorem dX7_pick_37 : decode cX7_pick 37 = .ok (.iload_n 2, 1) := by decide +kernel
theorem dX7_pick_38 : decode cX7_pick 38 = .ok (.invokevirtual 194, 3) := by decide +kernel
theorem dX7_pick_41 : decode cX7_pick 41 = .ok (.istore 4, 2) := by decide +kernel
theorem dX7_pick_43 : decode cX7_pick 43 = .ok (.iconst 0, 1) := by decide +kernel
theorem dX7_pick_44 : decode cX7_pick 44 = .ok (.istore 5, 2) := by decide +kernel
theorem dX7_pick_46 : decode cX7_pick 46 = .ok (.iconst 0, 1) := by decide +kernel
theorem dX7_pick_47 : decode cX7_pick 47 = .ok (.istore 6, 2) := by decide +kernel
theorem dX7_pick_49 : decode cX7_pick 49 = .ok (.iload 6, 2) := by decide +kernel
theorem dX7_pick_51 : decode cX7_pick 51 = .ok (.iload 4, 2) := by decide +kernel
theorem dX7_pick_53 : decode cX7_pick 53 = .ok (.if_icmp .ge 64, 3) := by decide +kernel
theorem dX7_pick_56 : decode cX7_pick 56 = .ok (.aload_n 0, 1) := by decide +kernel
theorem dX7_pick_57 : decode cX7_pick 57 = .ok (.getfield 34, 3) := by decide +kernel
theorem dX7_pick_60 : decode cX7_pick 60 = .ok (.invokevirtual 160, 3) := by decide +kernel
theorem dX7_pick_63 : decode cX7_pick 63 = .ok (.ifCond .eq 41, 3) := by decide +kernel
theorem dX7_pick_66 : decode cX7_pick 66 = .ok (.iload 5, 2) := by decide +kernel
theorem dX7_pick_68 : decode cX7_pick 68 = .ok (.iload_n 3, 1) := by decide +kernel
theorem dX7_pick_69 : decode cX7_pick 69 = .ok (.if_icmp .ne 32, 3) := by decide +kernel
theorem dX7_pick_72 : decode cX7_pick 72 = .ok (.aload_n 0, 1) := by decide +kernel
theorem dX7_pick_73 : decode cX7_pick 73 = .ok (.getfield 19, 3) := by decide +kernel
theorem dX7_pick_76 : decode cX7_pick 76 = .ok (.aload_n 0, 1) := by decide +kernel
theorem dX7_pick_77 : decode cX7_pick 77 = .ok (.getfield 12, 3) := by decide +kernel
theorem dX7_pick_80 : decode cX7_pick 80 = .ok (.invokevirtual 67, 3) := by decide +kernel
theorem dX7_pick_83 : decode cX7_pick 83 = .ok (.aload_n 0, 1) := by decide +kernel
theorem dX7_pick_84 : decode cX7_pick 84 = .ok (.getfield 12, 3) := by decide +kernel
theorem dX7_pick_87 : decode cX7_pick 87 = .ok (.iload_n 1, 1) := by decide +kernel
theorem dX7_pick_88 : decode cX7_pick 88 = .ok (.iload_n 2, 1) := by decide +kernel
theorem dX7_pick_89 : decode cX7_pick 89 = .ok (.aload_n 0, 1) := by decide +kernel
theorem dX7_pick_90 : decode cX7_pick 90 = .ok (.getfield 26, 3) := by decide +kernel
theorem dX7_pick_93 : decode cX7_pick 93 = .ok (.invokevirtual 197, 3) := by decide +kernel
theorem dX7_pick_96 : decode cX7_pick 96 = .ok (.invokevirtual 130, 3) := by decide +kernel
theorem dX7_pick_99 : decode cX7_pick 99 = .ok (.iconst 1, 1) := by decide +kernel
theorem dX7_pick_100 : decode cX7_pick 100 = .ok (.ireturn, 1) := by decide +kernel
theorem dX7_pick_101 : decode cX7_pick 101 = .ok (.iinc 5 1, 3) := by decide +kernel
theorem dX7_pick_104 : decode cX7_pick 104 = .ok (.aload_n 0, 1) := by decide +kernel
theorem dX7_pick_105 : decode cX7_pick 105 = .ok (.getfield 26, 3) := by decide +kernel
theorem dX7_pick_108 : decode cX7_pick 108 = .ok (.invokevirtual 200, 3) := by decide +kernel
theorem dX7_pick_111 : decode cX7_pick 111 = .ok (.iinc 6 1, 3) := by decide +kernel
theorem dX7_pick_114 : decode cX7_pick 114 = .ok (.goto (-65), 3) := by decide +kernel
theorem dX7_pick_117 : decode cX7_pick 117 = .ok (.iconst 0, 1) := by decide +kernel
theorem dX7_pick_118 : decode cX7_pick 118 = .ok (.ireturn, 1) := by decide +kernel
theorem dX7_rank_0 : decode cX7_rank 0 = .ok (.iload_n 1, 1) := by decide +kernel
theorem dX7_rank_1 : decode cX7_rank 1 = .ok (.iload_n 2, 1) := by decide +kernel
theorem dX7_rank_2 : decode cX7_rank 2 = .ok (.aload_n 0, 1) := by decide +kernel
theorem dX7_rank_3 : decode cX7_rank 3 = .ok (.getfield 12, 3) := by decide +kernel
theorem dX7_rank_6 : decode cX7_rank 6 = .ok (.getfield 124, 3) := by decide +kernel
theorem dX7_rank_9 : decode cX7_rank 9 = .ok (.invokestatic 191, 3) := by decide +kernel
theorem dX7_rank_12 : decode cX7_rank 12 = .ok (.ifCond .eq 14, 3) := by decide +kernel
theorem dX7_rank_15 : decode cX7_rank 15 = .ok (.aload_n 0, 1) := by decide +kernel
theorem dX7_rank_16 : decode cX7_rank 16 = .ok (.getfield 12, 3) := by decide +kernel
theorem dX7_rank_19 : decode cX7_rank 19 = .ok (.getfield 105, 3) := by decide +kernel
theorem dX7_rank_22 : decode cX7_rank 22 = .ok (.iload_n 1, 1) := by decide +kernel
theorem dX7_rank_23 : decode cX7_rank 23 = .ok (.if_icmp .eq 5, 3) := by decide +kernel
theorem dX7_rank_26 : decode cX7_rank 26 = .ok (.iconst (-1), 1) := by decide +kernel
theorem dX7_rank_27 : decode cX7_rank 27 = .ok (.ireturn, 1) := by decide +kernel
theorem dX7_rank_28 : decode cX7_rank 28 = .ok (.aload_n 0, 1) := by decide +kernel
theorem dX7_rank_29 : decode cX7_rank 29 = .ok (.getfield 40, 3) := by decide +kernel
theorem dX7_rank_32 : decode cX7_rank 32 = .ok (.aload_n 0, 1) := by decide +kernel
theorem dX7_rank_33 : decode cX7_rank 33 = .ok (.getfield 12, 3) := by decide +kernel
theorem dX7_rank_36 : decode cX7_rank 36 = .ok (.invokevirtual 185, 3) := by decide +kernel
theorem dX7_rank_39 : decode cX7_rank 39 = .ok (.aload_n 0, 1) := by decide +kernel
theorem dX7_rank_40 : decode cX7_rank 40 = .ok (.getfield 26, 3) := by decide +kernel
theorem dX7_rank_43 : decode cX7_rank 43 = .ok (.iload_n 1, 1) := by decide +kernel
theorem dX7_rank_44 : decode cX7_rank 44 = .ok (.iload_n 2, 1) := by decide +kernel
theorem dX7_rank_45 : decode cX7_rank 45 = .ok (.invokevirtual 194, 3) := by decide +kernel
theorem dX7_rank_48 : decode cX7_rank 48 = .ok (.istore_n 3, 1) := by decide +kernel
theorem dX7_rank_49 : decode cX7_rank 49 = .ok (.iconst 0, 1) := by decide +kernel
theorem dX7_rank_50 : decode cX7_rank 50 = .ok (.istore 4, 2) := by decide +kernel
theorem dX7_rank_52 : decode cX7_rank 52 = .ok (.iconst 0, 1) := by decide +kernel
theorem dX7_rank_53 : decode cX7_rank 53 = .ok (.istore 5, 2) := by decide +kernel
theorem dX7_rank_55 : decode cX7_rank 55 = .ok (.iload 5, 2) := by decide +kernel
theorem dX7_rank_57 : decode cX7_rank 57 = .ok (.iload_n 3, 1) := by decide +kernel
theorem dX7_rank_58 : decode cX7_rank 58 = .ok (.if_icmp .ge 59, 3) := by decide +kernel
theorem dX7_rank_61 : decode cX7_rank 61 = .ok (.aload_n 0, 1) := by decide +kernel
theorem dX7_rank_62 : decode cX7_rank 62 = .ok (.getfield 34, 3) := by decide +kernel
theorem dX7_rank_65 : decode cX7_rank 65 = .ok (.invokevirtual 160, 3) := by decide +kernel
theorem dX7_rank_68 : decode cX7_rank 68 = .ok (.istore 6, 2) := by decide +kernel
theorem dX7_rank_70 : decode cX7_rank 70 = .ok (.aload_n 0, 1) := by decide +kernel
theorem dX7_rank_71 : decode cX7_rank 71 = .ok (.getfield 40, 3) := by decide +kernel
theorem dX7_rank_74 : decode cX7_rank 74 = .ok (.aload_n 0, 1) := by decide +kernel
theorem dX7_rank_75 : decode cX7_rank 75 = .ok (.getfield 12, 3) := by decide +kernel
theorem dX7_rank_78 : decode cX7_rank 78 = .ok (.invokevirtual 203, 3) := by decide +kernel
theorem dX7_rank_81 : decode cX7_rank 81 = .ok (.ifCond .eq 15, 3) := by decide +kernel
theorem dX7_rank_84 : decode cX7_rank 84 = .ok (.iload 6, 2) := by decide +kernel
theorem dX7_rank_86 : decode cX7_rank 86 = .ok (.ifCond .eq 8, 3) := by decide +kernel
theorem dX7_rank_89 : decode cX7_rank 89 = .ok (.iload 4, 2) := by decide +kernel
theorem dX7_rank_91 : decode cX7_rank 91 = .ok (.goto 4, 3) := by decide +kernel
theorem dX7_rank_94 : decode cX7_rank 94 = .ok (.iconst (-1), 1) := by decide +kernel
theorem dX7_rank_95 : decode cX7_rank 95 = .ok (.ireturn, 1) := by decide +kernel
theorem dX7_rank_96 : decode cX7_rank 96 = .ok (.iload 6, 2) := by decide +kernel
theorem dX7_rank_98 : decode cX7_rank 98 = .ok (.ifCond .eq 6, 3) := by decide +kernel
theorem dX7_rank_101 : decode cX7_rank 101 = .ok (.iinc 4 1, 3) := by decide +kernel
theorem dX7_rank_104 : decode cX7_rank 104 = .ok (.aload_n 0, 1) := by decide +kernel
theorem dX7_rank_105 : decode cX7_rank 105 = .ok (.getfield 26, 3) := by decide +kernel
theorem dX7_rank_108 : decode cX7_rank 108 = .ok (.invokevirtual 200, 3) := by decide +kernel
theorem dX7_rank_111 : decode cX7_rank 111 = .ok (.iinc 5 1, 3) := by decide +kernel
theorem dX7_rank_114 : decode cX7_rank 114 = .ok (.goto (-59), 3) := by decide +kernel
theorem dX7_rank_117 : decode cX7_rank 117 = .ok (.iconst (-1), 1) := by decide +kernel
theorem dX7_rank_118 : decode cX7_rank 118 = .ok (.ireturn, 1) := by decide +kernel
theorem dX7_unlike_0 : decode cX7_unlike 0 = .ok (.iload_n 1, 1) := by decide +kernel
theorem dX7_unlike_1 : decode cX7_unlike 1 = .ok (.iload_n 2, 1) := by decide +kernel
theorem dX7_unlike_2 : decode cX7_unlike 2 = .ok (.aload_n 0, 1) := by decide +kernel
theorem dX7_unlike_3 : decode cX7_unlike 3 = .ok (.getfield 12, 3) := by decide +kernel
theorem dX7_unlike_6 : decode cX7_unlike 6 = .ok (.getfield 124, 3) := by decide +kernel
theorem dX7_unlike_9 : decode cX7_unlike 9 = .ok (.invokestatic 191, 3) := by decide +kernel
theorem dX7_unlike_12 : decode cX7_unlike 12 = .ok (.ifCond .ne 5, 3) := by decide +kernel
theorem dX7_unlike_15 : decode cX7_unlike 15 = .ok (.iconst (-1), 1) := by decide +kernel
theorem dX7_unlike_16 : decode cX7_unlike 16 = .ok (.ireturn, 1) := by decide +kernel
theorem dX7_unlike_17 : decode cX7_unlike 17 = .ok (.aload_n 0, 1) := by decide +kernel
theorem dX7_unlike_18 : decode cX7_unlike 18 = .ok (.getfield 40, 3) := by decide +kernel
theorem dX7_unlike_21 : decode cX7_unlike 21 = .ok (.aload_n 0, 1) := by decide +kernel
theorem dX7_unlike_22 : decode cX7_unlike 22 = .ok (.getfield 12, 3) := by decide +kernel
theorem dX7_unlike_25 : decode cX7_unlike 25 = .ok (.invokevirtual 185, 3) := by decide +kernel
theorem dX7_unlike_28 : decode cX7_unlike 28 = .ok (.aload_n 0, 1) := by decide +kernel
theorem dX7_unlike_29 : decode cX7_unlike 29 = .ok (.getfield 12, 3) := by decide +kernel
theorem dX7_unlike_32 : decode cX7_unlike 32 = .ok (.invokevirtual 137, 3) := by decide +kernel
theorem dX7_unlike_35 : decode cX7_unlike 35 = .ok (.ifCond .eq 15, 3) := by decide +kernel
theorem dX7_unlike_38 : decode cX7_unlike 38 = .ok (.aload_n 0, 1) := by decide +kernel
theorem dX7_unlike_39 : decode cX7_unlike 39 = .ok (.getfield 26, 3) := by decide +kernel
theorem dX7_unlike_42 : decode cX7_unlike 42 = .ok (.iload_n 1, 1) := by decide +kernel
theorem dX7_unlike_43 : decode cX7_unlike 43 = .ok (.iload_n 2, 1) := by decide +kernel
theorem dX7_unlike_44 : decode cX7_unlike 44 = .ok (.invokevirtual 207, 3) := by decide +kernel
theorem dX7_unlike_47 : decode cX7_unlike 47 = .ok (.goto 9, 3) := by decide +kernel
theorem dX7_unlike_50 : decode cX7_unlike 50 = .ok (.aload_n 0, 1) := by decide +kernel
theorem dX7_unlike_51 : decode cX7_unlike 51 = .ok (.iload_n 1, 1) := by decide +kernel
theorem dX7_unlike_52 : decode cX7_unlike 52 = .ok (.iload_n 2, 1) := by decide +kernel
theorem dX7_unlike_53 : decode cX7_unlike 53 = .ok (.invokevirtual 188, 3) := by decide +kernel
theorem dX7_unlike_56 : decode cX7_unlike 56 = .ok (.ireturn, 1) := by decide +kernel
theorem dX7_best_0 : decode cX7_best 0 = .ok (.iload_n 1, 1) := by decide +kernel
theorem dX7_best_1 : decode cX7_best 1 = .ok (.iload_n 2, 1) := by decide +kernel
theorem dX7_best_2 : decode cX7_best 2 = .ok (.aload_n 0, 1) := by decide +kernel
theorem dX7_best_3 : decode cX7_best 3 = .ok (.getfield 12, 3) := by decide +kernel
theorem dX7_best_6 : decode cX7_best 6 = .ok (.getfield 124, 3) := by decide +kernel
theorem dX7_best_9 : decode cX7_best 9 = .ok (.invokestatic 191, 3) := by decide +kernel
theorem dX7_best_12 : decode cX7_best 12 = .ok (.ifCond .ne 5, 3) := by decide +kernel
theorem dX7_best_15 : decode cX7_best 15 = .ok (.iconst (-1), 1) := by decide +kernel
theorem dX7_best_16 : decode cX7_best 16 = .ok (.ireturn, 1) := by decide +kernel
theorem dX7_best_17 : decode cX7_best 17 = .ok (.aload_n 0, 1) := by decide +kernel
theorem dX7_best_18 : decode cX7_best 18 = .ok (.getfield 40, 3) := by decide +kernel
theorem dX7_best_21 : decode cX7_best 21 = .ok (.aload_n 0, 1) := by decide +kernel
theorem dX7_best_22 : decode cX7_best 22 = .ok (.getfield 12, 3) := by decide +kernel
theorem dX7_best_25 : decode cX7_best 25 = .ok (.invokevirtual 185, 3) := by decide +kernel
theorem dX7_best_28 : decode cX7_best 28 = .ok (.aload_n 0, 1) := by decide +kernel
theorem dX7_best_29 : decode cX7_best 29 = .ok (.getfield 26, 3) := by decide +kernel
theorem dX7_best_32 : decode cX7_best 32 = .ok (.iload_n 1, 1) := by decide +kernel
theorem dX7_best_33 : decode cX7_best 33 = .ok (.iload_n 2, 1) := by decide +kernel
theorem dX7_best_34 : decode cX7_best 34 = .ok (.invokevirtual 194, 3) := by decide +kernel
theorem dX7_best_37 : decode cX7_best 37 = .ok (.istore_n 3, 1) := by decide +kernel
theorem dX7_best_38 : decode cX7_best 38 = .ok (.iconst 0, 1) := by decide +kernel
theorem dX7_best_39 : decode cX7_best 39 = .ok (.istore 4, 2) := by decide +kernel
theorem dX7_best_41 : decode cX7_best 41 = .ok (.iconst (-1), 1) := by decide +kernel
theorem dX7_best_42 : decode cX7_best 42 = .ok (.istore 5, 2) := by decide +kernel
theorem dX7_best_44 : decode cX7_best 44 = .ok (.iconst 0, 1) := by decide +kernel
theorem dX7_best_45 : decode cX7_best 45 = .ok (.istore 6, 2) := by decide +kernel
theorem dX7_best_47 : decode cX7_best 47 = .ok (.iconst 0, 1) := by decide +kernel
theorem dX7_best_48 : decode cX7_best 48 = .ok (.istore 7, 2) := by decide +kernel
theorem dX7_best_50 : decode cX7_best 50 = .ok (.iload 7, 2) := by decide +kernel
theorem dX7_best_52 : decode cX7_best 52 = .ok (.iload_n 3, 1) := by decide +kernel
theorem dX7_best_53 : decode cX7_best 53 = .ok (.if_icmp .ge 90, 3) := by decide +kernel
theorem dX7_best_56 : decode cX7_best 56 = .ok (.aload_n 0, 1) := by decide +kernel
theorem dX7_best_57 : decode cX7_best 57 = .ok (.getfield 34, 3) := by decide +kernel
theorem dX7_best_60 : decode cX7_best 60 = .ok (.invokevirtual 160, 3) := by decide +kernel
theorem dX7_best_63 : decode cX7_best 63 = .ok (.ifCond .eq 67, 3) := by decide +kernel
theorem dX7_best_66 : decode cX7_best 66 = .ok (.aload_n 0, 1) := by decide +kernel
theorem dX7_best_67 : decode cX7_best 67 = .ok (.getfield 34, 3) := by decide +kernel
theorem dX7_best_70 : decode cX7_best 70 = .ok (.invokevirtual 179, 3) := by decide +kernel
theorem dX7_best_73 : decode cX7_best 73 = .ok (.iconst (-1), 1) := by decide +kernel
theorem dX7_best_74 : decode cX7_best 74 = .ok (.if_icmp .eq 53, 3) := by decide +kernel
theorem dX7_best_77 : decode cX7_best 77 = .ok (.iload 5, 2) := by decide +kernel
theorem dX7_best_79 : decode cX7_best 79 = .ok (.iconst (-1), 1) := by decide +kernel
theorem dX7_best_80 : decode cX7_best 80 = .ok (.if_icmp .eq 20, 3) := by decide +kernel
theorem dX7_best_83 : decode cX7_best 83 = .ok (.aload_n 0, 1) := by decide +kernel
theorem dX7_best_84 : decode cX7_best 84 = .ok (.getfield 46, 3) := by decide +kernel
theorem dX7_best_87 : decode cX7_best 87 = .ok (.aload_n 0, 1) := by decide +kernel
theorem dX7_best_88 : decode cX7_best 88 = .ok (.getfield 34, 3) := by decide +kernel
theorem dX7_best_91 : decode cX7_best 91 = .ok (.getfield 182, 3) := by decide +kernel
theorem dX7_best_94 : decode cX7_best 94 = .ok (.invokevirtual 210, 3) := by decide +kernel
theorem dX7_best_97 : decode cX7_best 97 = .ok (.ifCond .eq 30, 3) := by decide +kernel
theorem dX7_best_100 : decode cX7_best 100 = .ok (.aload_n 0, 1) := by decide +kernel
theorem dX7_best_101 : decode cX7_best 101 = .ok (.getfield 46, 3) := by decide +kernel
theorem dX7_best_104 : decode cX7_best 104 = .ok (.aload_n 0, 1) := by decide +kernel
theorem dX7_best_105 : decode cX7_best 105 = .ok (.getfield 34, 3) := by decide +kernel
theorem dX7_best_108 : decode cX7_best 108 = .ok (.getfield 182, 3) := by decide +kernel
theorem dX7_best_111 : decode cX7_best 111 = .ok (.invokevirtual 214, 3) := by decide +kernel
theorem dX7_best_114 : decode cX7_best 114 = .ok (.iload 4, 2) := by decide +kernel
theorem dX7_best_116 : decode cX7_best 116 = .ok (.istore 5, 2) := by decide +kernel
theorem dX7_best_118 : decode cX7_best 118 = .ok (.aload_n 0, 1) := by decide +kernel
theorem dX7_best_119 : decode cX7_best 119 = .ok (.getfield 26, 3) := by decide +kernel
theorem dX7_best_122 : decode cX7_best 122 = .ok (.invokevirtual 197, 3) := by decide +kernel
theorem dX7_best_125 : decode cX7_best 125 = .ok (.istore 6, 2) := by decide +kernel
theorem dX7_best_127 : decode cX7_best 127 = .ok (.iinc 4 1, 3) := by decide +kernel
theorem dX7_best_130 : decode cX7_best 130 = .ok (.aload_n 0, 1) := by decide +kernel
theorem dX7_best_131 : decode cX7_best 131 = .ok (.getfield 26, 3) := by decide +kernel
theorem dX7_best_134 : decode cX7_best 134 = .ok (.invokevirtual 200, 3) := by decide +kernel
theorem dX7_best_137 : decode cX7_best 137 = .ok (.iinc 7 1, 3) := by decide +kernel
theorem dX7_best_140 : decode cX7_best 140 = .ok (.goto (-90), 3) := by decide +kernel
theorem dX7_best_143 : decode cX7_best 143 = .ok (.iload 5, 2) := by decide +kernel
theorem dX7_best_145 : decode cX7_best 145 = .ok (.iconst (-1), 1) := by decide +kernel
theorem dX7_best_146 : decode cX7_best 146 = .ok (.if_icmp .eq 25, 3) := by decide +kernel
theorem dX7_best_149 : decode cX7_best 149 = .ok (.aload_n 0, 1) := by decide +kernel
theorem dX7_best_150 : decode cX7_best 150 = .ok (.getfield 19, 3) := by decide +kernel
theorem dX7_best_153 : decode cX7_best 153 = .ok (.aload_n 0, 1) := by decide +kernel
theorem dX7_best_154 : decode cX7_best 154 = .ok (.getfield 12, 3) := by decide +kernel
theorem dX7_best_157 : decode cX7_best 157 = .ok (.invokevirtual 67, 3) := by decide +kernel
theorem dX7_best_160 : decode cX7_best 160 = .ok (.aload_n 0, 1) := by decide +kernel
theorem dX7_best_161 : decode cX7_best 161 = .ok (.getfield 12, 3) := by decide +kernel
theorem dX7_best_164 : decode cX7_best 164 = .ok (.iload_n 1, 1) := by decide +kernel
theorem dX7_best_165 : decode cX7_best 165 = .ok (.iload_n 2, 1) := by decide +kernel
theorem dX7_best_166 : decode cX7_best 166 = .ok (.iload 6, 2) := by decide +kernel
theorem dX7_best_168 : decode cX7_best 168 = .ok (.invokevirtual 130, 3) := by decide +kernel
theorem dX7_best_171 : decode cX7_best 171 = .ok (.iload 5, 2) := by decide +kernel
theorem dX7_best_173 : decode cX7_best 173 = .ok (.ireturn, 1) := by decide +kernel
theorem dX7_without_0 : decode cX7_without 0 = .ok (.aload_n 0, 1) := by decide +kernel
theorem dX7_without_1 : decode cX7_without 1 = .ok (.getfield 12, 3) := by decide +kernel
theorem dX7_without_4 : decode cX7_without 4 = .ok (.iload_n 1, 1) := by decide +kernel
theorem dX7_without_5 : decode cX7_without 5 = .ok (.invokevirtual 71, 3) := by decide +kernel
theorem dX7_without_8 : decode cX7_without 8 = .ok (.ifCond .eq 25, 3) := by decide +kernel
theorem dX7_without_11 : decode cX7_without 11 = .ok (.aload_n 0, 1) := by decide +kernel
theorem dX7_without_12 : decode cX7_without 12 = .ok (.getfield 12, 3) := by decide +kernel
theorem dX7_without_15 : decode cX7_without 15 = .ok (.getfield 124, 3) := by decide +kernel
theorem dX7_without_18 : decode cX7_without 18 = .ok (.iconst 2, 1) := by decide +kernel
theorem dX7_without_19 : decode cX7_without 19 = .ok (.if_icmp .le 14, 3) := by decide +kernel
theorem dX7_without_22 : decode cX7_without 22 = .ok (.aload_n 0, 1) := by decide +kernel
theorem dX7_without_23 : decode cX7_without 23 = .ok (.getfield 12, 3) := by decide +kernel
theorem dX7_without_26 : decode cX7_without 26 = .ok (.getfield 134, 3) := by decide +kernel
theorem dX7_without_29 : decode cX7_without 29 = .ok (.iconst 2, 1) := by decide +kernel
theorem dX7_without_30 : decode cX7_without 30 = .ok (.if_icmp .ne 5, 3) := by decide +kernel
theorem dX7_without_33 : decode cX7_without 33 = .ok (.iconst (-1), 1) := by decide +kernel
theorem dX7_without_34 : decode cX7_without 34 = .ok (.ireturn, 1) := by decide +kernel
theorem dX7_without_35 : decode cX7_without 35 = .ok (.aload_n 0, 1) := by decide +kernel
theorem dX7_without_36 : decode cX7_without 36 = .ok (.getfield 40, 3) := by decide +kernel
theorem dX7_without_39 : decode cX7_without 39 = .ok (.aload_n 0, 1) := by decide +kernel
theorem dX7_without_40 : decode cX7_without 40 = .ok (.getfield 12, 3) := by decide +kernel
theorem dX7_without_43 : decode cX7_without 43 = .ok (.invokevirtual 185, 3) := by decide +kernel
theorem dX7_without_46 : decode cX7_without 46 = .ok (.aload_n 0, 1) := by decide +kernel
theorem dX7_without_47 : decode cX7_without 47 = .ok (.getfield 40, 3) := by decide +kernel
theorem dX7_without_50 : decode cX7_without 50 = .ok (.iload_n 1, 1) := by decide +kernel
theorem dX7_without_51 : decode cX7_without 51 = .ok (.invokevirtual 217, 3) := by decide +kernel
theorem dX7_without_54 : decode cX7_without 54 = .ok (.aload_n 0, 1) := by decide +kernel
theorem dX7_without_55 : decode cX7_without 55 = .ok (.iload_n 2, 1) := by decide +kernel
theorem dX7_without_56 : decode cX7_without 56 = .ok (.iload_n 3, 1) := by decide +kernel
theorem dX7_without_57 : decode cX7_without 57 = .ok (.invokevirtual 188, 3) := by decide +kernel
theorem dX7_without_60 : decode cX7_without 60 = .ok (.ireturn, 1) := by decide +kernel
theorem dX7_loads_0 : decode cX7_loads 0 = .ok (.iload_n 1, 1) := by decide +kernel
theorem dX7_loads_1 : decode cX7_loads 1 = .ok (.bipush (-20), 2) := by decide +kernel
theorem dX7_loads_3 : decode cX7_loads 3 = .ok (.bipush 20, 2) := by decide +kernel
theorem dX7_loads_5 : decode cX7_loads 5 = .ok (.invokestatic 63, 3) := by decide +kernel
theorem dX7_loads_8 : decode cX7_loads 8 = .ok (.ifCond .ne 5, 3) := by decide +kernel
theorem dX7_loads_11 : decode cX7_loads 11 = .ok (.iconst (-1), 1) := by decide +kernel
theorem dX7_loads_12 : decode cX7_loads 12 = .ok (.ireturn, 1) := by decide +kernel
theorem dX7_loads_13 : decode cX7_loads 13 = .ok (.aload_n 0, 1) := by decide +kernel
theorem dX7_loads_14 : decode cX7_loads 14 = .ok (.invokevirtual 151, 3) := by decide +kernel
theorem dX7_loads_17 : decode cX7_loads 17 = .ok (.aload_n 0, 1) := by decide +kernel
theorem dX7_loads_18 : decode cX7_loads 18 = .ok (.getfield 40, 3) := by decide +kernel
theorem dX7_loads_21 : decode cX7_loads 21 = .ok (.iload_n 1, 1) := by decide +kernel
theorem dX7_loads_22 : decode cX7_loads 22 = .ok (.putfield 96, 3) := by decide +kernel
theorem dX7_loads_25 : decode cX7_loads 25 = .ok (.iconst 0, 1) := by decide +kernel
theorem dX7_loads_26 : decode cX7_loads 26 = .ok (.istore_n 2, 1) := by decide +kernel
theorem dX7_loads_27 : decode cX7_loads 27 = .ok (.bipush (-20), 2) := by decide +kernel
theorem dX7_loads_29 : decode cX7_loads 29 = .ok (.istore_n 3, 1) := by decide +kernel
theorem dX7_loads_30 : decode cX7_loads 30 = .ok (.iload_n 3, 1) := by decide +kernel
theorem dX7_loads_31 : decode cX7_loads 31 = .ok (.bipush 20, 2) := by decide +kernel
theorem dX7_loads_33 : decode cX7_loads 33 = .ok (.if_icmp .gt 30, 3) := by decide +kernel
theorem dX7_loads_36 : decode cX7_loads 36 = .ok (.aload_n 0, 1) := by decide +kernel
theorem dX7_loads_37 : decode cX7_loads 37 = .ok (.getfield 40, 3) := by decide +kernel
theorem dX7_loads_40 : decode cX7_loads 40 = .ok (.iload_n 3, 1) := by decide +kernel
theorem dX7_loads_41 : decode cX7_loads 41 = .ok (.putfield 92, 3) := by decide +kernel
theorem dX7_loads_44 : decode cX7_loads 44 = .ok (.aload_n 0, 1) := by decide +kernel
theorem dX7_loads_45 : decode cX7_loads 45 = .ok (.getfield 34, 3) := by decide +kernel
theorem dX7_loads_48 : decode cX7_loads 48 = .ok (.invokevirtual 160, 3) := by decide +kernel
theorem dX7_loads_51 : decode cX7_loads 51 = .ok (.ifCond .eq 6, 3) := by decide +kernel
theorem dX7_loads_54 : decode cX7_loads 54 = .ok (.iinc 2 1, 3) := by decide +kernel
theorem dX7_loads_57 : decode cX7_loads 57 = .ok (.iinc 3 1, 3) := by decide +kernel
theorem dX7_loads_60 : decode cX7_loads 60 = .ok (.goto (-30), 3) := by decide +kernel
theorem dX7_loads_63 : decode cX7_loads 63 = .ok (.iload_n 2, 1) := by decide +kernel
theorem dX7_loads_64 : decode cX7_loads 64 = .ok (.ireturn, 1) := by decide +kernel
theorem dX7_way_0 : decode cX7_way 0 = .ok (.aload_n 0, 1) := by decide +kernel
theorem dX7_way_1 : decode cX7_way 1 = .ok (.getfield 12, 3) := by decide +kernel
theorem dX7_way_4 : decode cX7_way 4 = .ok (.iload_n 1, 1) := by decide +kernel
theorem dX7_way_5 : decode cX7_way 5 = .ok (.invokevirtual 118, 3) := by decide +kernel
theorem dX7_way_8 : decode cX7_way 8 = .ok (.ifCond .eq 24, 3) := by decide +kernel
theorem dX7_way_11 : decode cX7_way 11 = .ok (.aload_n 0, 1) := by decide +kernel
theorem dX7_way_12 : decode cX7_way 12 = .ok (.getfield 12, 3) := by decide +kernel
theorem dX7_way_15 : decode cX7_way 15 = .ok (.iload_n 2, 1) := by decide +kernel
theorem dX7_way_16 : decode cX7_way 16 = .ok (.invokevirtual 118, 3) := by decide +kernel
theorem dX7_way_19 : decode cX7_way 19 = .ok (.ifCond .eq 13, 3) := by decide +kernel
theorem dX7_way_22 : decode cX7_way 22 = .ok (.iload_n 3, 1) := by decide +kernel
theorem dX7_way_23 : decode cX7_way 23 = .ok (.iconst 1, 1) := by decide +kernel
theorem dX7_way_24 : decode cX7_way 24 = .ok (.bipush 8, 2) := by decide +kernel
theorem dX7_way_26 : decode cX7_way 26 = .ok (.invokestatic 63, 3) := by decide +kernel
theorem dX7_way_29 : decode cX7_way 29 = .ok (.ifCond .ne 5, 3) := by decide +kernel
theorem dX7_way_32 : decode cX7_way 32 = .ok (.iconst (-1), 1) := by decide +kernel
theorem dX7_way_33 : decode cX7_way 33 = .ok (.ireturn, 1) := by decide +kernel
theorem dX7_way_34 : decode cX7_way 34 = .ok (.aload_n 0, 1) := by decide +kernel
theorem dX7_way_35 : decode cX7_way 35 = .ok (.getfield 40, 3) := by decide +kernel
theorem dX7_way_38 : decode cX7_way 38 = .ok (.aload_n 0, 1) := by decide +kernel
theorem dX7_way_39 : decode cX7_way 39 = .ok (.getfield 12, 3) := by decide +kernel
theorem dX7_way_42 : decode cX7_way 42 = .ok (.invokevirtual 185, 3) := by decide +kernel
theorem dX7_way_45 : decode cX7_way 45 = .ok (.aload_n 0, 1) := by decide +kernel
theorem dX7_way_46 : decode cX7_way 46 = .ok (.getfield 34, 3) := by decide +kernel
theorem dX7_way_49 : decode cX7_way 49 = .ok (.invokevirtual 220, 3) := by decide +kernel
theorem dX7_way_52 : decode cX7_way 52 = .ok (.aload_n 0, 1) := by decide +kernel
theorem dX7_way_53 : decode cX7_way 53 = .ok (.getfield 34, 3) := by decide +kernel
theorem dX7_way_56 : decode cX7_way 56 = .ok (.iload_n 1, 1) := by decide +kernel
theorem dX7_way_57 : decode cX7_way 57 = .ok (.invokevirtual 223, 3) := by decide +kernel
theorem dX7_way_60 : decode cX7_way 60 = .ok (.ifCond .eq 14, 3) := by decide +kernel
theorem dX7_way_63 : decode cX7_way 63 = .ok (.aload_n 0, 1) := by decide +kernel
theorem dX7_way_64 : decode cX7_way 64 = .ok (.getfield 34, 3) := by decide +kernel
theorem dX7_way_67 : decode cX7_way 67 = .ok (.iload_n 2, 1) := by decide +kernel
theorem dX7_way_68 : decode cX7_way 68 = .ok (.invokevirtual 223, 3) := by decide +kernel
theorem dX7_way_71 : decode cX7_way 71 = .ok (.ifCond .ne 5, 3) := by decide +kernel
theorem dX7_way_74 : decode cX7_way 74 = .ok (.iconst (-1), 1) := by decide +kernel
theorem dX7_way_75 : decode cX7_way 75 = .ok (.ireturn, 1) := by decide +kernel
theorem dX7_way_76 : decode cX7_way 76 = .ok (.iconst 0, 1) := by decide +kernel
theorem dX7_way_77 : decode cX7_way 77 = .ok (.istore 4, 2) := by decide +kernel
theorem dX7_way_79 : decode cX7_way 79 = .ok (.iload 4, 2) := by decide +kernel
theorem dX7_way_81 : decode cX7_way 81 = .ok (.sipush 256, 3) := by decide +kernel
theorem dX7_way_84 : decode cX7_way 84 = .ok (.if_icmp .ge 19, 3) := by decide +kernel
theorem dX7_way_87 : decode cX7_way 87 = .ok (.aload_n 0, 1) := by decide +kernel
theorem dX7_way_88 : decode cX7_way 88 = .ok (.getfield 55, 3) := by decide +kernel
theorem dX7_way_91 : decode cX7_way 91 = .ok (.iload 4, 2) := by decide +kernel
theorem dX7_way_93 : decode cX7_way 93 = .ok (.iconst (-1), 1) := by decide +kernel
theorem dX7_way_94 : decode cX7_way 94 = .ok (.invokevirtual 86, 3) := by decide +kernel
theorem dX7_way_97 : decode cX7_way 97 = .ok (.iinc 4 1, 3) := by decide +kernel
theorem dX7_way_100 : decode cX7_way 100 = .ok (.goto (-21), 3) := by decide +kernel
theorem dX7_way_103 : decode cX7_way 103 = .ok (.aload_n 0, 1) := by decide +kernel
theorem dX7_way_104 : decode cX7_way 104 = .ok (.getfield 55, 3) := by decide +kernel
theorem dX7_way_107 : decode cX7_way 107 = .ok (.iload_n 1, 1) := by decide +kernel
theorem dX7_way_108 : decode cX7_way 108 = .ok (.iconst 0, 1) := by decide +kernel
theorem dX7_way_109 : decode cX7_way 109 = .ok (.invokevirtual 86, 3) := by decide +kernel
theorem dX7_way_112 : decode cX7_way 112 = .ok (.iconst 1, 1) := by decide +kernel
theorem dX7_way_113 : decode cX7_way 113 = .ok (.istore 4, 2) := by decide +kernel
theorem dX7_way_115 : decode cX7_way 115 = .ok (.iconst 0, 1) := by decide +kernel
theorem dX7_way_116 : decode cX7_way 116 = .ok (.istore 5, 2) := by decide +kernel
theorem dX7_way_118 : decode cX7_way 118 = .ok (.iload 4, 2) := by decide +kernel
theorem dX7_way_120 : decode cX7_way 120 = .ok (.ifCond .eq 38, 3) := by decide +kernel
theorem dX7_way_123 : decode cX7_way 123 = .ok (.iload 5, 2) := by decide +kernel
theorem dX7_way_125 : decode cX7_way 125 = .ok (.sipush 256, 3) := by decide +kernel
theorem dX7_way_128 : decode cX7_way 128 = .ok (.if_icmp .ge 30, 3) := by decide +kernel
theorem dX7_way_131 : decode cX7_way 131 = .ok (.aload_n 0, 1) := by decide +kernel
theorem dX7_way_132 : decode cX7_way 132 = .ok (.getfield 55, 3) := by decide +kernel
theorem dX7_way_135 : decode cX7_way 135 = .ok (.iload_n 2, 1) := by decide +kernel
theorem dX7_way_136 : decode cX7_way 136 = .ok (.invokevirtual 145, 3) := by decide +kernel
theorem dX7_way_139 : decode cX7_way 139 = .ok (.iconst (-1), 1) := by decide +kernel
theorem dX7_way_140 : decode cX7_way 140 = .ok (.if_icmp .ne 18, 3) := by decide +kernel
theorem dX7_way_143 : decode cX7_way 143 = .ok (.aload_n 0, 1) := by decide +kernel
theorem dX7_way_144 : decode cX7_way 144 = .ok (.iload 5, 2) := by decide +kernel
theorem dX7_way_146 : decode cX7_way 146 = .ok (.iload_n 3, 1) := by decide +kernel
theorem dX7_way_147 : decode cX7_way 147 = .ok (.invokevirtual 226, 3) := by decide +kernel
theorem dX7_way_150 : decode cX7_way 150 = .ok (.istore 4, 2) := by decide +kernel
theorem dX7_way_152 : decode cX7_way 152 = .ok (.iinc 5 1, 3) := by decide +kernel
theorem dX7_way_155 : decode cX7_way 155 = .ok (.goto (-37), 3) := by decide +kernel
theorem dX7_way_158 : decode cX7_way 158 = .ok (.aload_n 0, 1) := by decide +kernel
theorem dX7_way_159 : decode cX7_way 159 = .ok (.getfield 55, 3) := by decide +kernel
theorem dX7_way_162 : decode cX7_way 162 = .ok (.iload_n 2, 1) := by decide +kernel
theorem dX7_way_163 : decode cX7_way 163 = .ok (.invokevirtual 145, 3) := by decide +kernel
theorem dX7_way_166 : decode cX7_way 166 = .ok (.ireturn, 1) := by decide +kernel
theorem dX7_undo_0 : decode cX7_undo 0 = .ok (.aload_n 0, 1) := by decide +kernel
theorem dX7_undo_1 : decode cX7_undo 1 = .ok (.getfield 19, 3) := by decide +kernel
theorem dX7_undo_4 : decode cX7_undo 4 = .ok (.aload_n 0, 1) := by decide +kernel
theorem dX7_undo_5 : decode cX7_undo 5 = .ok (.getfield 12, 3) := by decide +kernel
theorem dX7_undo_8 : decode cX7_undo 8 = .ok (.invokevirtual 229, 3) := by decide +kernel
theorem dX7_undo_11 : decode cX7_undo 11 = .ok (.ireturn, 1) := by decide +kernel
theorem dX7_isWithin_0 : decode cX7_isWithin 0 = .ok (.iload_n 0, 1) := by decide +kernel
theorem dX7_isWithin_1 : decode cX7_isWithin 1 = .ok (.iload_n 1, 1) := by decide +kernel
theorem dX7_isWithin_2 : decode cX7_isWithin 2 = .ok (.if_icmp .lt 12, 3) := by decide +kernel
theorem dX7_isWithin_5 : decode cX7_isWithin 5 = .ok (.iload_n 0, 1) := by decide +kernel
theorem dX7_isWithin_6 : decode cX7_isWithin 6 = .ok (.iload_n 2, 1) := by decide +kernel
theorem dX7_isWithin_7 : decode cX7_isWithin 7 = .ok (.if_icmp .gt 7, 3) := by decide +kernel
theorem dX7_isWithin_10 : decode cX7_isWithin 10 = .ok (.iconst 1, 1) := by decide +kernel
theorem dX7_isWithin_11 : decode cX7_isWithin 11 = .ok (.goto 4, 3) := by decide +kernel
theorem dX7_isWithin_14 : decode cX7_isWithin 14 = .ok (.iconst 0, 1) := by decide +kernel
theorem dX7_isWithin_15 : decode cX7_isWithin 15 = .ok (.ireturn, 1) := by decide +kernel
theorem dX7_isPlace_0 : decode cX7_isPlace 0 = .ok (.iload_n 0, 1) := by decide +kernel
theorem dX7_isPlace_1 : decode cX7_isPlace 1 = .ok (.bipush (-20), 2) := by decide +kernel
theorem dX7_isPlace_3 : decode cX7_isPlace 3 = .ok (.bipush 20, 2) := by decide +kernel
theorem dX7_isPlace_5 : decode cX7_isPlace 5 = .ok (.invokestatic 63, 3) := by decide +kernel
theorem dX7_isPlace_8 : decode cX7_isPlace 8 = .ok (.ifCond .eq 18, 3) := by decide +kernel
theorem dX7_isPlace_11 : decode cX7_isPlace 11 = .ok (.iload_n 1, 1) := by decide +kernel
theorem dX7_isPlace_12 : decode cX7_isPlace 12 = .ok (.bipush (-20), 2) := by decide +kernel
theorem dX7_isPlace_14 : decode cX7_isPlace 14 = .ok (.bipush 20, 2) := by decide +kernel
theorem dX7_isPlace_16 : decode cX7_isPlace 16 = .ok (.invokestatic 63, 3) := by decide +kernel
theorem dX7_isPlace_19 : decode cX7_isPlace 19 = .ok (.ifCond .eq 7, 3) := by decide +kernel
theorem dX7_isPlace_22 : decode cX7_isPlace 22 = .ok (.iconst 1, 1) := by decide +kernel
theorem dX7_isPlace_23 : decode cX7_isPlace 23 = .ok (.goto 4, 3) := by decide +kernel
theorem dX7_isPlace_26 : decode cX7_isPlace 26 = .ok (.iconst 0, 1) := by decide +kernel
theorem dX7_isPlace_27 : decode cX7_isPlace 27 = .ok (.ireturn, 1) := by decide +kernel
theorem dX7_areTicks_0 : decode cX7_areTicks 0 = .ok (.iload_n 0, 1) := by decide +kernel
theorem dX7_areTicks_1 : decode cX7_areTicks 1 = .ok (.iconst 2, 1) := by decide +kernel
theorem dX7_areTicks_2 : decode cX7_areTicks 2 = .ok (.bipush 8, 2) := by decide +kernel
theorem dX7_areTicks_4 : decode cX7_areTicks 4 = .ok (.invokestatic 63, 3) := by decide +kernel
theorem dX7_areTicks_7 : decode cX7_areTicks 7 = .ok (.ifCond .eq 18, 3) := by decide +kernel
theorem dX7_areTicks_10 : decode cX7_areTicks 10 = .ok (.iload_n 1, 1) := by decide +kernel
theorem dX7_areTicks_11 : decode cX7_areTicks 11 = .ok (.iconst 1, 1) := by decide +kernel
theorem dX7_areTicks_12 : decode cX7_areTicks 12 = .ok (.iload_n 0, 1) := by decide +kernel
theorem dX7_areTicks_13 : decode cX7_areTicks 13 = .ok (.iconst 1, 1) := by decide +kernel
theorem dX7_areTicks_14 : decode cX7_areTicks 14 = .ok (.isub, 1) := by decide +kernel
theorem dX7_areTicks_15 : decode cX7_areTicks 15 = .ok (.invokestatic 63, 3) := by decide +kernel
theorem dX7_areTicks_18 : decode cX7_areTicks 18 = .ok (.ifCond .eq 7, 3) := by decide +kernel
theorem dX7_areTicks_21 : decode cX7_areTicks 21 = .ok (.iconst 1, 1) := by decide +kernel
theorem dX7_areTicks_22 : decode cX7_areTicks 22 = .ok (.goto 4, 3) := by decide +kernel
theorem dX7_areTicks_25 : decode cX7_areTicks 25 = .ok (.iconst 0, 1) := by decide +kernel
theorem dX7_areTicks_26 : decode cX7_areTicks 26 = .ok (.ireturn, 1) := by decide +kernel
theorem dX7_areTold_0 : decode cX7_areTold 0 = .ok (.iload_n 0, 1) := by decide +kernel
theorem dX7_areTold_1 : decode cX7_areTold 1 = .ok (.iload_n 1, 1) := by decide +kernel
theorem dX7_areTold_2 : decode cX7_areTold 2 = .ok (.invokestatic 121, 3) := by decide +kernel
theorem dX7_areTold_5 : decode cX7_areTold 5 = .ok (.ifCond .eq 18, 3) := by decide +kernel
theorem dX7_areTold_8 : decode cX7_areTold 8 = .ok (.iload_n 0, 1) := by decide +kernel
theorem dX7_areTold_9 : decode cX7_areTold 9 = .ok (.iload_n 2, 1) := by decide +kernel
theorem dX7_areTold_10 : decode cX7_areTold 10 = .ok (.invokestatic 232, 3) := by decide +kernel
theorem dX7_areTold_13 : decode cX7_areTold 13 = .ok (.sipush 2500, 3) := by decide +kernel
theorem dX7_areTold_16 : decode cX7_areTold 16 = .ok (.if_icmp .gt 7, 3) := by decide +kernel
theorem dX7_areTold_19 : decode cX7_areTold 19 = .ok (.iconst 1, 1) := by decide +kernel
theorem dX7_areTold_20 : decode cX7_areTold 20 = .ok (.goto 4, 3) := by decide +kernel
theorem dX7_areTold_23 : decode cX7_areTold 23 = .ok (.iconst 0, 1) := by decide +kernel
theorem dX7_areTold_24 : decode cX7_areTold 24 = .ok (.ireturn, 1) := by decide +kernel
theorem dX7_rowsOf_0 : decode cX7_rowsOf 0 = .ok (.iconst 1, 1) := by decide +kernel
theorem dX7_rowsOf_1 : decode cX7_rowsOf 1 = .ok (.istore_n 2, 1) := by decide +kernel
theorem dX7_rowsOf_2 : decode cX7_rowsOf 2 = .ok (.iconst 1, 1) := by decide +kernel
theorem dX7_rowsOf_3 : decode cX7_rowsOf 3 = .ok (.istore_n 3, 1) := by decide +kernel
theorem dX7_rowsOf_4 : decode cX7_rowsOf 4 = .ok (.iload_n 3, 1) := by decide +kernel
theorem dX7_rowsOf_5 : decode cX7_rowsOf 5 = .ok (.iload_n 1, 1) := by decide +kernel
theorem dX7_rowsOf_6 : decode cX7_rowsOf 6 = .ok (.if_icmp .ge 13, 3) := by decide +kernel
theorem dX7_rowsOf_9 : decode cX7_rowsOf 9 = .ok (.iload_n 2, 1) := by decide +kernel
theorem dX7_rowsOf_10 : decode cX7_rowsOf 10 = .ok (.iload_n 0, 1) := by decide +kernel
theorem dX7_rowsOf_11 : decode cX7_rowsOf 11 = .ok (.imul, 1) := by decide +kernel
theorem dX7_rowsOf_12 : decode cX7_rowsOf 12 = .ok (.istore_n 2, 1) := by decide +kernel
theorem dX7_rowsOf_13 : decode cX7_rowsOf 13 = .ok (.iinc 3 1, 3) := by decide +kernel
theorem dX7_rowsOf_16 : decode cX7_rowsOf 16 = .ok (.goto (-12), 3) := by decide +kernel
theorem dX7_rowsOf_19 : decode cX7_rowsOf 19 = .ok (.iload_n 2, 1) := by decide +kernel
theorem dX7_rowsOf_20 : decode cX7_rowsOf 20 = .ok (.ireturn, 1) := by decide +kernel
theorem dX7_offsetOf_0 : decode cX7_offsetOf 0 = .ok (.iload_n 0, 1) := by decide +kernel
theorem dX7_offsetOf_1 : decode cX7_offsetOf 1 = .ok (.iconst 4, 1) := by decide +kernel
theorem dX7_offsetOf_2 : decode cX7_offsetOf 2 = .ok (.iload_n 1, 1) := by decide +kernel
theorem dX7_offsetOf_3 : decode cX7_offsetOf 3 = .ok (.imul, 1) := by decide +kernel
theorem dX7_offsetOf_4 : decode cX7_offsetOf 4 = .ok (.iushr, 1) := by decide +kernel
theorem dX7_offsetOf_5 : decode cX7_offsetOf 5 = .ok (.bipush 15, 2) := by decide +kernel
theorem dX7_offsetOf_7 : decode cX7_offsetOf 7 = .ok (.iand, 1) := by decide +kernel
theorem dX7_offsetOf_8 : decode cX7_offsetOf 8 = .ok (.ireturn, 1) := by decide +kernel
theorem dX7_partOf_0 : decode cX7_partOf 0 = .ok (.aload_n 0, 1) := by decide +kernel
theorem dX7_partOf_1 : decode cX7_partOf 1 = .ok (.invokevirtual 235, 3) := by decide +kernel
theorem dX7_partOf_4 : decode cX7_partOf 4 = .ok (.ifCond .eq 7, 3) := by decide +kernel
theorem dX7_partOf_7 : decode cX7_partOf 7 = .ok (.ldc2_w 169, 3) := by decide +kernel
theorem dX7_partOf_10 : decode cX7_partOf 10 = .ok (.lreturn, 1) := by decide +kernel
theorem dX7_partOf_11 : decode cX7_partOf 11 = .ok (.aload_n 0, 1) := by decide +kernel
theorem dX7_partOf_12 : decode cX7_partOf 12 = .ok (.invokevirtual 238, 3) := by decide +kernel
theorem dX7_partOf_15 : decode cX7_partOf 15 = .ok (.iload_n 1, 1) := by decide +kernel
theorem dX7_partOf_16 : decode cX7_partOf 16 = .ok (.ifCond .ne 10, 3) := by decide +kernel
theorem dX7_partOf_19 : decode cX7_partOf 19 = .ok (.aload_n 0, 1) := by decide +kernel
theorem dX7_partOf_20 : decode cX7_partOf 20 = .ok (.getfield 241, 3) := by decide +kernel
theorem dX7_partOf_23 : decode cX7_partOf 23 = .ok (.goto 7, 3) := by decide +kernel
theorem dX7_partOf_26 : decode cX7_partOf 26 = .ok (.aload_n 0, 1) := by decide +kernel
theorem dX7_partOf_27 : decode cX7_partOf 27 = .ok (.getfield 245, 3) := by decide +kernel
theorem dX7_partOf_30 : decode cX7_partOf 30 = .ok (.lreturn, 1) := by decide +kernel
theorem dX7_aboutLeg_0 : decode cX7_aboutLeg 0 = .ok (.iload_n 1, 1) := by decide +kernel
theorem dX7_aboutLeg_1 : decode cX7_aboutLeg 1 = .ok (.bipush 10, 2) := by decide +kernel
theorem dX7_aboutLeg_3 : decode cX7_aboutLeg 3 = .ok (.irem, 1) := by decide +kernel
theorem dX7_aboutLeg_4 : decode cX7_aboutLeg 4 = .ok (.istore_n 2, 1) := by decide +kernel
theorem dX7_aboutLeg_5 : decode cX7_aboutLeg 5 = .ok (.iload_n 1, 1) := by decide +kernel
theorem dX7_aboutLeg_6 : decode cX7_aboutLeg 6 = .ok (.bipush 10, 2) := by decide +kernel
theorem dX7_aboutLeg_8 : decode cX7_aboutLeg 8 = .ok (.bipush 39, 2) := by decide +kernel
theorem dX7_aboutLeg_10 : decode cX7_aboutLeg 10 = .ok (.invokestatic 63, 3) := by decide +kernel
theorem dX7_aboutLeg_13 : decode cX7_aboutLeg 13 = .ok (.ifCond .eq 14, 3) := by decide +kernel
theorem dX7_aboutLeg_16 : decode cX7_aboutLeg 16 = .ok (.aload_n 0, 1) := by decide +kernel
theorem dX7_aboutLeg_17 : decode cX7_aboutLeg 17 = .ok (.getfield 12, 3) := by decide +kernel
theorem dX7_aboutLeg_20 : decode cX7_aboutLeg 20 = .ok (.iload_n 2, 1) := by decide +kernel
theorem dX7_aboutLeg_21 : decode cX7_aboutLeg 21 = .ok (.invokevirtual 71, 3) := by decide +kernel
theorem dX7_aboutLeg_24 : decode cX7_aboutLeg 24 = .ok (.ifCond .ne 6, 3) := by decide +kernel
theorem dX7_aboutLeg_27 : decode cX7_aboutLeg 27 = .ok (.bipush (-100), 2) := by decide +kernel
theorem dX7_aboutLeg_29 : decode cX7_aboutLeg 29 = .ok (.ireturn, 1) := by decide +kernel
theorem dX7_aboutLeg_30 : decode cX7_aboutLeg 30 = .ok (.iload_n 1, 1) := by decide +kernel
theorem dX7_aboutLeg_31 : decode cX7_aboutLeg 31 = .ok (.bipush 20, 2) := by decide +kernel
theorem dX7_aboutLeg_33 : decode cX7_aboutLeg 33 = .ok (.if_icmp .ge 15, 3) := by decide +kernel
theorem dX7_aboutLeg_36 : decode cX7_aboutLeg 36 = .ok (.aload_n 0, 1) := by decide +kernel
theorem dX7_aboutLeg_37 : decode cX7_aboutLeg 37 = .ok (.getfield 12, 3) := by decide +kernel
theorem dX7_aboutLeg_40 : decode cX7_aboutLeg 40 = .ok (.getfield 83, 3) := by decide +kernel
theorem dX7_aboutLeg_43 : decode cX7_aboutLeg 43 = .ok (.iload_n 2, 1) := by decide +kernel
theorem dX7_aboutLeg_44 : decode cX7_aboutLeg 44 = .ok (.invokevirtual 145, 3) := by decide +kernel
theorem dX7_aboutLeg_47 : decode cX7_aboutLeg 47 = .ok (.ireturn, 1) := by decide +kernel
theorem dX7_aboutLeg_48 : decode cX7_aboutLeg 48 = .ok (.iload_n 1, 1) := by decide +kernel
theorem dX7_aboutLeg_49 : decode cX7_aboutLeg 49 = .ok (.bipush 30, 2) := by decide +kernel
theorem dX7_aboutLeg_51 : decode cX7_aboutLeg 51 = .ok (.if_icmp .ge 15, 3) := by decide +kernel
theorem dX7_aboutLeg_54 : decode cX7_aboutLeg 54 = .ok (.aload_n 0, 1) := by decide +kernel
theorem dX7_aboutLeg_55 : decode cX7_aboutLeg 55 = .ok (.getfield 12, 3) := by decide +kernel
theorem dX7_aboutLeg_58 : decode cX7_aboutLeg 58 = .ok (.getfield 89, 3) := by decide +kernel
theorem dX7_aboutLeg_61 : decode cX7_aboutLeg 61 = .ok (.iload_n 2, 1) := by decide +kernel
theorem dX7_aboutLeg_62 : decode cX7_aboutLeg 62 = .ok (.invokevirtual 145, 3) := by decide +kernel
theorem dX7_aboutLeg_65 : decode cX7_aboutLeg 65 = .ok (.ireturn, 1) := by decide +kernel
theorem dX7_aboutLeg_66 : decode cX7_aboutLeg 66 = .ok (.aload_n 0, 1) := by decide +kernel
theorem dX7_aboutLeg_67 : decode cX7_aboutLeg 67 = .ok (.getfield 12, 3) := by decide +kernel
theorem dX7_aboutLeg_70 : decode cX7_aboutLeg 70 = .ok (.iload_n 2, 1) := by decide +kernel
theorem dX7_aboutLeg_71 : decode cX7_aboutLeg 71 = .ok (.invokevirtual 248, 3) := by decide +kernel
theorem dX7_aboutLeg_74 : decode cX7_aboutLeg 74 = .ok (.istore_n 3, 1) := by decide +kernel
theorem dX7_aboutLeg_75 : decode cX7_aboutLeg 75 = .ok (.iload_n 3, 1) := by decide +kernel
theorem dX7_aboutLeg_76 : decode cX7_aboutLeg 76 = .ok (.iconst (-1), 1) := by decide +kernel
theorem dX7_aboutLeg_77 : decode cX7_aboutLeg 77 = .ok (.if_icmp .ne 8, 3) := by decide +kernel
theorem dX7_aboutLeg_80 : decode cX7_aboutLeg 80 = .ok (.bipush (-100), 2) := by decide +kernel
theorem dX7_aboutLeg_82 : decode cX7_aboutLeg 82 = .ok (.goto 4, 3) := by decide +kernel
theorem dX7_aboutLeg_85 : decode cX7_aboutLeg 85 = .ok (.iload_n 3, 1) := by decide +kernel
theorem dX7_aboutLeg_86 : decode cX7_aboutLeg 86 = .ok (.ireturn, 1) := by decide +kernel
theorem dX7_tryOut_0 : decode cX7_tryOut 0 = .ok (.aload_n 0, 1) := by decide +kernel
theorem dX7_tryOut_1 : decode cX7_tryOut 1 = .ok (.getfield 40, 3) := by decide +kernel
theorem dX7_tryOut_4 : decode cX7_tryOut 4 = .ok (.aload_n 0, 1) := by decide +kernel
theorem dX7_tryOut_5 : decode cX7_tryOut 5 = .ok (.getfield 12, 3) := by decide +kernel
theorem dX7_tryOut_8 : decode cX7_tryOut 8 = .ok (.invokevirtual 185, 3) := by decide +kernel
theorem dX7_tryOut_11 : decode cX7_tryOut 11 = .ok (.aload_n 0, 1) := by decide +kernel
theorem dX7_tryOut_12 : decode cX7_tryOut 12 = .ok (.getfield 34, 3) := by decide +kernel
theorem dX7_tryOut_15 : decode cX7_tryOut 15 = .ok (.invokevirtual 251, 3) := by decide +kernel
theorem dX7_tryOut_18 : decode cX7_tryOut 18 = .ok (.return_, 1) := by decide +kernel
theorem dX7_countRows_0 : decode cX7_countRows 0 = .ok (.iload_n 1, 1) := by decide +kernel
theorem dX7_countRows_1 : decode cX7_countRows 1 = .ok (.iload_n 2, 1) := by decide +kernel
theorem dX7_countRows_2 : decode cX7_countRows 2 = .ok (.aload_n 0, 1) := by decide +kernel
theorem dX7_countRows_3 : decode cX7_countRows 3 = .ok (.getfield 40, 3) := by decide +kernel
theorem dX7_countRows_6 : decode cX7_countRows 6 = .ok (.getfield 124, 3) := by decide +kernel
theorem dX7_countRows_9 : decode cX7_countRows 9 = .ok (.invokestatic 191, 3) := by decide +kernel
theorem dX7_countRows_12 : decode cX7_countRows 12 = .ok (.ifCond .ne 5, 3) := by decide +kernel
theorem dX7_countRows_15 : decode cX7_countRows 15 = .ok (.iconst (-1), 1) := by decide +kernel
theorem dX7_countRows_16 : decode cX7_countRows 16 = .ok (.ireturn, 1) := by decide +kernel
theorem dX7_countRows_17 : decode cX7_countRows 17 = .ok (.aload_n 0, 1) := by decide +kernel
theorem dX7_countRows_18 : decode cX7_countRows 18 = .ok (.getfield 26, 3) := by decide +kernel
theorem dX7_countRows_21 : decode cX7_countRows 21 = .ok (.iload_n 1, 1) := by decide +kernel
theorem dX7_countRows_22 : decode cX7_countRows 22 = .ok (.iload_n 2, 1) := by decide +kernel
theorem dX7_countRows_23 : decode cX7_countRows 23 = .ok (.invokevirtual 194, 3) := by decide +kernel
theorem dX7_countRows_26 : decode cX7_countRows 26 = .ok (.istore_n 3, 1) := by decide +kernel
theorem dX7_countRows_27 : decode cX7_countRows 27 = .ok (.iconst 0, 1) := by decide +kernel
theorem dX7_countRows_28 : decode cX7_countRows 28 = .ok (.istore 4, 2) := by decide +kernel
theorem dX7_countRows_30 : decode cX7_countRows 30 = .ok (.iconst 0, 1) := by decide +kernel
theorem dX7_countRows_31 : decode cX7_countRows 31 = .ok (.istore 5, 2) := by decide +kernel
theorem dX7_countRows_33 : decode cX7_countRows 33 = .ok (.iload 5, 2) := by decide +kernel
theorem dX7_countRows_35 : decode cX7_countRows 35 = .ok (.iload_n 3, 1) := by decide +kernel
theorem dX7_countRows_36 : decode cX7_countRows 36 = .ok (.if_icmp .ge 29, 3) := by decide +kernel
theorem dX7_countRows_39 : decode cX7_countRows 39 = .ok (.aload_n 0, 1) := by decide +kernel
theorem dX7_countRows_40 : decode cX7_countRows 40 = .ok (.getfield 34, 3) := by decide +kernel
theorem dX7_countRows_43 : decode cX7_countRows 43 = .ok (.invokevirtual 160, 3) := by decide +kernel
theorem dX7_countRows_46 : decode cX7_countRows 46 = .ok (.ifCond .eq 6, 3) := by decide +kernel
theorem dX7_countRows_49 : decode cX7_countRows 49 = .ok (.iinc 4 1, 3) := by decide +kernel
theorem dX7_countRows_52 : decode cX7_countRows 52 = .ok (.aload_n 0, 1) := by decide +kernel
theorem dX7_countRows_53 : decode cX7_countRows 53 = .ok (.getfield 26, 3) := by decide +kernel
theorem dX7_countRows_56 : decode cX7_countRows 56 = .ok (.invokevirtual 200, 3) := by decide +kernel
theorem dX7_countRows_59 : decode cX7_countRows 59 = .ok (.iinc 5 1, 3) := by decide +kernel
theorem dX7_countRows_62 : decode cX7_countRows 62 = .ok (.goto (-29), 3) := by decide +kernel
theorem dX7_countRows_65 : decode cX7_countRows 65 = .ok (.iload 4, 2) := by decide +kernel
theorem dX7_countRows_67 : decode cX7_countRows 67 = .ok (.ireturn, 1) := by decide +kernel
theorem dX7_goFurther_0 : decode cX7_goFurther 0 = .ok (.iconst 0, 1) := by decide +kernel
theorem dX7_goFurther_1 : decode cX7_goFurther 1 = .ok (.istore_n 3, 1) := by decide +kernel
theorem dX7_goFurther_2 : decode cX7_goFurther 2 = .ok (.aload_n 0, 1) := by decide +kernel
theorem dX7_goFurther_3 : decode cX7_goFurther 3 = .ok (.getfield 40, 3) := by decide +kernel
theorem dX7_goFurther_6 : decode cX7_goFurther 6 = .ok (.invokevirtual 111, 3) := by decide +kernel
theorem dX7_goFurther_9 : decode cX7_goFurther 9 = .ok (.istore 4, 2) := by decide +kernel
theorem dX7_goFurther_11 : decode cX7_goFurther 11 = .ok (.iconst 0, 1) := by decide +kernel
theorem dX7_goFurther_12 : decode cX7_goFurther 12 = .ok (.istore 5, 2) := by decide +kernel
theorem dX7_goFurther_14 : decode cX7_goFurther 14 = .ok (.iload 5, 2) := by decide +kernel
theorem dX7_goFurther_16 : decode cX7_goFurther 16 = .ok (.iload 4, 2) := by decide +kernel
theorem dX7_goFurther_18 : decode cX7_goFurther 18 = .ok (.if_icmp .gt 37, 3) := by decide +kernel
theorem dX7_goFurther_21 : decode cX7_goFurther 21 = .ok (.aload_n 0, 1) := by decide +kernel
theorem dX7_goFurther_22 : decode cX7_goFurther 22 = .ok (.getfield 55, 3) := by decide +kernel
theorem dX7_goFurther_25 : decode cX7_goFurther 25 = .ok (.iload 5, 2) := by decide +kernel
theorem dX7_goFurther_27 : decode cX7_goFurther 27 = .ok (.invokevirtual 145, 3) := by decide +kernel
theorem dX7_goFurther_30 : decode cX7_goFurther 30 = .ok (.iload_n 1, 1) := by decide +kernel
theorem dX7_goFurther_31 : decode cX7_goFurther 31 = .ok (.if_icmp .ne 18, 3) := by decide +kernel
theorem dX7_goFurther_34 : decode cX7_goFurther 34 = .ok (.aload_n 0, 1) := by decide +kernel
theorem dX7_goFurther_35 : decode cX7_goFurther 35 = .ok (.iload 5, 2) := by decide +kernel
theorem dX7_goFurther_37 : decode cX7_goFurther 37 = .ok (.iload_n 1, 1) := by decide +kernel
theorem dX7_goFurther_38 : decode cX7_goFurther 38 = .ok (.iconst 1, 1) := by decide +kernel
theorem dX7_goFurther_39 : decode cX7_goFurther 39 = .ok (.iadd, 1) := by decide +kernel
theorem dX7_goFurther_40 : decode cX7_goFurther 40 = .ok (.iload_n 2, 1) := by decide +kernel
theorem dX7_goFurther_41 : decode cX7_goFurther 41 = .ok (.invokevirtual 254, 3) := by decide +kernel
theorem dX7_goFurther_44 : decode cX7_goFurther 44 = .ok (.ifCond .eq 5, 3) := by decide +kernel
theorem dX7_goFurther_47 : decode cX7_goFurther 47 = .ok (.iconst 1, 1) := by decide +kernel
theorem dX7_goFurther_48 : decode cX7_goFurther 48 = .ok (.istore_n 3, 1) := by decide +kernel
theorem dX7_goFurther_49 : decode cX7_goFurther 49 = .ok (.iinc 5 1, 3) := by decide +kernel
theorem dX7_goFurther_52 : decode cX7_goFurther 52 = .ok (.goto (-38), 3) := by decide +kernel
theorem dX7_goFurther_55 : decode cX7_goFurther 55 = .ok (.iload_n 3, 1) := by decide +kernel
theorem dX7_goFurther_56 : decode cX7_goFurther 56 = .ok (.ireturn, 1) := by decide +kernel
theorem dX7_reachFrom_0 : decode cX7_reachFrom 0 = .ok (.iconst 0, 1) := by decide +kernel
theorem dX7_reachFrom_1 : decode cX7_reachFrom 1 = .ok (.istore 4, 2) := by decide +kernel
theorem dX7_reachFrom_3 : decode cX7_reachFrom 3 = .ok (.aload_n 0, 1) := by decide +kernel
theorem dX7_reachFrom_4 : decode cX7_reachFrom 4 = .ok (.getfield 40, 3) := by decide +kernel
theorem dX7_reachFrom_7 : decode cX7_reachFrom 7 = .ok (.invokevirtual 111, 3) := by decide +kernel
theorem dX7_reachFrom_10 : decode cX7_reachFrom 10 = .ok (.istore 5, 2) := by decide +kernel
theorem dX7_reachFrom_12 : decode cX7_reachFrom 12 = .ok (.iconst 0, 1) := by decide +kernel
theorem dX7_reachFrom_13 : decode cX7_reachFrom 13 = .ok (.istore 6, 2) := by decide +kernel
theorem dX7_reachFrom_15 : decode cX7_reachFrom 15 = .ok (.iload 6, 2) := by decide +kernel
theorem dX7_reachFrom_17 : decode cX7_reachFrom 17 = .ok (.iload 5, 2) := by decide +kernel
theorem dX7_reachFrom_19 : decode cX7_reachFrom 19 = .ok (.if_icmp .gt 58, 3) := by decide +kernel
theorem dX7_reachFrom_22 : decode cX7_reachFrom 22 = .ok (.aload_n 0, 1) := by decide +kernel
theorem dX7_reachFrom_23 : decode cX7_reachFrom 23 = .ok (.getfield 55, 3) := by decide +kernel
theorem dX7_reachFrom_26 : decode cX7_reachFrom 26 = .ok (.iload 6, 2) := by decide +kernel
theorem dX7_reachFrom_28 : decode cX7_reachFrom 28 = .ok (.invokevirtual 145, 3) := by decide +kernel
theorem dX7_reachFrom_31 : decode cX7_reachFrom 31 = .ok (.iconst (-1), 1) := by decide +kernel
theorem dX7_reachFrom_32 : decode cX7_reachFrom 32 = .ok (.if_icmp .ne 39, 3) := by decide +kernel
theorem dX7_reachFrom_35 : decode cX7_reachFrom 35 = .ok (.aload_n 0, 1) := by decide +kernel
theorem dX7_reachFrom_36 : decode cX7_reachFrom 36 = .ok (.getfield 34, 3) := by decide +kernel
theorem dX7_reachFrom_39 : decode cX7_reachFrom 39 = .ok (.iload 6, 2) := by decide +kernel
theorem dX7_reachFrom_41 : decode cX7_reachFrom 41 = .ok (.invokevirtual 223, 3) := by decide +kernel
theorem dX7_reachFrom_44 : decode cX7_reachFrom 44 = .ok (.ifCond .eq 27, 3) := by decide +kernel
theorem dX7_reachFrom_47 : decode cX7_reachFrom 47 = .ok (.iload_n 1, 1) := by decide +kernel
theorem dX7_reachFrom_48 : decode cX7_reachFrom 48 = .ok (.iload 6, 2) := by decide +kernel
theorem dX7_reachFrom_50 : decode cX7_reachFrom 50 = .ok (.ixor, 1) := by decide +kernel
theorem dX7_reachFrom_51 : decode cX7_reachFrom 51 = .ok (.invokestatic 257, 3) := by decide +kernel
theorem dX7_reachFrom_54 : decode cX7_reachFrom 54 = .ok (.iload_n 3, 1) := by decide +kernel
theorem dX7_reachFrom_55 : decode cX7_reachFrom 55 = .ok (.if_icmp .gt 16, 3) := by decide +kernel
theorem dX7_reachFrom_58 : decode cX7_reachFrom 58 = .ok (.aload_n 0, 1) := by decide +kernel
theorem dX7_reachFrom_59 : decode cX7_reachFrom 59 = .ok (.getfield 55, 3) := by decide +kernel
theorem dX7_reachFrom_62 : decode cX7_reachFrom 62 = .ok (.iload 6, 2) := by decide +kernel
theorem dX7_reachFrom_64 : decode cX7_reachFrom 64 = .ok (.iload_n 2, 1) := by decide +kernel
theorem dX7_reachFrom_65 : decode cX7_reachFrom 65 = .ok (.invokevirtual 86, 3) := by decide +kernel
theorem dX7_reachFrom_68 : decode cX7_reachFrom 68 = .ok (.iconst 1, 1) := by decide +kernel
theorem dX7_reachFrom_69 : decode cX7_reachFrom 69 = .ok (.istore 4, 2) := by decide +kernel
theorem dX7_reachFrom_71 : decode cX7_reachFrom 71 = .ok (.iinc 6 1, 3) := by decide +kernel
theorem dX7_reachFrom_74 : decode cX7_reachFrom 74 = .ok (.goto (-59), 3) := by decide +kernel
theorem dX7_reachFrom_77 : decode cX7_reachFrom 77 = .ok (.iload 4, 2) := by decide +kernel
theorem dX7_reachFrom_79 : decode cX7_reachFrom 79 = .ok (.ireturn, 1) := by decide +kernel
theorem dX8_init_0 : decode cX8_init 0 = .ok (.aload_n 0, 1) := by decide +kernel
theorem dX8_init_1 : decode cX8_init 1 = .ok (.invokespecial 1, 3) := by decide +kernel
theorem dX8_init_4 : decode cX8_init 4 = .ok (.aload_n 0, 1) := by decide +kernel
theorem dX8_init_5 : decode cX8_init 5 = .ok (.bipush 48, 2) := by decide +kernel
theorem dX8_init_7 : decode cX8_init 7 = .ok (.newarray .int, 2) := by decide +kernel
theorem dX8_init_9 : decode cX8_init 9 = .ok (.putfield 7, 3) := by decide +kernel
theorem dX8_init_12 : decode cX8_init 12 = .ok (.aload_n 0, 1) := by decide +kernel
theorem dX8_init_13 : decode cX8_init 13 = .ok (.sipush 384, 3) := by decide +kernel
theorem dX8_init_16 : decode cX8_init 16 = .ok (.newarray .int, 2) := by decide +kernel
theorem dX8_init_18 : decode cX8_init 18 = .ok (.putfield 13, 3) := by decide +kernel
theorem dX8_init_21 : decode cX8_init 21 = .ok (.aload_n 0, 1) := by decide +kernel
theorem dX8_init_22 : decode cX8_init 22 = .ok (.bipush 8, 2) := by decide +kernel
theorem dX8_init_24 : decode cX8_init 24 = .ok (.newarray .int, 2) := by decide +kernel
theorem dX8_init_26 : decode cX8_init 26 = .ok (.putfield 16, 3) := by decide +kernel
theorem dX8_init_29 : decode cX8_init 29 = .ok (.aload_n 0, 1) := by decide +kernel
theorem dX8_init_30 : decode cX8_init 30 = .ok (.bipush 8, 2) := by decide +kernel
theorem dX8_init_32 : decode cX8_init 32 = .ok (.newarray .int, 2) := by decide +kernel
theorem dX8_init_34 : decode cX8_init 34 = .ok (.putfield 19, 3) := by decide +kernel
theorem dX8_init_37 : decode cX8_init 37 = .ok (.aload_n 0, 1) := by decide +kernel
theorem dX8_init_38 : decode cX8_init 38 = .ok (.bipush 48, 2) := by decide +kernel
theorem dX8_init_40 : decode cX8_init 40 = .ok (.newarray .int, 2) := by decide +kernel
theorem dX8_init_42 : decode cX8_init 42 = .ok (.putfield 22, 3) := by decide +kernel
theorem dX8_init_45 : decode cX8_init 45 = .ok (.aload_n 0, 1) := by decide +kernel
theorem dX8_init_46 : decode cX8_init 46 = .ok (.bipush 8, 2) := by decide +kernel
theorem dX8_init_48 : decode cX8_init 48 = .ok (.newarray .int, 2) := by decide +kernel
theorem dX8_init_50 : decode cX8_init 50 = .ok (.putfield 25, 3) := by decide +kernel
theorem dX8_init_53 : decode cX8_init 53 = .ok (.aload_n 0, 1) := by decide +kernel
theorem dX8_init_54 : decode cX8_init 54 = .ok (.sipush 256, 3) := by decide +kernel
theorem dX8_init_57 : decode cX8_init 57 = .ok (.newarray .int, 2) := by decide +kernel
theorem dX8_init_59 : decode cX8_init 59 = .ok (.putfield 28, 3) := by decide +kernel
theorem dX8_init_62 : decode cX8_init 62 = .ok (.aload_n 0, 1) := by decide +kernel
theorem dX8_init_63 : decode cX8_init 63 = .ok (.sipush 256, 3) := by decide +kernel
theorem dX8_init_66 : decode cX8_init 66 = .ok (.newarray .int, 2) := by decide +kernel
theorem dX8_init_68 : decode cX8_init 68 = .ok (.putfield 31, 3) := by decide +kernel
theorem dX8_init_71 : decode cX8_init 71 = .ok (.return_, 1) := by decide +kernel
theorem dX8_begins_0 : decode cX8_begins 0 = .ok (.aload_n 0, 1) := by decide +kernel
theorem dX8_begins_1 : decode cX8_begins 1 = .ok (.getfield 38, 3) := by decide +kernel
theorem dX8_begins_4 : decode cX8_begins 4 = .ok (.ifCond .eq 4, 3) := by decide +kernel
theorem dX8_begins_7 : decode cX8_begins 7 = .ok (.return_, 1) := by decide +kernel
theorem dX8_begins_8 : decode cX8_begins 8 = .ok (.aload_n 0, 1) := by decide +kernel
theorem dX8_begins_9 : decode cX8_begins 9 = .ok (.iconst 1, 1) := by decide +kernel
theorem dX8_begins_10 : decode cX8_begins 10 = .ok (.putfield 38, 3) := by decide +kernel
theorem dX8_begins_13 : decode cX8_begins 13 = .ok (.aload_n 0, 1) := by decide +kernel
theorem dX8_begins_14 : decode cX8_begins 14 = .ok (.iconst 4, 1) := by decide +kernel
theorem dX8_begins_15 : decode cX8_begins 15 = .ok (.iconst 0, 1) := by decide +kernel
theorem dX8_begins_16 : decode cX8_begins 16 = .ok (.invokevirtual 42, 3) := by decide +kernel
theorem dX8_begins_19 : decode cX8_begins 19 = .ok (.return_, 1) := by decide +kernel
theorem dX8_lays_0 : decode cX8_lays 0 = .ok (.iconst 0, 1) := by decide +kernel
theorem dX8_lays_1 : decode cX8_lays 1 = .ok (.istore_n 3, 1) := by decide +kernel
theorem dX8_lays_2 : decode cX8_lays 2 = .ok (.iload_n 3, 1) := by decide +kernel
theorem dX8_lays_3 : decode cX8_lays 3 = .ok (.bipush 48, 2) := by decide +kernel
theorem dX8_lays_5 : decode cX8_lays 5 = .ok (.if_icmp .ge 16, 3) := by decide +kernel
theorem dX8_lays_8 : decode cX8_lays 8 = .ok (.aload_n 0, 1) := by decide +kernel
theorem dX8_lays_9 : decode cX8_lays 9 = .ok (.getfield 7, 3) := by decide +kernel
theorem dX8_lays_12 : decode cX8_lays 12 = .ok (.iload_n 3, 1) := by decide +kernel
theorem dX8_lays_13 : decode cX8_lays 13 = .ok (.iconst 0, 1) := by decide +kernel
theorem dX8_lays_14 : decode cX8_lays 14 = .ok (.iastore, 1) := by decide +kernel
theorem dX8_lays_15 : decode cX8_lays 15 = .ok (.iinc 3 1, 3) := by decide +kernel
theorem dX8_lays_18 : decode cX8_lays 18 = .ok (.goto (-16), 3) := by decide +kernel
theorem dX8_lays_21 : decode cX8_lays 21 = .ok (.aload_n 0, 1) := by decide +kernel
theorem dX8_lays_22 : decode cX8_lays 22 = .ok (.getfield 7, 3) := by decide +kernel
theorem dX8_lays_25 : decode cX8_lays 25 = .ok (.iconst 0, 1) := by decide +kernel
theorem dX8_lays_26 : decode cX8_lays 26 = .ok (.iload_n 1, 1) := by decide +kernel
theorem dX8_lays_27 : decode cX8_lays 27 = .ok (.iastore, 1) := by decide +kernel
theorem dX8_lays_28 : decode cX8_lays 28 = .ok (.aload_n 0, 1) := by decide +kernel
theorem dX8_lays_29 : decode cX8_lays 29 = .ok (.getfield 7, 3) := by decide +kernel
theorem dX8_lays_32 : decode cX8_lays 32 = .ok (.iconst 1, 1) := by decide +kernel
theorem dX8_lays_33 : decode cX8_lays 33 = .ok (.iload_n 2, 1) := by decide +kernel
theorem dX8_lays_34 : decode cX8_lays 34 = .ok (.iastore, 1) := by decide +kernel
theorem dX8_lays_35 : decode cX8_lays 35 = .ok (.aload_n 0, 1) := by decide +kernel
theorem dX8_lays_36 : decode cX8_lays 36 = .ok (.getfield 7, 3) := by decide +kernel
theorem dX8_lays_39 : decode cX8_lays 39 = .ok (.iconst 3, 1) := by decide +kernel
theorem dX8_lays_40 : decode cX8_lays 40 = .ok (.bipush 10, 2) := by decide +kernel
theorem dX8_lays_42 : decode cX8_lays 42 = .ok (.iastore, 1) := by decide +kernel
theorem dX8_lays_43 : decode cX8_lays 43 = .ok (.aload_n 0, 1) := by decide +kernel
theorem dX8_lays_44 : decode cX8_lays 44 = .ok (.getfield 7, 3) := by decide +kernel
theorem dX8_lays_47 : decode cX8_lays 47 = .ok (.iconst 5, 1) := by decide +kernel
theorem dX8_lays_48 : decode cX8_lays 48 = .ok (.iconst 2, 1) := by decide +kernel
theorem dX8_lays_49 : decode cX8_lays 49 = .ok (.iload_n 1, 1) := by decide +kernel
theorem dX8_lays_50 : decode cX8_lays 50 = .ok (.iconst 1, 1) := by decide +kernel
theorem dX8_lays_51 : decode cX8_lays 51 = .ok (.iadd, 1) := by decide +kernel
theorem dX8_lays_52 : decode cX8_lays 52 = .ok (.iconst 2, 1) := by decide +kernel
theorem dX8_lays_53 : decode cX8_lays 53 = .ok (.idiv, 1) := by decide +kernel
theorem dX8_lays_54 : decode cX8_lays 54 = .ok (.iconst 1, 1) := by decide +kernel
theorem dX8_lays_55 : decode cX8_lays 55 = .ok (.isub, 1) := by decide +kernel
theorem dX8_lays_56 : decode cX8_lays 56 = .ok (.imul, 1) := by decide +kernel
theorem dX8_lays_57 : decode cX8_lays 57 = .ok (.iastore, 1) := by decide +kernel
theorem dX8_lays_58 : decode cX8_lays 58 = .ok (.aload_n 0, 1) := by decide +kernel
theorem dX8_lays_59 : decode cX8_lays 59 = .ok (.getfield 7, 3) := by decide +kernel
theorem dX8_lays_62 : decode cX8_lays 62 = .ok (.bipush 6, 2) := by decide +kernel
theorem dX8_lays_64 : decode cX8_lays 64 = .ok (.iconst 1, 1) := by decide +kernel
theorem dX8_lays_65 : decode cX8_lays 65 = .ok (.iastore, 1) := by decide +kernel
theorem dX8_lays_66 : decode cX8_lays 66 = .ok (.iconst 0, 1) := by decide +kernel
theorem dX8_lays_67 : decode cX8_lays 67 = .ok (.istore_n 3, 1) := by decide +kernel
theorem dX8_lays_68 : decode cX8_lays 68 = .ok (.iload_n 3, 1) := by decide +kernel
theorem dX8_lays_69 : decode cX8_lays 69 = .ok (.iload_n 1, 1) := by decide +kernel
theorem dX8_lays_70 : decode cX8_lays 70 = .ok (.if_icmp .ge 44, 3) := by decide +kernel
theorem dX8_lays_73 : decode cX8_lays 73 = .ok (.aload_n 0, 1) := by decide +kernel
theorem dX8_lays_74 : decode cX8_lays 74 = .ok (.getfield 7, 3) := by decide +kernel
theorem dX8_lays_77 : decode cX8_lays 77 = .ok (.bipush 7, 2) := by decide +kernel
theorem dX8_lays_79 : decode cX8_lays 79 = .ok (.iload_n 3, 1) := by decide +kernel
theorem dX8_lays_80 : decode cX8_lays 80 = .ok (.iadd, 1) := by decide +kernel
theorem dX8_lays_81 : decode cX8_lays 81 = .ok (.iload_n 3, 1) := by decide +kernel
theorem dX8_lays_82 : decode cX8_lays 82 = .ok (.iconst 2, 1) := by decide +kernel
theorem dX8_lays_83 : decode cX8_lays 83 = .ok (.irem, 1) := by decide +kernel
theorem dX8_lays_84 : decode cX8_lays 84 = .ok (.ifCond .ne 8, 3) := by decide +kernel
theorem dX8_lays_87 : decode cX8_lays 87 = .ok (.bipush (-3), 2) := by decide +kernel
theorem dX8_lays_89 : decode cX8_lays 89 = .ok (.goto 4, 3) := by decide +kernel
theorem dX8_lays_92 : decode cX8_lays 92 = .ok (.iconst 3, 1) := by decide +kernel
theorem dX8_lays_93 : decode cX8_lays 93 = .ok (.iastore, 1) := by decide +kernel
theorem dX8_lays_94 : decode cX8_lays 94 = .ok (.aload_n 0, 1) := by decide +kernel
theorem dX8_lays_95 : decode cX8_lays 95 = .ok (.getfield 7, 3) := by decide +kernel
theorem dX8_lays_98 : decode cX8_lays 98 = .ok (.bipush 15, 2) := by decide +kernel
theorem dX8_lays_100 : decode cX8_lays 100 = .ok (.iload_n 3, 1) := by decide +kernel
theorem dX8_lays_101 : decode cX8_lays 101 = .ok (.iadd, 1) := by decide +kernel
theorem dX8_lays_102 : decode cX8_lays 102 = .ok (.iconst 4, 1) := by decide +kernel
theorem dX8_lays_103 : decode cX8_lays 103 = .ok (.iload_n 3, 1) := by decide +kernel
theorem dX8_lays_104 : decode cX8_lays 104 = .ok (.iconst 2, 1) := by decide +kernel
theorem dX8_lays_105 : decode cX8_lays 105 = .ok (.idiv, 1) := by decide +kernel
theorem dX8_lays_106 : decode cX8_lays 106 = .ok (.imul, 1) := by decide +kernel
theorem dX8_lays_107 : decode cX8_lays 107 = .ok (.iastore, 1) := by decide +kernel
theorem dX8_lays_108 : decode cX8_lays 108 = .ok (.iinc 3 1, 3) := by decide +kernel
theorem dX8_lays_111 : decode cX8_lays 111 = .ok (.goto (-43), 3) := by decide +kernel
theorem dX8_lays_114 : decode cX8_lays 114 = .ok (.aload_n 0, 1) := by decide +kernel
theorem dX8_lays_115 : decode cX8_lays 115 = .ok (.getfield 7, 3) := by decide +kernel
theorem dX8_lays_118 : decode cX8_lays 118 = .ok (.bipush 23, 2) := by decide +kernel
theorem dX8_lays_120 : decode cX8_lays 120 = .ok (.iconst 1, 1) := by decide +kernel
theorem dX8_lays_121 : decode cX8_lays 121 = .ok (.iload_n 1, 1) := by decide +kernel
theorem dX8_lays_122 : decode cX8_lays 122 = .ok (.ishl, 1) := by decide +kernel
theorem dX8_lays_123 : decode cX8_lays 123 = .ok (.iconst 1, 1) := by decide +kernel
theorem dX8_lays_124 : decode cX8_lays 124 = .ok (.isub, 1) := by decide +kernel
theorem dX8_lays_125 : decode cX8_lays 125 = .ok (.iastore, 1) := by decide +kernel
theorem dX8_lays_126 : decode cX8_lays 126 = .ok (.return_, 1) := by decide +kernel
theorem dX8_keep_0 : decode cX8_keep 0 = .ok (.aload_n 0, 1) := by decide +kernel
theorem dX8_keep_1 : decode cX8_keep 1 = .ok (.getfield 46, 3) := by decide +kernel
theorem dX8_keep_4 : decode cX8_keep 4 = .ok (.bipush 8, 2) := by decide +kernel
theorem dX8_keep_6 : decode cX8_keep 6 = .ok (.if_icmp .ne 39, 3) := by decide +kernel
theorem dX8_keep_9 : decode cX8_keep 9 = .ok (.iconst 0, 1) := by decide +kernel
theorem dX8_keep_10 : decode cX8_keep 10 = .ok (.istore_n 1, 1) := by decide +kernel
theorem dX8_keep_11 : decode cX8_keep 11 = .ok (.iload_n 1, 1) := by decide +kernel
theorem dX8_keep_12 : decode cX8_keep 12 = .ok (.sipush 336, 3) := by decide +kernel
theorem dX8_keep_15 : decode cX8_keep 15 = .ok (.if_icmp .ge 24, 3) := by decide +kernel
theorem dX8_keep_18 : decode cX8_keep 18 = .ok (.aload_n 0, 1) := by decide +kernel
theorem dX8_keep_19 : decode cX8_keep 19 = .ok (.getfield 13, 3) := by decide +kernel
theorem dX8_keep_22 : decode cX8_keep 22 = .ok (.iload_n 1, 1) := by decide +kernel
theorem dX8_keep_23 : decode cX8_keep 23 = .ok (.aload_n 0, 1) := by decide +kernel
theorem dX8_keep_24 : decode cX8_keep 24 = .ok (.getfield 13, 3) := by decide +kernel
theorem dX8_keep_27 : decode cX8_keep 27 = .ok (.iload_n 1, 1) := by decide +kernel
theorem dX8_keep_28 : decode cX8_keep 28 = .ok (.bipush 48, 2) := by decide +kernel
theorem dX8_keep_30 : decode cX8_keep 30 = .ok (.iadd, 1) := by decide +kernel
theorem dX8_keep_31 : decode cX8_keep 31 = .ok (.iaload, 1) := by decide +kernel
theorem dX8_keep_32 : decode cX8_keep 32 = .ok (.iastore, 1) := by decide +kernel
theorem dX8_keep_33 : decode cX8_keep 33 = .ok (.iinc 1 1, 3) := by decide +kernel
theorem dX8_keep_36 : decode cX8_keep 36 = .ok (.goto (-25), 3) := by decide +kernel
theorem dX8_keep_39 : decode cX8_keep 39 = .ok (.aload_n 0, 1) := by decide +kernel
theorem dX8_keep_40 : decode cX8_keep 40 = .ok (.bipush 7, 2) := by decide +kernel
theorem dX8_keep_42 : decode cX8_keep 42 = .ok (.putfield 46, 3) := by decide +kernel
theorem dX8_keep_45 : decode cX8_keep 45 = .ok (.iconst 0, 1) := by decide +kernel
theorem dX8_keep_46 : decode cX8_keep 46 = .ok (.istore_n 1, 1) := by decide +kernel
theorem dX8_keep_47 : decode cX8_keep 47 = .ok (.iload_n 1, 1) := by decide +kernel
theorem dX8_keep_48 : decode cX8_keep 48 = .ok (.bipush 48, 2) := by decide +kernel
theorem dX8_keep_50 : decode cX8_keep 50 = .ok (.if_icmp .ge 29, 3) := by decide +kernel
theorem dX8_keep_53 : decode cX8_keep 53 = .ok (.aload_n 0, 1) := by decide +kernel
theorem dX8_keep_54 : decode cX8_keep 54 = .ok (.getfield 13, 3) := by decide +kernel
theorem dX8_keep_57 : decode cX8_keep 57 = .ok (.aload_n 0, 1) := by decide +kernel
theorem dX8_keep_58 : decode cX8_keep 58 = .ok (.getfield 46, 3) := by decide +kernel
theorem dX8_keep_61 : decode cX8_keep 61 = .ok (.bipush 48, 2) := by decide +kernel
theorem dX8_keep_63 : decode cX8_keep 63 = .ok (.imul, 1) := by decide +kernel
theorem dX8_keep_64 : decode cX8_keep 64 = .ok (.iload_n 1, 1) := by decide +kernel
theorem dX8_keep_65 : decode cX8_keep 65 = .ok (.iadd, 1) := by decide +kernel
theorem dX8_keep_66 : decode cX8_keep 66 = .ok (.aload_n 0, 1) := by decide +kernel
theorem dX8_keep_67 : decode cX8_keep 67 = .ok (.getfield 7, 3) := by decide +kernel
theorem dX8_keep_70 : decode cX8_keep 70 = .ok (.iload_n 1, 1) := by decide +kernel
theorem dX8_keep_71 : decode cX8_keep 71 = .ok (.iaload, 1) := by decide +kernel
theorem dX8_keep_72 : decode cX8_keep 72 = .ok (.iastore, 1) := by decide +kernel
theorem dX8_keep_73 : decode cX8_keep 73 = .ok (.iinc 1 1, 3) := by decide +kernel
theorem dX8_keep_76 : decode cX8_keep 76 = .ok (.goto (-29), 3) := by decide +kernel
theorem dX8_keep_79 : decode cX8_keep 79 = .ok (.aload_n 0, 1) := by decide +kernel
theorem dX8_keep_80 : decode cX8_keep 80 = .ok (.aload_n 0, 1) := by decide +kernel
theorem dX8_keep_81 : decode cX8_keep 81 = .ok (.getfield 46, 3) := by decide +kernel
theorem dX8_keep_84 : decode cX8_keep 84 = .ok (.iconst 1, 1) := by decide +kernel
theorem dX8_keep_85 : decode cX8_keep 85 = .ok (.iadd, 1) := by decide +kernel
theorem dX8_keep_86 : decode cX8_keep 86 = .ok (.putfield 46, 3) := by decide +kernel
theorem dX8_keep_89 : decode cX8_keep 89 = .ok (.return_, 1) := by decide +kernel
theorem dX8_undo_0 : decode cX8_undo 0 = .ok (.aload_n 0, 1) := by decide +kernel
theorem dX8_undo_1 : decode cX8_undo 1 = .ok (.iconst 0, 1) := by decide +kernel
theorem dX8_undo_2 : decode cX8_undo 2 = .ok (.putfield 34, 3) := by decide +kernel
theorem dX8_undo_5 : decode cX8_undo 5 = .ok (.aload_n 0, 1) := by decide +kernel
theorem dX8_undo_6 : decode cX8_undo 6 = .ok (.invokevirtual 49, 3) := by decide +kernel
theorem dX8_undo_9 : decode cX8_undo 9 = .ok (.aload_n 0, 1) := by decide +kernel
theorem dX8_undo_10 : decode cX8_undo 10 = .ok (.getfield 46, 3) := by decide +kernel
theorem dX8_undo_13 : decode cX8_undo 13 = .ok (.ifCond .ne 5, 3) := by decide +kernel
theorem dX8_undo_16 : decode cX8_undo 16 = .ok (.iconst 0, 1) := by decide +kernel
theorem dX8_undo_17 : decode cX8_undo 17 = .ok (.ireturn, 1) := by decide +kernel
theorem dX8_undo_18 : decode cX8_undo 18 = .ok (.aload_n 0, 1) := by decide +kernel
theorem dX8_undo_19 : decode cX8_undo 19 = .ok (.aload_n 0, 1) := by decide +kernel
theorem dX8_undo_20 : decode cX8_undo 20 = .ok (.getfield 46, 3) := by decide +kernel
theorem dX8_undo_23 : decode cX8_undo 23 = .ok (.iconst 1, 1) := by decide +kernel
theorem dX8_undo_24 : decode cX8_undo 24 = .ok (.isub, 1) := by decide +kernel
theorem dX8_undo_25 : decode cX8_undo 25 = .ok (.putfield 46, 3) := by decide +kernel
theorem dX8_undo_28 : decode cX8_undo 28 = .ok (.iconst 0, 1) := by decide +kernel
theorem dX8_undo_29 : decode cX8_undo 29 = .ok (.istore_n 1, 1) := by decide +kernel
theorem dX8_undo_30 : decode cX8_undo 30 = .ok (.iload_n 1, 1) := by decide +kernel
theorem dX8_undo_31 : decode cX8_undo 31 = .ok (.bipush 48, 2) := by decide +kernel
theorem dX8_undo_33 : decode cX8_undo 33 = .ok (.if_icmp .ge 29, 3) := by decide +kernel
theorem dX8_undo_36 : decode cX8_undo 36 = .ok (.aload_n 0, 1) := by decide +kernel
theorem dX8_undo_37 : decode cX8_undo 37 = .ok (.getfield 7, 3) := by decide +kernel
theorem dX8_undo_40 : decode cX8_undo 40 = .ok (.iload_n 1, 1) := by decide +kernel
theorem dX8_undo_41 : decode cX8_undo 41 = .ok (.aload_n 0, 1) := by decide +kernel
theorem dX8_undo_42 : decode cX8_undo 42 = .ok (.getfield 13, 3) := by decide +kernel
theorem dX8_undo_45 : decode cX8_undo 45 = .ok (.aload_n 0, 1) := by decide +kernel
theorem dX8_undo_46 : decode cX8_undo 46 = .ok (.getfield 46, 3) := by decide +kernel
theorem dX8_undo_49 : decode cX8_undo 49 = .ok (.bipush 48, 2) := by decide +kernel
theorem dX8_undo_51 : decode cX8_undo 51 = .ok (.imul, 1) := by decide +kernel
theorem dX8_undo_52 : decode cX8_undo 52 = .ok (.iload_n 1, 1) := by decide +kernel
theorem dX8_undo_53 : decode cX8_undo 53 = .ok (.iadd, 1) := by decide +kernel
theorem dX8_undo_54 : decode cX8_undo 54 = .ok (.iaload, 1) := by decide +kernel
theorem dX8_undo_55 : decode cX8_undo 55 = .ok (.iastore, 1) := by decide +kernel
theorem dX8_undo_56 : decode cX8_undo 56 = .ok (.iinc 1 1, 3) := by decide +kernel
theorem dX8_undo_59 : decode cX8_undo 59 = .ok (.goto (-29), 3) := by decide +kernel
theorem dX8_undo_62 : decode cX8_undo 62 = .ok (.iconst 1, 1) := by decide +kernel
theorem dX8_undo_63 : decode cX8_undo 63 = .ok (.ireturn, 1) := by decide +kernel
theorem dX8_walker_0 : decode cX8_walker 0 = .ok (.aload_n 0, 1) := by decide +kernel
theorem dX8_walker_1 : decode cX8_walker 1 = .ok (.iconst 0, 1) := by decide +kernel
theorem dX8_walker_2 : decode cX8_walker 2 = .ok (.putfield 34, 3) := by decide +kernel
theorem dX8_walker_5 : decode cX8_walker 5 = .ok (.aload_n 0, 1) := by decide +kernel
theorem dX8_walker_6 : decode cX8_walker 6 = .ok (.invokevirtual 49, 3) := by decide +kernel
theorem dX8_walker_9 : decode cX8_walker 9 = .ok (.iload_n 1, 1) := by decide +kernel
theorem dX8_walker_10 : decode cX8_walker 10 = .ok (.iconst 2, 1) := by decide +kernel
theorem dX8_walker_11 : decode cX8_walker 11 = .ok (.if_icmp .lt 18, 3) := by decide +kernel
theorem dX8_walker_14 : decode cX8_walker 14 = .ok (.iload_n 1, 1) := by decide +kernel
theorem dX8_walker_15 : decode cX8_walker 15 = .ok (.bipush 8, 2) := by decide +kernel
theorem dX8_walker_17 : decode cX8_walker 17 = .ok (.if_icmp .gt 12, 3) := by decide +kernel
theorem dX8_walker_20 : decode cX8_walker 20 = .ok (.iload_n 2, 1) := by decide +kernel
theorem dX8_walker_21 : decode cX8_walker 21 = .ok (.ifCond .lt 8, 3) := by decide +kernel
theorem dX8_walker_24 : decode cX8_walker 24 = .ok (.iload_n 2, 1) := by decide +kernel
theorem dX8_walker_25 : decode cX8_walker 25 = .ok (.iconst 2, 1) := by decide +kernel
theorem dX8_walker_26 : decode cX8_walker 26 = .ok (.if_icmp .le 5, 3) := by decide +kernel
theorem dX8_walker_29 : decode cX8_walker 29 = .ok (.iconst 0, 1) := by decide +kernel
theorem dX8_walker_30 : decode cX8_walker 30 = .ok (.ireturn, 1) := by decide +kernel
theorem dX8_walker_31 : decode cX8_walker 31 = .ok (.aload_n 0, 1) := by decide +kernel
theorem dX8_walker_32 : decode cX8_walker 32 = .ok (.invokevirtual 52, 3) := by decide +kernel
theorem dX8_walker_35 : decode cX8_walker 35 = .ok (.aload_n 0, 1) := by decide +kernel
theorem dX8_walker_36 : decode cX8_walker 36 = .ok (.iload_n 1, 1) := by decide +kernel
theorem dX8_walker_37 : decode cX8_walker 37 = .ok (.iload_n 2, 1) := by decide +kernel
theorem dX8_walker_38 : decode cX8_walker 38 = .ok (.invokevirtual 42, 3) := by decide +kernel
theorem dX8_walker_41 : decode cX8_walker 41 = .ok (.iconst 1, 1) := by decide +kernel
theorem dX8_walker_42 : decode cX8_walker 42 = .ok (.ireturn, 1) := by decide +kernel
theorem dX8_isLeg_0 : decode cX8_isLeg 0 = .ok (.iload_n 1, 1) := by decide +kernel
theorem dX8_isLeg_1 : decode cX8_isLeg 1 = .ok (.ifCond .lt 17, 3) := by decide +kernel
theorem dX8_isLeg_4 : decode cX8_isLeg 4 = .ok (.iload_n 1, 1) := by decide +kernel
theorem dX8_isLeg_5 : decode cX8_isLeg 5 = .ok (.aload_n 0, 1) := by decide +kernel
theorem dX8_isLeg_6 : decode cX8_isLeg 6 = .ok (.getfield 7, 3) := by decide +kernel
theorem dX8_isLeg_9 : decode cX8_isLeg 9 = .ok (.iconst 0, 1) := by decide +kernel
theorem dX8_isLeg_10 : decode cX8_isLeg 10 = .ok (.iaload, 1) := by decide +kernel
theorem dX8_isLeg_11 : decode cX8_isLeg 11 = .ok (.if_icmp .ge 7, 3) := by decide +kernel
theorem dX8_isLeg_14 : decode cX8_isLeg 14 = .ok (.iconst 1, 1) := by decide +kernel
theorem dX8_isLeg_15 : decode cX8_isLeg 15 = .ok (.goto 4, 3) := by decide +kernel
theorem dX8_isLeg_18 : decode cX8_isLeg 18 = .ok (.iconst 0, 1) := by decide +kernel
theorem dX8_isLeg_19 : decode cX8_isLeg 19 = .ok (.ireturn, 1) := by decide +kernel
theorem dX8_isPlace_0 : decode cX8_isPlace 0 = .ok (.iload_n 1, 1) := by decide +kernel
theorem dX8_isPlace_1 : decode cX8_isPlace 1 = .ok (.bipush (-20), 2) := by decide +kernel
theorem dX8_isPlace_3 : decode cX8_isPlace 3 = .ok (.if_icmp .lt 25, 3) := by decide +kernel
theorem dX8_isPlace_6 : decode cX8_isPlace 6 = .ok (.iload_n 1, 1) := by decide +kernel
theorem dX8_isPlace_7 : decode cX8_isPlace 7 = .ok (.bipush 20, 2) := by decide +kernel
theorem dX8_isPlace_9 : decode cX8_isPlace 9 = .ok (.if_icmp .gt 19, 3) := by decide +kernel
theorem dX8_isPlace_12 : decode cX8_isPlace 12 = .ok (.iload_n 2, 1) := by decide +kernel
theorem dX8_isPlace_13 : decode cX8_isPlace 13 = .ok (.bipush (-20), 2) := by decide +kernel
theorem dX8_isPlace_15 : decode cX8_isPlace 15 = .ok (.if_icmp .lt 13, 3) := by decide +kernel
theorem dX8_isPlace_18 : decode cX8_isPlace 18 = .ok (.iload_n 2, 1) := by decide +kernel
theorem dX8_isPlace_19 : decode cX8_isPlace 19 = .ok (.bipush 20, 2) := by decide +kernel
theorem dX8_isPlace_21 : decode cX8_isPlace 21 = .ok (.if_icmp .gt 7, 3) := by decide +kernel
theorem dX8_isPlace_24 : decode cX8_isPlace 24 = .ok (.iconst 1, 1) := by decide +kernel
theorem dX8_isPlace_25 : decode cX8_isPlace 25 = .ok (.goto 4, 3) := by decide +kernel
theorem dX8_isPlace_28 : decode cX8_isPlace 28 = .ok (.iconst 0, 1) := by decide +kernel
theorem dX8_isPlace_29 : decode cX8_isPlace 29 = .ok (.ireturn, 1) := by decide +kernel
theorem dX8_legAt_0 : decode cX8_legAt 0 = .ok (.iconst 0, 1) := by decide +kernel
theorem dX8_legAt_1 : decode cX8_legAt 1 = .ok (.istore_n 3, 1) := by decide +kernel
theorem dX8_legAt_2 : decode cX8_legAt 2 = .ok (.iload_n 3, 1) := by decide +kernel
theorem dX8_legAt_3 : decode cX8_legAt 3 = .ok (.aload_n 0, 1) := by decide +kernel
theorem dX8_legAt_4 : decode cX8_legAt 4 = .ok (.getfield 7, 3) := by decide +kernel
theorem dX8_legAt_7 : decode cX8_legAt 7 = .ok (.iconst 0, 1) := by decide +kernel
theorem dX8_legAt_8 : decode cX8_legAt 8 = .ok (.iaload, 1) := by decide +kernel
theorem dX8_legAt_9 : decode cX8_legAt 9 = .ok (.if_icmp .ge 37, 3) := by decide +kernel
theorem dX8_legAt_12 : decode cX8_legAt 12 = .ok (.aload_n 0, 1) := by decide +kernel
theorem dX8_legAt_13 : decode cX8_legAt 13 = .ok (.getfield 7, 3) := by decide +kernel
theorem dX8_legAt_16 : decode cX8_legAt 16 = .ok (.bipush 7, 2) := by decide +kernel
theorem dX8_legAt_18 : decode cX8_legAt 18 = .ok (.iload_n 3, 1) := by decide +kernel
theorem dX8_legAt_19 : decode cX8_legAt 19 = .ok (.iadd, 1) := by decide +kernel
theorem dX8_legAt_20 : decode cX8_legAt 20 = .ok (.iaload, 1) := by decide +kernel
theorem dX8_legAt_21 : decode cX8_legAt 21 = .ok (.iload_n 1, 1) := by decide +kernel
theorem dX8_legAt_22 : decode cX8_legAt 22 = .ok (.if_icmp .ne 18, 3) := by decide +kernel
theorem dX8_legAt_25 : decode cX8_legAt 25 = .ok (.aload_n 0, 1) := by decide +kernel
theorem dX8_legAt_26 : decode cX8_legAt 26 = .ok (.getfield 7, 3) := by decide +kernel
theorem dX8_legAt_29 : decode cX8_legAt 29 = .ok (.bipush 15, 2) := by decide +kernel
theorem dX8_legAt_31 : decode cX8_legAt 31 = .ok (.iload_n 3, 1) := by decide +kernel
theorem dX8_legAt_32 : decode cX8_legAt 32 = .ok (.iadd, 1) := by decide +kernel
theorem dX8_legAt_33 : decode cX8_legAt 33 = .ok (.iaload, 1) := by decide +kernel
theorem dX8_legAt_34 : decode cX8_legAt 34 = .ok (.iload_n 2, 1) := by decide +kernel
theorem dX8_legAt_35 : decode cX8_legAt 35 = .ok (.if_icmp .ne 5, 3) := by decide +kernel
theorem dX8_legAt_38 : decode cX8_legAt 38 = .ok (.iload_n 3, 1) := by decide +kernel
theorem dX8_legAt_39 : decode cX8_legAt 39 = .ok (.ireturn, 1) := by decide +kernel
theorem dX8_legAt_40 : decode cX8_legAt 40 = .ok (.iinc 3 1, 3) := by decide +kernel
theorem dX8_legAt_43 : decode cX8_legAt 43 = .ok (.goto (-41), 3) := by decide +kernel
theorem dX8_legAt_46 : decode cX8_legAt 46 = .ok (.iconst (-1), 1) := by decide +kernel
theorem dX8_legAt_47 : decode cX8_legAt 47 = .ok (.ireturn, 1) := by decide +kernel
theorem dX8_leg_0 : decode cX8_leg 0 = .ok (.aload_n 0, 1) := by decide +kernel
theorem dX8_leg_1 : decode cX8_leg 1 = .ok (.iconst 0, 1) := by decide +kernel
theorem dX8_leg_2 : decode cX8_leg 2 = .ok (.putfield 34, 3) := by decide +kernel
theorem dX8_leg_5 : decode cX8_leg 5 = .ok (.aload_n 0, 1) := by decide +kernel
theorem dX8_leg_6 : decode cX8_leg 6 = .ok (.invokevirtual 49, 3) := by decide +kernel
theorem dX8_leg_9 : decode cX8_leg 9 = .ok (.aload_n 0, 1) := by decide +kernel
theorem dX8_leg_10 : decode cX8_leg 10 = .ok (.iload_n 1, 1) := by decide +kernel
theorem dX8_leg_11 : decode cX8_leg 11 = .ok (.invokevirtual 55, 3) := by decide +kernel
theorem dX8_leg_14 : decode cX8_leg 14 = .ok (.ifCond .eq 12, 3) := by decide +kernel
theorem dX8_leg_17 : decode cX8_leg 17 = .ok (.aload_n 0, 1) := by decide +kernel
theorem dX8_leg_18 : decode cX8_leg 18 = .ok (.iload_n 2, 1) := by decide +kernel
theorem dX8_leg_19 : decode cX8_leg 19 = .ok (.iload_n 3, 1) := by decide +kernel
theorem dX8_leg_20 : decode cX8_leg 20 = .ok (.invokevirtual 59, 3) := by decide +kernel
theorem dX8_leg_23 : decode cX8_leg 23 = .ok (.ifCond .ne 5, 3) := by decide +kernel
theorem dX8_leg_26 : decode cX8_leg 26 = .ok (.iconst 0, 1) := by decide +kernel
theorem dX8_leg_27 : decode cX8_leg 27 = .ok (.ireturn, 1) := by decide +kernel
theorem dX8_leg_28 : decode cX8_leg 28 = .ok (.aload_n 0, 1) := by decide +kernel
theorem dX8_leg_29 : decode cX8_leg 29 = .ok (.iload_n 2, 1) := by decide +kernel
theorem dX8_leg_30 : decode cX8_leg 30 = .ok (.iload_n 3, 1) := by decide +kernel
theorem dX8_leg_31 : decode cX8_leg 31 = .ok (.invokevirtual 63, 3) := by decide +kernel
theorem dX8_leg_34 : decode cX8_leg 34 = .ok (.istore 4, 2) := by decide +kernel
theorem dX8_leg_36 : decode cX8_leg 36 = .ok (.iload 4, 2) := by decide +kernel
theorem dX8_leg_38 : decode cX8_leg 38 = .ok (.iconst (-1), 1) := by decide +kernel
theorem dX8_leg_39 : decode cX8_leg 39 = .ok (.if_icmp .eq 11, 3) := by decide +kernel
theorem dX8_leg_42 : decode cX8_leg 42 = .ok (.iload 4, 2) := by decide +kernel
theorem dX8_leg_44 : decode cX8_leg 44 = .ok (.iload_n 1, 1) := by decide +kernel
theorem dX8_leg_45 : decode cX8_leg 45 = .ok (.if_icmp .eq 5, 3) := by decide +kernel
theorem dX8_leg_48 : decode cX8_leg 48 = .ok (.iconst 0, 1) := by decide +kernel
theorem dX8_leg_49 : decode cX8_leg 49 = .ok (.ireturn, 1) := by decide +kernel
theorem dX8_leg_50 : decode cX8_leg 50 = .ok (.aload_n 0, 1) := by decide +kernel
theorem dX8_leg_51 : decode cX8_leg 51 = .ok (.invokevirtual 52, 3) := by decide +kernel
theorem dX8_leg_54 : decode cX8_leg 54 = .ok (.aload_n 0, 1) := by decide +kernel
theorem dX8_leg_55 : decode cX8_leg 55 = .ok (.getfield 7, 3) := by decide +kernel
theorem dX8_leg_58 : decode cX8_leg 58 = .ok (.bipush 7, 2) := by decide +kernel
theorem dX8_leg_60 : decode cX8_leg 60 = .ok (.iload_n 1, 1) := by decide +kernel
theorem dX8_leg_61 : decode cX8_leg 61 = .ok (.iadd, 1) := by decide +kernel
theorem dX8_leg_62 : decode cX8_leg 62 = .ok (.iload_n 2, 1) := by decide +kernel
theorem dX8_leg_63 : decode cX8_leg 63 = .ok (.iastore, 1) := by decide +kernel
theorem dX8_leg_64 : decode cX8_leg 64 = .ok (.aload_n 0, 1) := by decide +kernel
theorem dX8_leg_65 : decode cX8_leg 65 = .ok (.getfield 7, 3) := by decide +kernel
theorem dX8_leg_68 : decode cX8_leg 68 = .ok (.bipush 15, 2) := by decide +kernel
theorem dX8_leg_70 : decode cX8_leg 70 = .ok (.iload_n 1, 1) := by decide +kernel
theorem dX8_leg_71 : decode cX8_leg 71 = .ok (.iadd, 1) := by decide +kernel
theorem dX8_leg_72 : decode cX8_leg 72 = .ok (.iload_n 3, 1) := by decide +kernel
theorem dX8_leg_73 : decode cX8_leg 73 = .ok (.iastore, 1) := by decide +kernel
theorem dX8_leg_74 : decode cX8_leg 74 = .ok (.iconst 1, 1) := by decide +kernel
theorem dX8_leg_75 : decode cX8_leg 75 = .ok (.ireturn, 1) := by decide +kernel
theorem dX8_middle_0 : decode cX8_middle 0 = .ok (.aload_n 0, 1) := by decide +kernel
theorem dX8_middle_1 : decode cX8_middle 1 = .ok (.iconst 0, 1) := by decide +kernel
theorem dX8_middle_2 : decode cX8_middle 2 = .ok (.putfield 34, 3) := by decide +kernel
theorem dX8_middle_5 : decode cX8_middle 5 = .ok (.aload_n 0, 1) := by decide +kernel
theorem dX8_middle_6 : decode cX8_middle 6 = .ok (.invokevirtual 49, 3) := by decide +kernel
theorem dX8_middle_9 : decode cX8_middle 9 = .ok (.aload_n 0, 1) := by decide +kernel
theorem dX8_middle_10 : decode cX8_middle 10 = .ok (.iload_n 1, 1) := by decide +kernel
theorem dX8_middle_11 : decode cX8_middle 11 = .ok (.iload_n 2, 1) := by decide +kernel
theorem dX8_middle_12 : decode cX8_middle 12 = .ok (.invokevirtual 59, 3) := by decide +kernel
theorem dX8_middle_15 : decode cX8_middle 15 = .ok (.ifCond .ne 5, 3) := by decide +kernel
theorem dX8_middle_18 : decode cX8_middle 18 = .ok (.iconst 0, 1) := by decide +kernel
theorem dX8_middle_19 : decode cX8_middle 19 = .ok (.ireturn, 1) := by decide +kernel
theorem dX8_middle_20 : decode cX8_middle 20 = .ok (.aload_n 0, 1) := by decide +kernel
theorem dX8_middle_21 : decode cX8_middle 21 = .ok (.invokevirtual 52, 3) := by decide +kernel
theorem dX8_middle_24 : decode cX8_middle 24 = .ok (.aload_n 0, 1) := by decide +kernel
theorem dX8_middle_25 : decode cX8_middle 25 = .ok (.getfield 7, 3) := by decide +kernel
theorem dX8_middle_28 : decode cX8_middle 28 = .ok (.iconst 4, 1) := by decide +kernel
theorem dX8_middle_29 : decode cX8_middle 29 = .ok (.iload_n 1, 1) := by decide +kernel
theorem dX8_middle_30 : decode cX8_middle 30 = .ok (.iastore, 1) := by decide +kernel
theorem dX8_middle_31 : decode cX8_middle 31 = .ok (.aload_n 0, 1) := by decide +kernel
theorem dX8_middle_32 : decode cX8_middle 32 = .ok (.getfield 7, 3) := by decide +kernel
theorem dX8_middle_35 : decode cX8_middle 35 = .ok (.iconst 5, 1) := by decide +kernel
theorem dX8_middle_36 : decode cX8_middle 36 = .ok (.iload_n 2, 1) := by decide +kernel
theorem dX8_middle_37 : decode cX8_middle 37 = .ok (.iastore, 1) := by decide +kernel
theorem dX8_middle_38 : decode cX8_middle 38 = .ok (.iconst 1, 1) := by decide +kernel
theorem dX8_middle_39 : decode cX8_middle 39 = .ok (.ireturn, 1) := by decide +kernel
theorem dX8_pace_0 : decode cX8_pace 0 = .ok (.aload_n 0, 1) := by decide +kernel
theorem dX8_pace_1 : decode cX8_pace 1 = .ok (.iconst 0, 1) := by decide +kernel
theorem dX8_pace_2 : decode cX8_pace 2 = .ok (.putfield 34, 3) := by decide +kernel
theorem dX8_pace_5 : decode cX8_pace 5 = .ok (.aload_n 0, 1) := by decide +kernel
theorem dX8_pace_6 : decode cX8_pace 6 = .ok (.invokevirtual 49, 3) := by decide +kernel
theorem dX8_pace_9 : decode cX8_pace 9 = .ok (.iload_n 1, 1) := by decide +kernel
theorem dX8_pace_10 : decode cX8_pace 10 = .ok (.ifCond .lt 19, 3) := by decide +kernel
theorem dX8_pace_13 : decode cX8_pace 13 = .ok (.iload_n 1, 1) := by decide +kernel
theorem dX8_pace_14 : decode cX8_pace 14 = .ok (.bipush 9, 2) := by decide +kernel
theorem dX8_pace_16 : decode cX8_pace 16 = .ok (.if_icmp .gt 13, 3) := by decide +kernel
theorem dX8_pace_19 : decode cX8_pace 19 = .ok (.iload_n 2, 1) := by decide +kernel
theorem dX8_pace_20 : decode cX8_pace 20 = .ok (.ifCond .lt 9, 3) := by decide +kernel
theorem dX8_pace_23 : decode cX8_pace 23 = .ok (.iload_n 2, 1) := by decide +kernel
theorem dX8_pace_24 : decode cX8_pace 24 = .ok (.bipush 40, 2) := by decide +kernel
theorem dX8_pace_26 : decode cX8_pace 26 = .ok (.if_icmp .le 5, 3) := by decide +kernel
theorem dX8_pace_29 : decode cX8_pace 29 = .ok (.iconst 0, 1) := by decide +kernel
theorem dX8_pace_30 : decode cX8_pace 30 = .ok (.ireturn, 1) := by decide +kernel
theorem dX8_pace_31 : decode cX8_pace 31 = .ok (.aload_n 0, 1) := by decide +kernel
theorem dX8_pace_32 : decode cX8_pace 32 = .ok (.invokevirtual 52, 3) := by decide +kernel
theorem dX8_pace_35 : decode cX8_pace 35 = .ok (.aload_n 0, 1) := by decide +kernel
theorem dX8_pace_36 : decode cX8_pace 36 = .ok (.getfield 7, 3) := by decide +kernel
theorem dX8_pace_39 : decode cX8_pace 39 = .ok (.iconst 2, 1) := by decide +kernel
theorem dX8_pace_40 : decode cX8_pace 40 = .ok (.iload_n 1, 1) := by decide +kernel
theorem dX8_pace_41 : decode cX8_pace 41 = .ok (.iastore, 1) := by decide +kernel
theorem dX8_pace_42 : decode cX8_pace 42 = .ok (.aload_n 0, 1) := by decide +kernel
theorem dX8_pace_43 : decode cX8_pace 43 = .ok (.getfield 7, 3) := by decide +kernel
theorem dX8_pace_46 : decode cX8_pace 46 = .ok (.iconst 3, 1) := by decide +kernel
theorem dX8_pace_47 : decode cX8_pace 47 = .ok (.iload_n 2, 1) := by decide +kernel
theorem dX8_pace_48 : decode cX8_pace 48 = .ok (.iastore, 1) := by decide +kernel
theorem dX8_pace_49 : decode cX8_pace 49 = .ok (.iconst 1, 1) := by decide +kernel
theorem dX8_pace_50 : decode cX8_pace 50 = .ok (.ireturn, 1) := by decide +kernel
theorem dX8_byteOf_0 : decode cX8_byteOf 0 = .ok (.iload_n 1, 1) := by decide +kernel
theorem dX8_byteOf_1 : decode cX8_byteOf 1 = .ok (.iconst 4, 1) := by decide +kernel
theorem dX8_byteOf_2 : decode cX8_byteOf 2 = .ok (.if_icmp .ge 7, 3) := by decide +kernel
theorem dX8_byteOf_5 : decode cX8_byteOf 5 = .ok (.iload_n 2, 1) := by decide +kernel
theorem dX8_byteOf_6 : decode cX8_byteOf 6 = .ok (.goto 26, 3) := by decide +kernel
theorem dX8_byteOf_9 : decode cX8_byteOf 9 = .ok (.iload_n 1, 1) := by decide +kernel
theorem dX8_byteOf_10 : decode cX8_byteOf 10 = .ok (.bipush 8, 2) := by decide +kernel
theorem dX8_byteOf_12 : decode cX8_byteOf 12 = .ok (.if_icmp .ge 7, 3) := by decide +kernel
theorem dX8_byteOf_15 : decode cX8_byteOf 15 = .ok (.iload_n 3, 1) := by decide +kernel
theorem dX8_byteOf_16 : decode cX8_byteOf 16 = .ok (.goto 16, 3) := by decide +kernel
theorem dX8_byteOf_19 : decode cX8_byteOf 19 = .ok (.iload_n 1, 1) := by decide +kernel
theorem dX8_byteOf_20 : decode cX8_byteOf 20 = .ok (.bipush 12, 2) := by decide +kernel
theorem dX8_byteOf_22 : decode cX8_byteOf 22 = .ok (.if_icmp .ge 8, 3) := by decide +kernel
theorem dX8_byteOf_25 : decode cX8_byteOf 25 = .ok (.iload 4, 2) := by decide +kernel
theorem dX8_byteOf_27 : decode cX8_byteOf 27 = .ok (.goto 5, 3) := by decide +kernel
theorem dX8_byteOf_30 : decode cX8_byteOf 30 = .ok (.iload 5, 2) := by decide +kernel
theorem dX8_byteOf_32 : decode cX8_byteOf 32 = .ok (.istore 6, 2) := by decide +kernel
theorem dX8_byteOf_34 : decode cX8_byteOf 34 = .ok (.iload 6, 2) := by decide +kernel
theorem dX8_byteOf_36 : decode cX8_byteOf 36 = .ok (.bipush 8, 2) := by decide +kernel
theorem dX8_byteOf_38 : decode cX8_byteOf 38 = .ok (.iload_n 1, 1) := by decide +kernel
theorem dX8_byteOf_39 : decode cX8_byteOf 39 = .ok (.iconst 4, 1) := by decide +kernel
theorem dX8_byteOf_40 : decode cX8_byteOf 40 = .ok (.irem, 1) := by decide +kernel
theorem dX8_byteOf_41 : decode cX8_byteOf 41 = .ok (.imul, 1) := by decide +kernel
theorem dX8_byteOf_42 : decode cX8_byteOf 42 = .ok (.ishr, 1) := by decide +kernel
theorem dX8_byteOf_43 : decode cX8_byteOf 43 = .ok (.sipush 255, 3) := by decide +kernel
theorem dX8_byteOf_46 : decode cX8_byteOf 46 = .ok (.iand, 1) := by decide +kernel
theorem dX8_byteOf_47 : decode cX8_byteOf 47 = .ok (.ireturn, 1) := by decide +kernel
theorem dX8_gait_0 : decode cX8_gait 0 = .ok (.aload_n 0, 1) := by decide +kernel
theorem dX8_gait_1 : decode cX8_gait 1 = .ok (.iconst 0, 1) := by decide +kernel
theorem dX8_gait_2 : decode cX8_gait 2 = .ok (.putfield 34, 3) := by decide +kernel
theorem dX8_gait_5 : decode cX8_gait 5 = .ok (.aload_n 0, 1) := by decide +kernel
theorem dX8_gait_6 : decode cX8_gait 6 = .ok (.invokevirtual 49, 3) := by decide +kernel
theorem dX8_gait_9 : decode cX8_gait 9 = .ok (.iload_n 1, 1) := by decide +kernel
theorem dX8_gait_10 : decode cX8_gait 10 = .ok (.ifCond .lt 19, 3) := by decide +kernel
theorem dX8_gait_13 : decode cX8_gait 13 = .ok (.iload_n 1, 1) := by decide +kernel
theorem dX8_gait_14 : decode cX8_gait 14 = .ok (.iconst 2, 1) := by decide +kernel
theorem dX8_gait_15 : decode cX8_gait 15 = .ok (.if_icmp .gt 14, 3) := by decide +kernel
theorem dX8_gait_18 : decode cX8_gait 18 = .ok (.iload_n 2, 1) := by decide +kernel
theorem dX8_gait_19 : decode cX8_gait 19 = .ok (.iconst 1, 1) := by decide +kernel
theorem dX8_gait_20 : decode cX8_gait 20 = .ok (.if_icmp .lt 9, 3) := by decide +kernel
theorem dX8_gait_23 : decode cX8_gait 23 = .ok (.iload_n 2, 1) := by decide +kernel
theorem dX8_gait_24 : decode cX8_gait 24 = .ok (.bipush 16, 2) := by decide +kernel
theorem dX8_gait_26 : decode cX8_gait 26 = .ok (.if_icmp .le 5, 3) := by decide +kernel
theorem dX8_gait_29 : decode cX8_gait 29 = .ok (.iconst (-1), 1) := by decide +kernel
theorem dX8_gait_30 : decode cX8_gait 30 = .ok (.ireturn, 1) := by decide +kernel
theorem dX8_gait_31 : decode cX8_gait 31 = .ok (.aload_n 0, 1) := by decide +kernel
theorem dX8_gait_32 : decode cX8_gait 32 = .ok (.invokevirtual 52, 3) := by decide +kernel
theorem dX8_gait_35 : decode cX8_gait 35 = .ok (.aload_n 0, 1) := by decide +kernel
theorem dX8_gait_36 : decode cX8_gait 36 = .ok (.getfield 7, 3) := by decide +kernel
theorem dX8_gait_39 : decode cX8_gait 39 = .ok (.bipush 6, 2) := by decide +kernel
theorem dX8_gait_41 : decode cX8_gait 41 = .ok (.iload_n 2, 1) := by decide +kernel
theorem dX8_gait_42 : decode cX8_gait 42 = .ok (.iastore, 1) := by decide +kernel
theorem dX8_gait_43 : decode cX8_gait 43 = .ok (.iconst 0, 1) := by decide +kernel
theorem dX8_gait_44 : decode cX8_gait 44 = .ok (.istore 7, 2) := by decide +kernel
theorem dX8_gait_46 : decode cX8_gait 46 = .ok (.iload 7, 2) := by decide +kernel
theorem dX8_gait_48 : decode cX8_gait 48 = .ok (.bipush 16, 2) := by decide +kernel
theorem dX8_gait_50 : decode cX8_gait 50 = .ok (.if_icmp .ge 53, 3) := by decide +kernel
theorem dX8_gait_53 : decode cX8_gait 53 = .ok (.aload_n 0, 1) := by decide +kernel
theorem dX8_gait_54 : decode cX8_gait 54 = .ok (.getfield 7, 3) := by decide +kernel
theorem dX8_gait_57 : decode cX8_gait 57 = .ok (.bipush 23, 2) := by decide +kernel
theorem dX8_gait_59 : decode cX8_gait 59 = .ok (.iload 7, 2) := by decide +kernel
theorem dX8_gait_61 : decode cX8_gait 61 = .ok (.iadd, 1) := by decide +kernel
theorem dX8_gait_62 : decode cX8_gait 62 = .ok (.iload 7, 2) := by decide +kernel
theorem dX8_gait_64 : decode cX8_gait 64 = .ok (.iload_n 2, 1) := by decide +kernel
theorem dX8_gait_65 : decode cX8_gait 65 = .ok (.if_icmp .ge 30, 3) := by decide +kernel
theorem dX8_gait_68 : decode cX8_gait 68 = .ok (.aload_n 0, 1) := by decide +kernel
theorem dX8_gait_69 : decode cX8_gait 69 = .ok (.iload 7, 2) := by decide +kernel
theorem dX8_gait_71 : decode cX8_gait 71 = .ok (.iload_n 3, 1) := by decide +kernel
theorem dX8_gait_72 : decode cX8_gait 72 = .ok (.iload 4, 2) := by decide +kernel
theorem dX8_gait_74 : decode cX8_gait 74 = .ok (.iload 5, 2) := by decide +kernel
theorem dX8_gait_76 : decode cX8_gait 76 = .ok (.iload 6, 2) := by decide +kernel
theorem dX8_gait_78 : decode cX8_gait 78 = .ok (.invokevirtual 67, 3) := by decide +kernel
theorem dX8_gait_81 : decode cX8_gait 81 = .ok (.iconst 1, 1) := by decide +kernel
theorem dX8_gait_82 : decode cX8_gait 82 = .ok (.aload_n 0, 1) := by decide +kernel
theorem dX8_gait_83 : decode cX8_gait 83 = .ok (.getfield 7, 3) := by decide +kernel
theorem dX8_gait_86 : decode cX8_gait 86 = .ok (.iconst 0, 1) := by decide +kernel
theorem dX8_gait_87 : decode cX8_gait 87 = .ok (.iaload, 1) := by decide +kernel
theorem dX8_gait_88 : decode cX8_gait 88 = .ok (.ishl, 1) := by decide +kernel
theorem dX8_gait_89 : decode cX8_gait 89 = .ok (.iconst 1, 1) := by decide +kernel
theorem dX8_gait_90 : decode cX8_gait 90 = .ok (.isub, 1) := by decide +kernel
theorem dX8_gait_91 : decode cX8_gait 91 = .ok (.iand, 1) := by decide +kernel
theorem dX8_gait_92 : decode cX8_gait 92 = .ok (.goto 4, 3) := by decide +kernel
theorem dX8_gait_95 : decode cX8_gait 95 = .ok (.iconst 0, 1) := by decide +kernel
theorem dX8_gait_96 : decode cX8_gait 96 = .ok (.iastore, 1) := by decide +kernel
theorem dX8_gait_97 : decode cX8_gait 97 = .ok (.iinc 7 1, 3) := by decide +kernel
theorem dX8_gait_100 : decode cX8_gait 100 = .ok (.goto (-54), 3) := by decide +kernel
theorem dX8_gait_103 : decode cX8_gait 103 = .ok (.iload_n 2, 1) := by decide +kernel
theorem dX8_gait_104 : decode cX8_gait 104 = .ok (.ireturn, 1) := by decide +kernel
theorem dX8_isTick_0 : decode cX8_isTick 0 = .ok (.iload_n 1, 1) := by decide +kernel
theorem dX8_isTick_1 : decode cX8_isTick 1 = .ok (.ifCond .lt 18, 3) := by decide +kernel
theorem dX8_isTick_4 : decode cX8_isTick 4 = .ok (.iload_n 1, 1) := by decide +kernel
theorem dX8_isTick_5 : decode cX8_isTick 5 = .ok (.aload_n 0, 1) := by decide +kernel
theorem dX8_isTick_6 : decode cX8_isTick 6 = .ok (.getfield 7, 3) := by decide +kernel
theorem dX8_isTick_9 : decode cX8_isTick 9 = .ok (.bipush 6, 2) := by decide +kernel
theorem dX8_isTick_11 : decode cX8_isTick 11 = .ok (.iaload, 1) := by decide +kernel
theorem dX8_isTick_12 : decode cX8_isTick 12 = .ok (.if_icmp .ge 7, 3) := by decide +kernel
theorem dX8_isTick_15 : decode cX8_isTick 15 = .ok (.iconst 1, 1) := by decide +kernel
theorem dX8_isTick_16 : decode cX8_isTick 16 = .ok (.goto 4, 3) := by decide +kernel
theorem dX8_isTick_19 : decode cX8_isTick 19 = .ok (.iconst 0, 1) := by decide +kernel
theorem dX8_isTick_20 : decode cX8_isTick 20 = .ok (.ireturn, 1) := by decide +kernel
theorem dX8_isSet_0 : decode cX8_isSet 0 = .ok (.iload_n 1, 1) := by decide +kernel
theorem dX8_isSet_1 : decode cX8_isSet 1 = .ok (.ifCond .lt 19, 3) := by decide +kernel
theorem dX8_isSet_4 : decode cX8_isSet 4 = .ok (.iload_n 1, 1) := by decide +kernel
theorem dX8_isSet_5 : decode cX8_isSet 5 = .ok (.iconst 1, 1) := by decide +kernel
theorem dX8_isSet_6 : decode cX8_isSet 6 = .ok (.aload_n 0, 1) := by decide +kernel
theorem dX8_isSet_7 : decode cX8_isSet 7 = .ok (.getfield 7, 3) := by decide +kernel
theorem dX8_isSet_10 : decode cX8_isSet 10 = .ok (.iconst 0, 1) := by decide +kernel
theorem dX8_isSet_11 : decode cX8_isSet 11 = .ok (.iaload, 1) := by decide +kernel
theorem dX8_isSet_12 : decode cX8_isSet 12 = .ok (.ishl, 1) := by decide +kernel
theorem dX8_isSet_13 : decode cX8_isSet 13 = .ok (.if_icmp .ge 7, 3) := by decide +kernel
theorem dX8_isSet_16 : decode cX8_isSet 16 = .ok (.iconst 1, 1) := by decide +kernel
theorem dX8_isSet_17 : decode cX8_isSet 17 = .ok (.goto 4, 3) := by decide +kernel
theorem dX8_isSet_20 : decode cX8_isSet 20 = .ok (.iconst 0, 1) := by decide +kernel
theorem dX8_isSet_21 : decode cX8_isSet 21 = .ok (.ireturn, 1) := by decide +kernel
theorem dX8_tick_0 : decode cX8_tick 0 = .ok (.aload_n 0, 1) := by decide +kernel
theorem dX8_tick_1 : decode cX8_tick 1 = .ok (.iconst 0, 1) := by decide +kernel
theorem dX8_tick_2 : decode cX8_tick 2 = .ok (.putfield 34, 3) := by decide +kernel
theorem dX8_tick_5 : decode cX8_tick 5 = .ok (.aload_n 0, 1) := by decide +kernel
theorem dX8_tick_6 : decode cX8_tick 6 = .ok (.invokevirtual 49, 3) := by decide +kernel
theorem dX8_tick_9 : decode cX8_tick 9 = .ok (.aload_n 0, 1) := by decide +kernel
theorem dX8_tick_10 : decode cX8_tick 10 = .ok (.iload_n 1, 1) := by decide +kernel
theorem dX8_tick_11 : decode cX8_tick 11 = .ok (.invokevirtual 71, 3) := by decide +kernel
theorem dX8_tick_14 : decode cX8_tick 14 = .ok (.ifCond .eq 11, 3) := by decide +kernel
theorem dX8_tick_17 : decode cX8_tick 17 = .ok (.aload_n 0, 1) := by decide +kernel
theorem dX8_tick_18 : decode cX8_tick 18 = .ok (.iload_n 2, 1) := by decide +kernel
theorem dX8_tick_19 : decode cX8_tick 19 = .ok (.invokevirtual 74, 3) := by decide +kernel
theorem dX8_tick_22 : decode cX8_tick 22 = .ok (.ifCond .ne 5, 3) := by decide +kernel
theorem dX8_tick_25 : decode cX8_tick 25 = .ok (.iconst 0, 1) := by decide +kernel
theorem dX8_tick_26 : decode cX8_tick 26 = .ok (.ireturn, 1) := by decide +kernel
theorem dX8_tick_27 : decode cX8_tick 27 = .ok (.aload_n 0, 1) := by decide +kernel
theorem dX8_tick_28 : decode cX8_tick 28 = .ok (.invokevirtual 52, 3) := by decide +kernel
theorem dX8_tick_31 : decode cX8_tick 31 = .ok (.aload_n 0, 1) := by decide +kernel
theorem dX8_tick_32 : decode cX8_tick 32 = .ok (.getfield 7, 3) := by decide +kernel
theorem dX8_tick_35 : decode cX8_tick 35 = .ok (.bipush 23, 2) := by decide +kernel
theorem dX8_tick_37 : decode cX8_tick 37 = .ok (.iload_n 1, 1) := by decide +kernel
theorem dX8_tick_38 : decode cX8_tick 38 = .ok (.iadd, 1) := by decide +kernel
theorem dX8_tick_39 : decode cX8_tick 39 = .ok (.iload_n 2, 1) := by decide +kernel
theorem dX8_tick_40 : decode cX8_tick 40 = .ok (.iastore, 1) := by decide +kernel
theorem dX8_tick_41 : decode cX8_tick 41 = .ok (.iconst 1, 1) := by decide +kernel
theorem dX8_tick_42 : decode cX8_tick 42 = .ok (.ireturn, 1) := by decide +kernel
theorem dX8_twin_0 : decode cX8_twin 0 = .ok (.aload_n 0, 1) := by decide +kernel
theorem dX8_twin_1 : decode cX8_twin 1 = .ok (.aload_n 0, 1) := by decide +kernel
theorem dX8_twin_2 : decode cX8_twin 2 = .ok (.getfield 7, 3) := by decide +kernel
theorem dX8_twin_5 : decode cX8_twin 5 = .ok (.bipush 7, 2) := by decide +kernel
theorem dX8_twin_7 : decode cX8_twin 7 = .ok (.iload_n 1, 1) := by decide +kernel
theorem dX8_twin_8 : decode cX8_twin 8 = .ok (.iadd, 1) := by decide +kernel
theorem dX8_twin_9 : decode cX8_twin 9 = .ok (.iaload, 1) := by decide +kernel
theorem dX8_twin_10 : decode cX8_twin 10 = .ok (.ineg, 1) := by decide +kernel
theorem dX8_twin_11 : decode cX8_twin 11 = .ok (.aload_n 0, 1) := by decide +kernel
theorem dX8_twin_12 : decode cX8_twin 12 = .ok (.getfield 7, 3) := by decide +kernel
theorem dX8_twin_15 : decode cX8_twin 15 = .ok (.bipush 15, 2) := by decide +kernel
theorem dX8_twin_17 : decode cX8_twin 17 = .ok (.iload_n 1, 1) := by decide +kernel
theorem dX8_twin_18 : decode cX8_twin 18 = .ok (.iadd, 1) := by decide +kernel
theorem dX8_twin_19 : decode cX8_twin 19 = .ok (.iaload, 1) := by decide +kernel
theorem dX8_twin_20 : decode cX8_twin 20 = .ok (.invokevirtual 63, 3) := by decide +kernel
theorem dX8_twin_23 : decode cX8_twin 23 = .ok (.ireturn, 1) := by decide +kernel
theorem dX8_isMirrored_0 : decode cX8_isMirrored 0 = .ok (.aload_n 0, 1) := by decide +kernel
theorem dX8_isMirrored_1 : decode cX8_isMirrored 1 = .ok (.getfield 7, 3) := by decide +kernel
theorem dX8_isMirrored_4 : decode cX8_isMirrored 4 = .ok (.iconst 4, 1) := by decide +kernel
theorem dX8_isMirrored_5 : decode cX8_isMirrored 5 = .ok (.iaload, 1) := by decide +kernel
theorem dX8_isMirrored_6 : decode cX8_isMirrored 6 = .ok (.ifCond .eq 5, 3) := by decide +kernel
theorem dX8_isMirrored_9 : decode cX8_isMirrored 9 = .ok (.iconst 0, 1) := by decide +kernel
theorem dX8_isMirrored_10 : decode cX8_isMirrored 10 = .ok (.ireturn, 1) := by decide +kernel
theorem dX8_isMirrored_11 : decode cX8_isMirrored 11 = .ok (.iconst 0, 1) := by decide +kernel
theorem dX8_isMirrored_12 : decode cX8_isMirrored 12 = .ok (.istore_n 1, 1) := by decide +kernel
theorem dX8_isMirrored_13 : decode cX8_isMirrored 13 = .ok (.iload_n 1, 1) := by decide +kernel
theorem dX8_isMirrored_14 : decode cX8_isMirrored 14 = .ok (.aload_n 0, 1) := by decide +kernel
theorem dX8_isMirrored_15 : decode cX8_isMirrored 15 = .ok (.getfield 7, 3) := by decide +kernel
theorem dX8_isMirrored_18 : decode cX8_isMirrored 18 = .ok (.iconst 0, 1) := by decide +kernel
theorem dX8_isMirrored_19 : decode cX8_isMirrored 19 = .ok (.iaload, 1) := by decide +kernel
theorem dX8_isMirrored_20 : decode cX8_isMirrored 20 = .ok (.if_icmp .ge 20, 3) := by decide +kernel
theorem dX8_isMirrored_23 : decode cX8_isMirrored 23 = .ok (.aload_n 0, 1) := by decide +kernel
theorem dX8_isMirrored_24 : decode cX8_isMirrored 24 = .ok (.iload_n 1, 1) := by decide +kernel
theorem dX8_isMirrored_25 : decode cX8_isMirrored 25 = .ok (.invokevirtual 77, 3) := by decide +kernel
theorem dX8_isMirrored_28 : decode cX8_isMirrored 28 = .ok (.iconst (-1), 1) := by decide +kernel
theorem dX8_isMirrored_29 : decode cX8_isMirrored 29 = .ok (.if_icmp .ne 5, 3) := by decide +kernel
theorem dX8_isMirrored_32 : decode cX8_isMirrored 32 = .ok (.iconst 0, 1) := by decide +kernel
theorem dX8_isMirrored_33 : decode cX8_isMirrored 33 = .ok (.ireturn, 1) := by decide +kernel
theorem dX8_isMirrored_34 : decode cX8_isMirrored 34 = .ok (.iinc 1 1, 3) := by decide +kernel
theorem dX8_isMirrored_37 : decode cX8_isMirrored 37 = .ok (.goto (-24), 3) := by decide +kernel
theorem dX8_isMirrored_40 : decode cX8_isMirrored 40 = .ok (.iconst 1, 1) := by decide +kernel
theorem dX8_isMirrored_41 : decode cX8_isMirrored 41 = .ok (.ireturn, 1) := by decide +kernel
theorem dX8_about_0 : decode cX8_about 0 = .ok (.aload_n 0, 1) := by decide +kernel
theorem dX8_about_1 : decode cX8_about 1 = .ok (.iconst 0, 1) := by decide +kernel
theorem dX8_about_2 : decode cX8_about 2 = .ok (.putfield 34, 3) := by decide +kernel
theorem dX8_about_5 : decode cX8_about 5 = .ok (.aload_n 0, 1) := by decide +kernel
theorem dX8_about_6 : decode cX8_about 6 = .ok (.invokevirtual 49, 3) := by decide +kernel
theorem dX8_about_9 : decode cX8_about 9 = .ok (.iload_n 1, 1) := by decide +kernel
theorem dX8_about_10 : decode cX8_about 10 = .ok (.ifCond .ne 10, 3) := by decide +kernel
theorem dX8_about_13 : decode cX8_about 13 = .ok (.aload_n 0, 1) := by decide +kernel
theorem dX8_about_14 : decode cX8_about 14 = .ok (.getfield 7, 3) := by decide +kernel
theorem dX8_about_17 : decode cX8_about 17 = .ok (.iconst 0, 1) := by decide +kernel
theorem dX8_about_18 : decode cX8_about 18 = .ok (.iaload, 1) := by decide +kernel
theorem dX8_about_19 : decode cX8_about 19 = .ok (.ireturn, 1) := by decide +kernel
theorem dX8_about_20 : decode cX8_about 20 = .ok (.iload_n 1, 1) := by decide +kernel
theorem dX8_about_21 : decode cX8_about 21 = .ok (.iconst 1, 1) := by decide +kernel
theorem dX8_about_22 : decode cX8_about 22 = .ok (.if_icmp .ne 10, 3) := by decide +kernel
theorem dX8_about_25 : decode cX8_about 25 = .ok (.aload_n 0, 1) := by decide +kernel
theorem dX8_about_26 : decode cX8_about 26 = .ok (.getfield 7, 3) := by decide +kernel
theorem dX8_about_29 : decode cX8_about 29 = .ok (.iconst 1, 1) := by decide +kernel
theorem dX8_about_30 : decode cX8_about 30 = .ok (.iaload, 1) := by decide +kernel
theorem dX8_about_31 : decode cX8_about 31 = .ok (.ireturn, 1) := by decide +kernel
theorem dX8_about_32 : decode cX8_about 32 = .ok (.iload_n 1, 1) := by decide +kernel
theorem dX8_about_33 : decode cX8_about 33 = .ok (.iconst 2, 1) := by decide +kernel
theorem dX8_about_34 : decode cX8_about 34 = .ok (.if_icmp .ne 11, 3) := by decide +kernel
theorem dX8_about_37 : decode cX8_about 37 = .ok (.aload_n 0, 1) := by decide +kernel
theorem dX8_about_38 : decode cX8_about 38 = .ok (.getfield 7, 3) := by decide +kernel
theorem dX8_about_41 : decode cX8_about 41 = .ok (.bipush 6, 2) := by decide +kernel
theorem dX8_about_43 : decode cX8_about 43 = .ok (.iaload, 1) := by decide +kernel
theorem dX8_about_44 : decode cX8_about 44 = .ok (.ireturn, 1) := by decide +kernel
theorem dX8_about_45 : decode cX8_about 45 = .ok (.iload_n 1, 1) := by decide +kernel
theorem dX8_about_46 : decode cX8_about 46 = .ok (.iconst 3, 1) := by decide +kernel
theorem dX8_about_47 : decode cX8_about 47 = .ok (.if_icmp .ne 10, 3) := by decide +kernel
theorem dX8_about_50 : decode cX8_about 50 = .ok (.aload_n 0, 1) := by decide +kernel
theorem dX8_about_51 : decode cX8_about 51 = .ok (.getfield 7, 3) := by decide +kernel
theorem dX8_about_54 : decode cX8_about 54 = .ok (.iconst 2, 1) := by decide +kernel
theorem dX8_about_55 : decode cX8_about 55 = .ok (.iaload, 1) := by decide +kernel
theorem dX8_about_56 : decode cX8_about 56 = .ok (.ireturn, 1) := by decide +kernel
theorem dX8_about_57 : decode cX8_about 57 = .ok (.iload_n 1, 1) := by decide +kernel
theorem dX8_about_58 : decode cX8_about 58 = .ok (.iconst 4, 1) := by decide +kernel
theorem dX8_about_59 : decode cX8_about 59 = .ok (.if_icmp .ne 10, 3) := by decide +kernel
theorem dX8_about_62 : decode cX8_about 62 = .ok (.aload_n 0, 1) := by decide +kernel
theorem dX8_about_63 : decode cX8_about 63 = .ok (.getfield 7, 3) := by decide +kernel
theorem dX8_about_66 : decode cX8_about 66 = .ok (.iconst 3, 1) := by decide +kernel
theorem dX8_about_67 : decode cX8_about 67 = .ok (.iaload, 1) := by decide +kernel
theorem dX8_about_68 : decode cX8_about 68 = .ok (.ireturn, 1) := by decide +kernel
theorem dX8_about_69 : decode cX8_about 69 = .ok (.iload_n 1, 1) := by decide +kernel
theorem dX8_about_70 : decode cX8_about 70 = .ok (.iconst 5, 1) := by decide +kernel
theorem dX8_about_71 : decode cX8_about 71 = .ok (.if_icmp .ne 10, 3) := by decide +kernel
theorem dX8_about_74 : decode cX8_about 74 = .ok (.aload_n 0, 1) := by decide +kernel
theorem dX8_about_75 : decode cX8_about 75 = .ok (.getfield 7, 3) := by decide +kernel
theorem dX8_about_78 : decode cX8_about 78 = .ok (.iconst 4, 1) := by decide +kernel
theorem dX8_about_79 : decode cX8_about 79 = .ok (.iaload, 1) := by decide +kernel
theorem dX8_about_80 : decode cX8_about 80 = .ok (.ireturn, 1) := by decide +kernel
theorem dX8_about_81 : decode cX8_about 81 = .ok (.iload_n 1, 1) := by decide +kernel
theorem dX8_about_82 : decode cX8_about 82 = .ok (.bipush 6, 2) := by decide +kernel
theorem dX8_about_84 : decode cX8_about 84 = .ok (.if_icmp .ne 10, 3) := by decide +kernel
theorem dX8_about_87 : decode cX8_about 87 = .ok (.aload_n 0, 1) := by decide +kernel
theorem dX8_about_88 : decode cX8_about 88 = .ok (.getfield 7, 3) := by decide +kernel
theorem dX8_about_91 : decode cX8_about 91 = .ok (.iconst 5, 1) := by decide +kernel
theorem dX8_about_92 : decode cX8_about 92 = .ok (.iaload, 1) := by decide +kernel
theorem dX8_about_93 : decode cX8_about 93 = .ok (.ireturn, 1) := by decide +kernel
theorem dX8_about_94 : decode cX8_about 94 = .ok (.iload_n 1, 1) := by decide +kernel
theorem dX8_about_95 : decode cX8_about 95 = .ok (.bipush 7, 2) := by decide +kernel
theorem dX8_about_97 : decode cX8_about 97 = .ok (.if_icmp .ne 16, 3) := by decide +kernel
theorem dX8_about_100 : decode cX8_about 100 = .ok (.aload_n 0, 1) := by decide +kernel
theorem dX8_about_101 : decode cX8_about 101 = .ok (.invokevirtual 81, 3) := by decide +kernel
theorem dX8_about_104 : decode cX8_about 104 = .ok (.ifCond .eq 7, 3) := by decide +kernel
theorem dX8_about_107 : decode cX8_about 107 = .ok (.iconst 1, 1) := by decide +kernel
theorem dX8_about_108 : decode cX8_about 108 = .ok (.goto 4, 3) := by decide +kernel
theorem dX8_about_111 : decode cX8_about 111 = .ok (.iconst 0, 1) := by decide +kernel
theorem dX8_about_112 : decode cX8_about 112 = .ok (.ireturn, 1) := by decide +kernel
theorem dX8_about_113 : decode cX8_about 113 = .ok (.iload_n 1, 1) := by decide +kernel
theorem dX8_about_114 : decode cX8_about 114 = .ok (.bipush 10, 2) := by decide +kernel
theorem dX8_about_116 : decode cX8_about 116 = .ok (.if_icmp .lt 27, 3) := by decide +kernel
theorem dX8_about_119 : decode cX8_about 119 = .ok (.aload_n 0, 1) := by decide +kernel
theorem dX8_about_120 : decode cX8_about 120 = .ok (.iload_n 1, 1) := by decide +kernel
theorem dX8_about_121 : decode cX8_about 121 = .ok (.bipush 10, 2) := by decide +kernel
theorem dX8_about_123 : decode cX8_about 123 = .ok (.isub, 1) := by decide +kernel
theorem dX8_about_124 : decode cX8_about 124 = .ok (.invokevirtual 55, 3) := by decide +kernel
theorem dX8_about_127 : decode cX8_about 127 = .ok (.ifCond .eq 16, 3) := by decide +kernel
theorem dX8_about_130 : decode cX8_about 130 = .ok (.aload_n 0, 1) := by decide +kernel
theorem dX8_about_131 : decode cX8_about 131 = .ok (.getfield 7, 3) := by decide +kernel
theorem dX8_about_134 : decode cX8_about 134 = .ok (.bipush 7, 2) := by decide +kernel
theorem dX8_about_136 : decode cX8_about 136 = .ok (.iload_n 1, 1) := by decide +kernel
theorem dX8_about_137 : decode cX8_about 137 = .ok (.iadd, 1) := by decide +kernel
theorem dX8_about_138 : decode cX8_about 138 = .ok (.bipush 10, 2) := by decide +kernel
theorem dX8_about_140 : decode cX8_about 140 = .ok (.isub, 1) := by decide +kernel
theorem dX8_about_141 : decode cX8_about 141 = .ok (.iaload, 1) := by decide +kernel
theorem dX8_about_142 : decode cX8_about 142 = .ok (.ireturn, 1) := by decide +kernel
theorem dX8_about_143 : decode cX8_about 143 = .ok (.iload_n 1, 1) := by decide +kernel
theorem dX8_about_144 : decode cX8_about 144 = .ok (.bipush 20, 2) := by decide +kernel
theorem dX8_about_146 : decode cX8_about 146 = .ok (.if_icmp .lt 27, 3) := by decide +kernel
theorem dX8_about_149 : decode cX8_about 149 = .ok (.aload_n 0, 1) := by decide +kernel
theorem dX8_about_150 : decode cX8_about 150 = .ok (.iload_n 1, 1) := by decide +kernel
theorem dX8_about_151 : decode cX8_about 151 = .ok (.bipush 20, 2) := by decide +kernel
theorem dX8_about_153 : decode cX8_about 153 = .ok (.isub, 1) := by decide +kernel
theorem dX8_about_154 : decode cX8_about 154 = .ok (.invokevirtual 55, 3) := by decide +kernel
theorem dX8_about_157 : decode cX8_about 157 = .ok (.ifCond .eq 16, 3) := by decide +kernel
theorem dX8_about_160 : decode cX8_about 160 = .ok (.aload_n 0, 1) := by decide +kernel
theorem dX8_about_161 : decode cX8_about 161 = .ok (.getfield 7, 3) := by decide +kernel
theorem dX8_about_164 : decode cX8_about 164 = .ok (.bipush 15, 2) := by decide +kernel
theorem dX8_about_166 : decode cX8_about 166 = .ok (.iload_n 1, 1) := by decide +kernel
theorem dX8_about_167 : decode cX8_about 167 = .ok (.iadd, 1) := by decide +kernel
theorem dX8_about_168 : decode cX8_about 168 = .ok (.bipush 20, 2) := by decide +kernel
theorem dX8_about_170 : decode cX8_about 170 = .ok (.isub, 1) := by decide +kernel
theorem dX8_about_171 : decode cX8_about 171 = .ok (.iaload, 1) := by decide +kernel
theorem dX8_about_172 : decode cX8_about 172 = .ok (.ireturn, 1) := by decide +kernel
theorem dX8_about_173 : decode cX8_about 173 = .ok (.iload_n 1, 1) := by decide +kernel
theorem dX8_about_174 : decode cX8_about 174 = .ok (.bipush 30, 2) := by decide +kernel
theorem dX8_about_176 : decode cX8_about 176 = .ok (.if_icmp .lt 35, 3) := by decide +kernel
theorem dX8_about_179 : decode cX8_about 179 = .ok (.aload_n 0, 1) := by decide +kernel
theorem dX8_about_180 : decode cX8_about 180 = .ok (.iload_n 1, 1) := by decide +kernel
theorem dX8_about_181 : decode cX8_about 181 = .ok (.bipush 30, 2) := by decide +kernel
theorem dX8_about_183 : decode cX8_about 183 = .ok (.isub, 1) := by decide +kernel
theorem dX8_about_184 : decode cX8_about 184 = .ok (.invokevirtual 55, 3) := by decide +kernel
theorem dX8_about_187 : decode cX8_about 187 = .ok (.ifCond .eq 24, 3) := by decide +kernel
theorem dX8_about_190 : decode cX8_about 190 = .ok (.aload_n 0, 1) := by decide +kernel
theorem dX8_about_191 : decode cX8_about 191 = .ok (.iload_n 1, 1) := by decide +kernel
theorem dX8_about_192 : decode cX8_about 192 = .ok (.bipush 30, 2) := by decide +kernel
theorem dX8_about_194 : decode cX8_about 194 = .ok (.isub, 1) := by decide +kernel
theorem dX8_about_195 : decode cX8_about 195 = .ok (.invokevirtual 77, 3) := by decide +kernel
theorem dX8_about_198 : decode cX8_about 198 = .ok (.iconst (-1), 1) := by decide +kernel
theorem dX8_about_199 : decode cX8_about 199 = .ok (.if_icmp .eq 12, 3) := by decide +kernel
theorem dX8_about_202 : decode cX8_about 202 = .ok (.aload_n 0, 1) := by decide +kernel
theorem dX8_about_203 : decode cX8_about 203 = .ok (.iload_n 1, 1) := by decide +kernel
theorem dX8_about_204 : decode cX8_about 204 = .ok (.bipush 30, 2) := by decide +kernel
theorem dX8_about_206 : decode cX8_about 206 = .ok (.isub, 1) := by decide +kernel
theorem dX8_about_207 : decode cX8_about 207 = .ok (.invokevirtual 77, 3) := by decide +kernel
theorem dX8_about_210 : decode cX8_about 210 = .ok (.ireturn, 1) := by decide +kernel
theorem dX8_about_211 : decode cX8_about 211 = .ok (.bipush (-100), 2) := by decide +kernel
theorem dX8_about_213 : decode cX8_about 213 = .ok (.ireturn, 1) := by decide +kernel
theorem dX8_down_0 : decode cX8_down 0 = .ok (.aload_n 0, 1) := by decide +kernel
theorem dX8_down_1 : decode cX8_down 1 = .ok (.iconst 0, 1) := by decide +kernel
theorem dX8_down_2 : decode cX8_down 2 = .ok (.putfield 34, 3) := by decide +kernel
theorem dX8_down_5 : decode cX8_down 5 = .ok (.aload_n 0, 1) := by decide +kernel
theorem dX8_down_6 : decode cX8_down 6 = .ok (.invokevirtual 49, 3) := by decide +kernel
theorem dX8_down_9 : decode cX8_down 9 = .ok (.aload_n 0, 1) := by decide +kernel
theorem dX8_down_10 : decode cX8_down 10 = .ok (.iload_n 1, 1) := by decide +kernel
theorem dX8_down_11 : decode cX8_down 11 = .ok (.invokevirtual 71, 3) := by decide +kernel
theorem dX8_down_14 : decode cX8_down 14 = .ok (.ifCond .eq 15, 3) := by decide +kernel
theorem dX8_down_17 : decode cX8_down 17 = .ok (.aload_n 0, 1) := by decide +kernel
theorem dX8_down_18 : decode cX8_down 18 = .ok (.getfield 7, 3) := by decide +kernel
theorem dX8_down_21 : decode cX8_down 21 = .ok (.bipush 23, 2) := by decide +kernel
theorem dX8_down_23 : decode cX8_down 23 = .ok (.iload_n 1, 1) := by decide +kernel
theorem dX8_down_24 : decode cX8_down 24 = .ok (.iadd, 1) := by decide +kernel
theorem dX8_down_25 : decode cX8_down 25 = .ok (.iaload, 1) := by decide +kernel
theorem dX8_down_26 : decode cX8_down 26 = .ok (.goto 4, 3) := by decide +kernel
theorem dX8_down_29 : decode cX8_down 29 = .ok (.iconst (-1), 1) := by decide +kernel
theorem dX8_down_30 : decode cX8_down 30 = .ok (.ireturn, 1) := by decide +kernel
theorem dX8_isDown_0 : decode cX8_isDown 0 = .ok (.aload_n 0, 1) := by decide +kernel
theorem dX8_isDown_1 : decode cX8_isDown 1 = .ok (.getfield 7, 3) := by decide +kernel
theorem dX8_isDown_4 : decode cX8_isDown 4 = .ok (.bipush 23, 2) := by decide +kernel
theorem dX8_isDown_6 : decode cX8_isDown 6 = .ok (.iload_n 2, 1) := by decide +kernel
theorem dX8_isDown_7 : decode cX8_isDown 7 = .ok (.iadd, 1) := by decide +kernel
theorem dX8_isDown_8 : decode cX8_isDown 8 = .ok (.iaload, 1) := by decide +kernel
theorem dX8_isDown_9 : decode cX8_isDown 9 = .ok (.iload_n 1, 1) := by decide +kernel
theorem dX8_isDown_10 : decode cX8_isDown 10 = .ok (.ishr, 1) := by decide +kernel
theorem dX8_isDown_11 : decode cX8_isDown 11 = .ok (.iconst 1, 1) := by decide +kernel
theorem dX8_isDown_12 : decode cX8_isDown 12 = .ok (.iand, 1) := by decide +kernel
theorem dX8_isDown_13 : decode cX8_isDown 13 = .ok (.iconst 1, 1) := by decide +kernel
theorem dX8_isDown_14 : decode cX8_isDown 14 = .ok (.if_icmp .ne 7, 3) := by decide +kernel
theorem dX8_isDown_17 : decode cX8_isDown 17 = .ok (.iconst 1, 1) := by decide +kernel
theorem dX8_isDown_18 : decode cX8_isDown 18 = .ok (.goto 4, 3) := by decide +kernel
theorem dX8_isDown_21 : decode cX8_isDown 21 = .ok (.iconst 0, 1) := by decide +kernel
theorem dX8_isDown_22 : decode cX8_isDown 22 = .ok (.ireturn, 1) := by decide +kernel
theorem dX8_stance_0 : decode cX8_stance 0 = .ok (.aload_n 0, 1) := by decide +kernel
theorem dX8_stance_1 : decode cX8_stance 1 = .ok (.iload_n 1, 1) := by decide +kernel
theorem dX8_stance_2 : decode cX8_stance 2 = .ok (.iload_n 2, 1) := by decide +kernel
theorem dX8_stance_3 : decode cX8_stance 3 = .ok (.invokevirtual 85, 3) := by decide +kernel
theorem dX8_stance_6 : decode cX8_stance 6 = .ok (.aload_n 0, 1) := by decide +kernel
theorem dX8_stance_7 : decode cX8_stance 7 = .ok (.iload_n 1, 1) := by decide +kernel
theorem dX8_stance_8 : decode cX8_stance 8 = .ok (.iload_n 2, 1) := by decide +kernel
theorem dX8_stance_9 : decode cX8_stance 9 = .ok (.invokevirtual 88, 3) := by decide +kernel
theorem dX8_stance_12 : decode cX8_stance 12 = .ok (.iadd, 1) := by decide +kernel
theorem dX8_stance_13 : decode cX8_stance 13 = .ok (.iconst 1, 1) := by decide +kernel
theorem dX8_stance_14 : decode cX8_stance 14 = .ok (.iadd, 1) := by decide +kernel
theorem dX8_stance_15 : decode cX8_stance 15 = .ok (.aload_n 0, 1) := by decide +kernel
theorem dX8_stance_16 : decode cX8_stance 16 = .ok (.getfield 7, 3) := by decide +kernel
theorem dX8_stance_19 : decode cX8_stance 19 = .ok (.bipush 6, 2) := by decide +kernel
theorem dX8_stance_21 : decode cX8_stance 21 = .ok (.iaload, 1) := by decide +kernel
theorem dX8_stance_22 : decode cX8_stance 22 = .ok (.if_icmp .le 7, 3) := by decide +kernel
theorem dX8_stance_25 : decode cX8_stance 25 = .ok (.iconst 1, 1) := by decide +kernel
theorem dX8_stance_26 : decode cX8_stance 26 = .ok (.goto 18, 3) := by decide +kernel
theorem dX8_stance_29 : decode cX8_stance 29 = .ok (.aload_n 0, 1) := by decide +kernel
theorem dX8_stance_30 : decode cX8_stance 30 = .ok (.iload_n 1, 1) := by decide +kernel
theorem dX8_stance_31 : decode cX8_stance 31 = .ok (.iload_n 2, 1) := by decide +kernel
theorem dX8_stance_32 : decode cX8_stance 32 = .ok (.invokevirtual 85, 3) := by decide +kernel
theorem dX8_stance_35 : decode cX8_stance 35 = .ok (.aload_n 0, 1) := by decide +kernel
theorem dX8_stance_36 : decode cX8_stance 36 = .ok (.iload_n 1, 1) := by decide +kernel
theorem dX8_stance_37 : decode cX8_stance 37 = .ok (.iload_n 2, 1) := by decide +kernel
theorem dX8_stance_38 : decode cX8_stance 38 = .ok (.invokevirtual 88, 3) := by decide +kernel
theorem dX8_stance_41 : decode cX8_stance 41 = .ok (.iadd, 1) := by decide +kernel
theorem dX8_stance_42 : decode cX8_stance 42 = .ok (.iconst 1, 1) := by decide +kernel
theorem dX8_stance_43 : decode cX8_stance 43 = .ok (.iadd, 1) := by decide +kernel
theorem dX8_stance_44 : decode cX8_stance 44 = .ok (.ireturn, 1) := by decide +kernel
theorem dX8_ahead_0 : decode cX8_ahead 0 = .ok (.iconst 0, 1) := by decide +kernel
theorem dX8_ahead_1 : decode cX8_ahead 1 = .ok (.istore_n 3, 1) := by decide +kernel
theorem dX8_ahead_2 : decode cX8_ahead 2 = .ok (.iload_n 3, 1) := by decide +kernel
theorem dX8_ahead_3 : decode cX8_ahead 3 = .ok (.aload_n 0, 1) := by decide +kernel
theorem dX8_ahead_4 : decode cX8_ahead 4 = .ok (.getfield 7, 3) := by decide +kernel
theorem dX8_ahead_7 : decode cX8_ahead 7 = .ok (.bipush 6, 2) := by decide +kernel
theorem dX8_ahead_9 : decode cX8_ahead 9 = .ok (.iaload, 1) := by decide +kernel
theorem dX8_ahead_10 : decode cX8_ahead 10 = .ok (.if_icmp .ge 41, 3) := by decide +kernel
theorem dX8_ahead_13 : decode cX8_ahead 13 = .ok (.aload_n 0, 1) := by decide +kernel
theorem dX8_ahead_14 : decode cX8_ahead 14 = .ok (.iload_n 1, 1) := by decide +kernel
theorem dX8_ahead_15 : decode cX8_ahead 15 = .ok (.iload_n 2, 1) := by decide +kernel
theorem dX8_ahead_16 : decode cX8_ahead 16 = .ok (.iload_n 3, 1) := by decide +kernel
theorem dX8_ahead_17 : decode cX8_ahead 17 = .ok (.isub, 1) := by decide +kernel
theorem dX8_ahead_18 : decode cX8_ahead 18 = .ok (.iconst 1, 1) := by decide +kernel
theorem dX8_ahead_19 : decode cX8_ahead 19 = .ok (.isub, 1) := by decide +kernel
theorem dX8_ahead_20 : decode cX8_ahead 20 = .ok (.iconst 2, 1) := by decide +kernel
theorem dX8_ahead_21 : decode cX8_ahead 21 = .ok (.aload_n 0, 1) := by decide +kernel
theorem dX8_ahead_22 : decode cX8_ahead 22 = .ok (.getfield 7, 3) := by decide +kernel
theorem dX8_ahead_25 : decode cX8_ahead 25 = .ok (.bipush 6, 2) := by decide +kernel
theorem dX8_ahead_27 : decode cX8_ahead 27 = .ok (.iaload, 1) := by decide +kernel
theorem dX8_ahead_28 : decode cX8_ahead 28 = .ok (.imul, 1) := by decide +kernel
theorem dX8_ahead_29 : decode cX8_ahead 29 = .ok (.iadd, 1) := by decide +kernel
theorem dX8_ahead_30 : decode cX8_ahead 30 = .ok (.aload_n 0, 1) := by decide +kernel
theorem dX8_ahead_31 : decode cX8_ahead 31 = .ok (.getfield 7, 3) := by decide +kernel
theorem dX8_ahead_34 : decode cX8_ahead 34 = .ok (.bipush 6, 2) := by decide +kernel
theorem dX8_ahead_36 : decode cX8_ahead 36 = .ok (.iaload, 1) := by decide +kernel
theorem dX8_ahead_37 : decode cX8_ahead 37 = .ok (.irem, 1) := by decide +kernel
theorem dX8_ahead_38 : decode cX8_ahead 38 = .ok (.invokevirtual 91, 3) := by decide +kernel
theorem dX8_ahead_41 : decode cX8_ahead 41 = .ok (.ifCond .eq 10, 3) := by decide +kernel
theorem dX8_ahead_44 : decode cX8_ahead 44 = .ok (.iload_n 3, 1) := by decide +kernel
theorem dX8_ahead_45 : decode cX8_ahead 45 = .ok (.iconst 1, 1) := by decide +kernel
theorem dX8_ahead_46 : decode cX8_ahead 46 = .ok (.iadd, 1) := by decide +kernel
theorem dX8_ahead_47 : decode cX8_ahead 47 = .ok (.istore_n 3, 1) := by decide +kernel
theorem dX8_ahead_48 : decode cX8_ahead 48 = .ok (.goto (-46), 3) := by decide +kernel
theorem dX8_ahead_51 : decode cX8_ahead 51 = .ok (.iload_n 3, 1) := by decide +kernel
theorem dX8_ahead_52 : decode cX8_ahead 52 = .ok (.ireturn, 1) := by decide +kernel
theorem dX8_behind_0 : decode cX8_behind 0 = .ok (.iconst 0, 1) := by decide +kernel
theorem dX8_behind_1 : decode cX8_behind 1 = .ok (.istore_n 3, 1) := by decide +kernel
theorem dX8_behind_2 : decode cX8_behind 2 = .ok (.iload_n 3, 1) := by decide +kernel
theorem dX8_behind_3 : decode cX8_behind 3 = .ok (.aload_n 0, 1) := by decide +kernel
theorem dX8_behind_4 : decode cX8_behind 4 = .ok (.getfield 7, 3) := by decide +kernel
theorem dX8_behind_7 : decode cX8_behind 7 = .ok (.bipush 6, 2) := by decide +kernel
theorem dX8_behind_9 : decode cX8_behind 9 = .ok (.iaload, 1) := by decide +kernel
theorem dX8_behind_10 : decode cX8_behind 10 = .ok (.if_icmp .ge 31, 3) := by decide +kernel
theorem dX8_behind_13 : decode cX8_behind 13 = .ok (.aload_n 0, 1) := by decide +kernel
theorem dX8_behind_14 : decode cX8_behind 14 = .ok (.iload_n 1, 1) := by decide +kernel
theorem dX8_behind_15 : decode cX8_behind 15 = .ok (.iload_n 2, 1) := by decide +kernel
theorem dX8_behind_16 : decode cX8_behind 16 = .ok (.iload_n 3, 1) := by decide +kernel
theorem dX8_behind_17 : decode cX8_behind 17 = .ok (.iadd, 1) := by decide +kernel
theorem dX8_behind_18 : decode cX8_behind 18 = .ok (.iconst 1, 1) := by decide +kernel
theorem dX8_behind_19 : decode cX8_behind 19 = .ok (.iadd, 1) := by decide +kernel
theorem dX8_behind_20 : decode cX8_behind 20 = .ok (.aload_n 0, 1) := by decide +kernel
theorem dX8_behind_21 : decode cX8_behind 21 = .ok (.getfield 7, 3) := by decide +kernel
theorem dX8_behind_24 : decode cX8_behind 24 = .ok (.bipush 6, 2) := by decide +kernel
theorem dX8_behind_26 : decode cX8_behind 26 = .ok (.iaload, 1) := by decide +kernel
theorem dX8_behind_27 : decode cX8_behind 27 = .ok (.irem, 1) := by decide +kernel
theorem dX8_behind_28 : decode cX8_behind 28 = .ok (.invokevirtual 91, 3) := by decide +kernel
theorem dX8_behind_31 : decode cX8_behind 31 = .ok (.ifCond .eq 10, 3) := by decide +kernel
theorem dX8_behind_34 : decode cX8_behind 34 = .ok (.iload_n 3, 1) := by decide +kernel
theorem dX8_behind_35 : decode cX8_behind 35 = .ok (.iconst 1, 1) := by decide +kernel
theorem dX8_behind_36 : decode cX8_behind 36 = .ok (.iadd, 1) := by decide +kernel
theorem dX8_behind_37 : decode cX8_behind 37 = .ok (.istore_n 3, 1) := by decide +kernel
theorem dX8_behind_38 : decode cX8_behind 38 = .ok (.goto (-36), 3) := by decide +kernel
theorem dX8_behind_41 : decode cX8_behind 41 = .ok (.iload_n 3, 1) := by decide +kernel
theorem dX8_behind_42 : decode cX8_behind 42 = .ok (.ireturn, 1) := by decide +kernel
theorem dX8_footY_0 : decode cX8_footY 0 = .ok (.aload_n 0, 1) := by decide +kernel
theorem dX8_footY_1 : decode cX8_footY 1 = .ok (.iload_n 1, 1) := by decide +kernel
theorem dX8_footY_2 : decode cX8_footY 2 = .ok (.iload_n 2, 1) := by decide +kernel
theorem dX8_footY_3 : decode cX8_footY 3 = .ok (.invokevirtual 94, 3) := by decide +kernel
theorem dX8_footY_6 : decode cX8_footY 6 = .ok (.istore_n 3, 1) := by decide +kernel
theorem dX8_footY_7 : decode cX8_footY 7 = .ok (.iload_n 3, 1) := by decide +kernel
theorem dX8_footY_8 : decode cX8_footY 8 = .ok (.iconst 1, 1) := by decide +kernel
theorem dX8_footY_9 : decode cX8_footY 9 = .ok (.if_icmp .ne 7, 3) := by decide +kernel
theorem dX8_footY_12 : decode cX8_footY 12 = .ok (.iconst 0, 1) := by decide +kernel
theorem dX8_footY_13 : decode cX8_footY 13 = .ok (.goto 9, 3) := by decide +kernel
theorem dX8_footY_16 : decode cX8_footY 16 = .ok (.aload_n 0, 1) := by decide +kernel
theorem dX8_footY_17 : decode cX8_footY 17 = .ok (.iload_n 1, 1) := by decide +kernel
theorem dX8_footY_18 : decode cX8_footY 18 = .ok (.iload_n 2, 1) := by decide +kernel
theorem dX8_footY_19 : decode cX8_footY 19 = .ok (.invokevirtual 85, 3) := by decide +kernel
theorem dX8_footY_22 : decode cX8_footY 22 = .ok (.istore 4, 2) := by decide +kernel
theorem dX8_footY_24 : decode cX8_footY 24 = .ok (.iconst 2, 1) := by decide +kernel
theorem dX8_footY_25 : decode cX8_footY 25 = .ok (.aload_n 0, 1) := by decide +kernel
theorem dX8_footY_26 : decode cX8_footY 26 = .ok (.getfield 7, 3) := by decide +kernel
theorem dX8_footY_29 : decode cX8_footY 29 = .ok (.bipush 15, 2) := by decide +kernel
theorem dX8_footY_31 : decode cX8_footY 31 = .ok (.iload_n 1, 1) := by decide +kernel
theorem dX8_footY_32 : decode cX8_footY 32 = .ok (.iadd, 1) := by decide +kernel
theorem dX8_footY_33 : decode cX8_footY 33 = .ok (.iaload, 1) := by decide +kernel
theorem dX8_footY_34 : decode cX8_footY 34 = .ok (.imul, 1) := by decide +kernel
theorem dX8_footY_35 : decode cX8_footY 35 = .ok (.aload_n 0, 1) := by decide +kernel
theorem dX8_footY_36 : decode cX8_footY 36 = .ok (.getfield 7, 3) := by decide +kernel
theorem dX8_footY_39 : decode cX8_footY 39 = .ok (.iconst 2, 1) := by decide +kernel
theorem dX8_footY_40 : decode cX8_footY 40 = .ok (.iaload, 1) := by decide +kernel
theorem dX8_footY_41 : decode cX8_footY 41 = .ok (.iload_n 3, 1) := by decide +kernel
theorem dX8_footY_42 : decode cX8_footY 42 = .ok (.iconst 1, 1) := by decide +kernel
theorem dX8_footY_43 : decode cX8_footY 43 = .ok (.isub, 1) := by decide +kernel
theorem dX8_footY_44 : decode cX8_footY 44 = .ok (.iconst 2, 1) := by decide +kernel
theorem dX8_footY_45 : decode cX8_footY 45 = .ok (.iload 4, 2) := by decide +kernel
theorem dX8_footY_47 : decode cX8_footY 47 = .ok (.imul, 1) := by decide +kernel
theorem dX8_footY_48 : decode cX8_footY 48 = .ok (.isub, 1) := by decide +kernel
theorem dX8_footY_49 : decode cX8_footY 49 = .ok (.imul, 1) := by decide +kernel
theorem dX8_footY_50 : decode cX8_footY 50 = .ok (.iadd, 1) := by decide +kernel
theorem dX8_footY_51 : decode cX8_footY 51 = .ok (.ireturn, 1) := by decide +kernel
theorem dX8_foot_0 : decode cX8_foot 0 = .ok (.aload_n 0, 1) := by decide +kernel
theorem dX8_foot_1 : decode cX8_foot 1 = .ok (.iconst 0, 1) := by decide +kernel
theorem dX8_foot_2 : decode cX8_foot 2 = .ok (.putfield 34, 3) := by decide +kernel
theorem dX8_foot_5 : decode cX8_foot 5 = .ok (.aload_n 0, 1) := by decide +kernel
theorem dX8_foot_6 : decode cX8_foot 6 = .ok (.invokevirtual 49, 3) := by decide +kernel
theorem dX8_foot_9 : decode cX8_foot 9 = .ok (.aload_n 0, 1) := by decide +kernel
theorem dX8_foot_10 : decode cX8_foot 10 = .ok (.iload_n 1, 1) := by decide +kernel
theorem dX8_foot_11 : decode cX8_foot 11 = .ok (.invokevirtual 55, 3) := by decide +kernel
theorem dX8_foot_14 : decode cX8_foot 14 = .ok (.ifCond .eq 29, 3) := by decide +kernel
theorem dX8_foot_17 : decode cX8_foot 17 = .ok (.aload_n 0, 1) := by decide +kernel
theorem dX8_foot_18 : decode cX8_foot 18 = .ok (.iload_n 2, 1) := by decide +kernel
theorem dX8_foot_19 : decode cX8_foot 19 = .ok (.invokevirtual 71, 3) := by decide +kernel
theorem dX8_foot_22 : decode cX8_foot 22 = .ok (.ifCond .eq 21, 3) := by decide +kernel
theorem dX8_foot_25 : decode cX8_foot 25 = .ok (.iload_n 3, 1) := by decide +kernel
theorem dX8_foot_26 : decode cX8_foot 26 = .ok (.ifCond .lt 17, 3) := by decide +kernel
theorem dX8_foot_29 : decode cX8_foot 29 = .ok (.iload_n 3, 1) := by decide +kernel
theorem dX8_foot_30 : decode cX8_foot 30 = .ok (.iconst 1, 1) := by decide +kernel
theorem dX8_foot_31 : decode cX8_foot 31 = .ok (.if_icmp .gt 12, 3) := by decide +kernel
theorem dX8_foot_34 : decode cX8_foot 34 = .ok (.aload_n 0, 1) := by decide +kernel
theorem dX8_foot_35 : decode cX8_foot 35 = .ok (.iload_n 1, 1) := by decide +kernel
theorem dX8_foot_36 : decode cX8_foot 36 = .ok (.iload_n 2, 1) := by decide +kernel
theorem dX8_foot_37 : decode cX8_foot 37 = .ok (.invokevirtual 91, 3) := by decide +kernel
theorem dX8_foot_40 : decode cX8_foot 40 = .ok (.ifCond .ne 7, 3) := by decide +kernel
theorem dX8_foot_43 : decode cX8_foot 43 = .ok (.sipush (-1000), 3) := by decide +kernel
theorem dX8_foot_46 : decode cX8_foot 46 = .ok (.ireturn, 1) := by decide +kernel
theorem dX8_foot_47 : decode cX8_foot 47 = .ok (.iload_n 3, 1) := by decide +kernel
theorem dX8_foot_48 : decode cX8_foot 48 = .ok (.ifCond .ne 17, 3) := by decide +kernel
theorem dX8_foot_51 : decode cX8_foot 51 = .ok (.iconst 2, 1) := by decide +kernel
theorem dX8_foot_52 : decode cX8_foot 52 = .ok (.aload_n 0, 1) := by decide +kernel
theorem dX8_foot_53 : decode cX8_foot 53 = .ok (.getfield 7, 3) := by decide +kernel
theorem dX8_foot_56 : decode cX8_foot 56 = .ok (.bipush 7, 2) := by decide +kernel
theorem dX8_foot_58 : decode cX8_foot 58 = .ok (.iload_n 1, 1) := by decide +kernel
theorem dX8_foot_59 : decode cX8_foot 59 = .ok (.iadd, 1) := by decide +kernel
theorem dX8_foot_60 : decode cX8_foot 60 = .ok (.iaload, 1) := by decide +kernel
theorem dX8_foot_61 : decode cX8_foot 61 = .ok (.imul, 1) := by decide +kernel
theorem dX8_foot_62 : decode cX8_foot 62 = .ok (.goto 9, 3) := by decide +kernel
theorem dX8_foot_65 : decode cX8_foot 65 = .ok (.aload_n 0, 1) := by decide +kernel
theorem dX8_foot_66 : decode cX8_foot 66 = .ok (.iload_n 1, 1) := by decide +kernel
theorem dX8_foot_67 : decode cX8_foot 67 = .ok (.iload_n 2, 1) := by decide +kernel
theorem dX8_foot_68 : decode cX8_foot 68 = .ok (.invokevirtual 97, 3) := by decide +kernel
theorem dX8_foot_71 : decode cX8_foot 71 = .ok (.ireturn, 1) := by decide +kernel
theorem dX8_stand_0 : decode cX8_stand 0 = .ok (.aload_n 0, 1) := by decide +kernel
theorem dX8_stand_1 : decode cX8_stand 1 = .ok (.getfield 16, 3) := by decide +kernel
theorem dX8_stand_4 : decode cX8_stand 4 = .ok (.aload_n 0, 1) := by decide +kernel
theorem dX8_stand_5 : decode cX8_stand 5 = .ok (.getfield 100, 3) := by decide +kernel
theorem dX8_stand_8 : decode cX8_stand 8 = .ok (.iload_n 1, 1) := by decide +kernel
theorem dX8_stand_9 : decode cX8_stand 9 = .ok (.iastore, 1) := by decide +kernel
theorem dX8_stand_10 : decode cX8_stand 10 = .ok (.aload_n 0, 1) := by decide +kernel
theorem dX8_stand_11 : decode cX8_stand 11 = .ok (.getfield 19, 3) := by decide +kernel
theorem dX8_stand_14 : decode cX8_stand 14 = .ok (.aload_n 0, 1) := by decide +kernel
theorem dX8_stand_15 : decode cX8_stand 15 = .ok (.getfield 100, 3) := by decide +kernel
theorem dX8_stand_18 : decode cX8_stand 18 = .ok (.iload_n 2, 1) := by decide +kernel
theorem dX8_stand_19 : decode cX8_stand 19 = .ok (.iastore, 1) := by decide +kernel
theorem dX8_stand_20 : decode cX8_stand 20 = .ok (.aload_n 0, 1) := by decide +kernel
theorem dX8_stand_21 : decode cX8_stand 21 = .ok (.aload_n 0, 1) := by decide +kernel
theorem dX8_stand_22 : decode cX8_stand 22 = .ok (.getfield 100, 3) := by decide +kernel
theorem dX8_stand_25 : decode cX8_stand 25 = .ok (.iconst 1, 1) := by decide +kernel
theorem dX8_stand_26 : decode cX8_stand 26 = .ok (.iadd, 1) := by decide +kernel
theorem dX8_stand_27 : decode cX8_stand 27 = .ok (.putfield 100, 3) := by decide +kernel
theorem dX8_stand_30 : decode cX8_stand 30 = .ok (.return_, 1) := by decide +kernel
theorem dX8_place_0 : decode cX8_place 0 = .ok (.aload_n 0, 1) := by decide +kernel
theorem dX8_place_1 : decode cX8_place 1 = .ok (.getfield 103, 3) := by decide +kernel
theorem dX8_place_4 : decode cX8_place 4 = .ok (.ifCond .eq 18, 3) := by decide +kernel
theorem dX8_place_7 : decode cX8_place 7 = .ok (.iload_n 1, 1) := by decide +kernel
theorem dX8_place_8 : decode cX8_place 8 = .ok (.aload_n 0, 1) := by decide +kernel
theorem dX8_place_9 : decode cX8_place 9 = .ok (.getfield 106, 3) := by decide +kernel
theorem dX8_place_12 : decode cX8_place 12 = .ok (.imul, 1) := by decide +kernel
theorem dX8_place_13 : decode cX8_place 13 = .ok (.aload_n 0, 1) := by decide +kernel
theorem dX8_place_14 : decode cX8_place 14 = .ok (.getfield 109, 3) := by decide +kernel
theorem dX8_place_17 : decode cX8_place 17 = .ok (.iload_n 2, 1) := by decide +kernel
theorem dX8_place_18 : decode cX8_place 18 = .ok (.imul, 1) := by decide +kernel
theorem dX8_place_19 : decode cX8_place 19 = .ok (.if_icmp .ge 13, 3) := by decide +kernel
theorem dX8_place_22 : decode cX8_place 22 = .ok (.aload_n 0, 1) := by decide +kernel
theorem dX8_place_23 : decode cX8_place 23 = .ok (.iload_n 1, 1) := by decide +kernel
theorem dX8_place_24 : decode cX8_place 24 = .ok (.putfield 109, 3) := by decide +kernel
theorem dX8_place_27 : decode cX8_place 27 = .ok (.aload_n 0, 1) := by decide +kernel
theorem dX8_place_28 : decode cX8_place 28 = .ok (.iload_n 2, 1) := by decide +kernel
theorem dX8_place_29 : decode cX8_place 29 = .ok (.putfield 106, 3) := by decide +kernel
theorem dX8_place_32 : decode cX8_place 32 = .ok (.aload_n 0, 1) := by decide +kernel
theorem dX8_place_33 : decode cX8_place 33 = .ok (.getfield 103, 3) := by decide +kernel
theorem dX8_place_36 : decode cX8_place 36 = .ok (.ifCond .eq 18, 3) := by decide +kernel
theorem dX8_place_39 : decode cX8_place 39 = .ok (.iload_n 1, 1) := by decide +kernel
theorem dX8_place_40 : decode cX8_place 40 = .ok (.aload_n 0, 1) := by decide +kernel
theorem dX8_place_41 : decode cX8_place 41 = .ok (.getfield 112, 3) := by decide +kernel
theorem dX8_place_44 : decode cX8_place 44 = .ok (.imul, 1) := by decide +kernel
theorem dX8_place_45 : decode cX8_place 45 = .ok (.aload_n 0, 1) := by decide +kernel
theorem dX8_place_46 : decode cX8_place 46 = .ok (.getfield 115, 3) := by decide +kernel
theorem dX8_place_49 : decode cX8_place 49 = .ok (.iload_n 2, 1) := by decide +kernel
theorem dX8_place_50 : decode cX8_place 50 = .ok (.imul, 1) := by decide +kernel
theorem dX8_place_51 : decode cX8_place 51 = .ok (.if_icmp .le 13, 3) := by decide +kernel
theorem dX8_place_54 : decode cX8_place 54 = .ok (.aload_n 0, 1) := by decide +kernel
theorem dX8_place_55 : decode cX8_place 55 = .ok (.iload_n 1, 1) := by decide +kernel
theorem dX8_place_56 : decode cX8_place 56 = .ok (.putfield 115, 3) := by decide +kernel
theorem dX8_place_59 : decode cX8_place 59 = .ok (.aload_n 0, 1) := by decide +kernel
theorem dX8_place_60 : decode cX8_place 60 = .ok (.iload_n 2, 1) := by decide +kernel
theorem dX8_place_61 : decode cX8_place 61 = .ok (.putfield 112, 3) := by decide +kernel
theorem dX8_place_64 : decode cX8_place 64 = .ok (.aload_n 0, 1) := by decide +kernel
theorem dX8_place_65 : decode cX8_place 65 = .ok (.iconst 1, 1) := by decide +kernel
theorem dX8_place_66 : decode cX8_place 66 = .ok (.putfield 103, 3) := by decide +kernel
theorem dX8_place_69 : decode cX8_place 69 = .ok (.return_, 1) := by decide +kernel
theorem dX8_spans_0 : decode cX8_spans 0 = .ok (.aload_n 0, 1) := by decide +kernel
theorem dX8_spans_1 : decode cX8_spans 1 = .ok (.iconst 0, 1) := by decide +kernel
theorem dX8_spans_2 : decode cX8_spans 2 = .ok (.putfield 103, 3) := by decide +kernel
theorem dX8_spans_5 : decode cX8_spans 5 = .ok (.iconst 0, 1) := by decide +kernel
theorem dX8_spans_6 : decode cX8_spans 6 = .ok (.istore_n 2, 1) := by decide +kernel
theorem dX8_spans_7 : decode cX8_spans 7 = .ok (.iload_n 2, 1) := by decide +kernel
theorem dX8_spans_8 : decode cX8_spans 8 = .ok (.aload_n 0, 1) := by decide +kernel
theorem dX8_spans_9 : decode cX8_spans 9 = .ok (.getfield 100, 3) := by decide +kernel
theorem dX8_spans_12 : decode cX8_spans 12 = .ok (.if_icmp .ge 122, 3) := by decide +kernel
theorem dX8_spans_15 : decode cX8_spans 15 = .ok (.aload_n 0, 1) := by decide +kernel
theorem dX8_spans_16 : decode cX8_spans 16 = .ok (.getfield 16, 3) := by decide +kernel
theorem dX8_spans_19 : decode cX8_spans 19 = .ok (.iload_n 2, 1) := by decide +kernel
theorem dX8_spans_20 : decode cX8_spans 20 = .ok (.iaload, 1) := by decide +kernel
theorem dX8_spans_21 : decode cX8_spans 21 = .ok (.iload_n 1, 1) := by decide +kernel
theorem dX8_spans_22 : decode cX8_spans 22 = .ok (.if_icmp .ne 14, 3) := by decide +kernel
theorem dX8_spans_25 : decode cX8_spans 25 = .ok (.aload_n 0, 1) := by decide +kernel
theorem dX8_spans_26 : decode cX8_spans 26 = .ok (.aload_n 0, 1) := by decide +kernel
theorem dX8_spans_27 : decode cX8_spans 27 = .ok (.getfield 19, 3) := by decide +kernel
theorem dX8_spans_30 : decode cX8_spans 30 = .ok (.iload_n 2, 1) := by decide +kernel
theorem dX8_spans_31 : decode cX8_spans 31 = .ok (.iaload, 1) := by decide +kernel
theorem dX8_spans_32 : decode cX8_spans 32 = .ok (.iconst 1, 1) := by decide +kernel
theorem dX8_spans_33 : decode cX8_spans 33 = .ok (.invokevirtual 118, 3) := by decide +kernel
theorem dX8_spans_36 : decode cX8_spans 36 = .ok (.iconst 0, 1) := by decide +kernel
theorem dX8_spans_37 : decode cX8_spans 37 = .ok (.istore_n 3, 1) := by decide +kernel
theorem dX8_spans_38 : decode cX8_spans 38 = .ok (.iload_n 3, 1) := by decide +kernel
theorem dX8_spans_39 : decode cX8_spans 39 = .ok (.aload_n 0, 1) := by decide +kernel
theorem dX8_spans_40 : decode cX8_spans 40 = .ok (.getfield 100, 3) := by decide +kernel
theorem dX8_spans_43 : decode cX8_spans 43 = .ok (.if_icmp .ge 85, 3) := by decide +kernel
theorem dX8_spans_46 : decode cX8_spans 46 = .ok (.aload_n 0, 1) := by decide +kernel
theorem dX8_spans_47 : decode cX8_spans 47 = .ok (.getfield 16, 3) := by decide +kernel
theorem dX8_spans_50 : decode cX8_spans 50 = .ok (.iload_n 2, 1) := by decide +kernel
theorem dX8_spans_51 : decode cX8_spans 51 = .ok (.iaload, 1) := by decide +kernel
theorem dX8_spans_52 : decode cX8_spans 52 = .ok (.iload_n 1, 1) := by decide +kernel
theorem dX8_spans_53 : decode cX8_spans 53 = .ok (.if_icmp .ge 69, 3) := by decide +kernel
theorem dX8_spans_56 : decode cX8_spans 56 = .ok (.aload_n 0, 1) := by decide +kernel
theorem dX8_spans_57 : decode cX8_spans 57 = .ok (.getfield 16, 3) := by decide +kernel
theorem dX8_spans_60 : decode cX8_spans 60 = .ok (.iload_n 3, 1) := by decide +kernel
theorem dX8_spans_61 : decode cX8_spans 61 = .ok (.iaload, 1) := by decide +kernel
theorem dX8_spans_62 : decode cX8_spans 62 = .ok (.iload_n 1, 1) := by decide +kernel
theorem dX8_spans_63 : decode cX8_spans 63 = .ok (.if_icmp .gt 6, 3) := by decide +kernel
theorem dX8_spans_66 : decode cX8_spans 66 = .ok (.goto 56, 3) := by decide +kernel
theorem dX8_spans_69 : decode cX8_spans 69 = .ok (.aload_n 0, 1) := by decide +kernel
theorem dX8_spans_70 : decode cX8_spans 70 = .ok (.getfield 16, 3) := by decide +kernel
theorem dX8_spans_73 : decode cX8_spans 73 = .ok (.iload_n 3, 1) := by decide +kernel
theorem dX8_spans_74 : decode cX8_spans 74 = .ok (.iaload, 1) := by decide +kernel
theorem dX8_spans_75 : decode cX8_spans 75 = .ok (.aload_n 0, 1) := by decide +kernel
theorem dX8_spans_76 : decode cX8_spans 76 = .ok (.getfield 16, 3) := by decide +kernel
theorem dX8_spans_79 : decode cX8_spans 79 = .ok (.iload_n 2, 1) := by decide +kernel
theorem dX8_spans_80 : decode cX8_spans 80 = .ok (.iaload, 1) := by decide +kernel
theorem dX8_spans_81 : decode cX8_spans 81 = .ok (.isub, 1) := by decide +kernel
theorem dX8_spans_82 : decode cX8_spans 82 = .ok (.istore 4, 2) := by decide +kernel
theorem dX8_spans_84 : decode cX8_spans 84 = .ok (.aload_n 0, 1) := by decide +kernel
theorem dX8_spans_85 : decode cX8_spans 85 = .ok (.aload_n 0, 1) := by decide +kernel
theorem dX8_spans_86 : decode cX8_spans 86 = .ok (.getfield 19, 3) := by decide +kernel
theorem dX8_spans_89 : decode cX8_spans 89 = .ok (.iload_n 2, 1) := by decide +kernel
theorem dX8_spans_90 : decode cX8_spans 90 = .ok (.iaload, 1) := by decide +kernel
theorem dX8_spans_91 : decode cX8_spans 91 = .ok (.iload 4, 2) := by decide +kernel
theorem dX8_spans_93 : decode cX8_spans 93 = .ok (.imul, 1) := by decide +kernel
theorem dX8_spans_94 : decode cX8_spans 94 = .ok (.aload_n 0, 1) := by decide +kernel
theorem dX8_spans_95 : decode cX8_spans 95 = .ok (.getfield 19, 3) := by decide +kernel
theorem dX8_spans_98 : decode cX8_spans 98 = .ok (.iload_n 3, 1) := by decide +kernel
theorem dX8_spans_99 : decode cX8_spans 99 = .ok (.iaload, 1) := by decide +kernel
theorem dX8_spans_100 : decode cX8_spans 100 = .ok (.aload_n 0, 1) := by decide +kernel
theorem dX8_spans_101 : decode cX8_spans 101 = .ok (.getfield 19, 3) := by decide +kernel
theorem dX8_spans_104 : decode cX8_spans 104 = .ok (.iload_n 2, 1) := by decide +kernel
theorem dX8_spans_105 : decode cX8_spans 105 = .ok (.iaload, 1) := by decide +kernel
theorem dX8_spans_106 : decode cX8_spans 106 = .ok (.isub, 1) := by decide +kernel
theorem dX8_spans_107 : decode cX8_spans 107 = .ok (.iload_n 1, 1) := by decide +kernel
theorem dX8_spans_108 : decode cX8_spans 108 = .ok (.aload_n 0, 1) := by decide +kernel
theorem dX8_spans_109 : decode cX8_spans 109 = .ok (.getfield 16, 3) := by decide +kernel
theorem dX8_spans_112 : decode cX8_spans 112 = .ok (.iload_n 2, 1) := by decide +kernel
theorem dX8_spans_113 : decode cX8_spans 113 = .ok (.iaload, 1) := by decide +kernel
theorem dX8_spans_114 : decode cX8_spans 114 = .ok (.isub, 1) := by decide +kernel
theorem dX8_spans_115 : decode cX8_spans 115 = .ok (.imul, 1) := by decide +kernel
theorem dX8_spans_116 : decode cX8_spans 116 = .ok (.iadd, 1) := by decide +kernel
theorem dX8_spans_117 : decode cX8_spans 117 = .ok (.iload 4, 2) := by decide +kernel
theorem dX8_spans_119 : decode cX8_spans 119 = .ok (.invokevirtual 118, 3) := by decide +kernel
theorem dX8_spans_122 : decode cX8_spans 122 = .ok (.iinc 3 1, 3) := by decide +kernel
theorem dX8_spans_125 : decode cX8_spans 125 = .ok (.goto (-87), 3) := by decide +kernel
theorem dX8_spans_128 : decode cX8_spans 128 = .ok (.iinc 2 1, 3) := by decide +kernel
theorem dX8_spans_131 : decode cX8_spans 131 = .ok (.goto (-124), 3) := by decide +kernel
theorem dX8_spans_134 : decode cX8_spans 134 = .ok (.return_, 1) := by decide +kernel
theorem dX8_feetAt_0 : decode cX8_feetAt 0 = .ok (.aload_n 0, 1) := by decide +kernel
theorem dX8_feetAt_1 : decode cX8_feetAt 1 = .ok (.iconst 0, 1) := by decide +kernel
theorem dX8_feetAt_2 : decode cX8_feetAt 2 = .ok (.putfield 100, 3) := by decide +kernel
theorem dX8_feetAt_5 : decode cX8_feetAt 5 = .ok (.iconst 0, 1) := by decide +kernel
theorem dX8_feetAt_6 : decode cX8_feetAt 6 = .ok (.istore_n 2, 1) := by decide +kernel
theorem dX8_feetAt_7 : decode cX8_feetAt 7 = .ok (.iload_n 2, 1) := by decide +kernel
theorem dX8_feetAt_8 : decode cX8_feetAt 8 = .ok (.aload_n 0, 1) := by decide +kernel
theorem dX8_feetAt_9 : decode cX8_feetAt 9 = .ok (.getfield 7, 3) := by decide +kernel
theorem dX8_feetAt_12 : decode cX8_feetAt 12 = .ok (.iconst 0, 1) := by decide +kernel
theorem dX8_feetAt_13 : decode cX8_feetAt 13 = .ok (.iaload, 1) := by decide +kernel
theorem dX8_feetAt_14 : decode cX8_feetAt 14 = .ok (.if_icmp .ge 39, 3) := by decide +kernel
theorem dX8_feetAt_17 : decode cX8_feetAt 17 = .ok (.aload_n 0, 1) := by decide +kernel
theorem dX8_feetAt_18 : decode cX8_feetAt 18 = .ok (.iload_n 2, 1) := by decide +kernel
theorem dX8_feetAt_19 : decode cX8_feetAt 19 = .ok (.iload_n 1, 1) := by decide +kernel
theorem dX8_feetAt_20 : decode cX8_feetAt 20 = .ok (.invokevirtual 91, 3) := by decide +kernel
theorem dX8_feetAt_23 : decode cX8_feetAt 23 = .ok (.ifCond .eq 24, 3) := by decide +kernel
theorem dX8_feetAt_26 : decode cX8_feetAt 26 = .ok (.aload_n 0, 1) := by decide +kernel
theorem dX8_feetAt_27 : decode cX8_feetAt 27 = .ok (.iconst 2, 1) := by decide +kernel
theorem dX8_feetAt_28 : decode cX8_feetAt 28 = .ok (.aload_n 0, 1) := by decide +kernel
theorem dX8_feetAt_29 : decode cX8_feetAt 29 = .ok (.getfield 7, 3) := by decide +kernel
theorem dX8_feetAt_32 : decode cX8_feetAt 32 = .ok (.bipush 7, 2) := by decide +kernel
theorem dX8_feetAt_34 : decode cX8_feetAt 34 = .ok (.iload_n 2, 1) := by decide +kernel
theorem dX8_feetAt_35 : decode cX8_feetAt 35 = .ok (.iadd, 1) := by decide +kernel
theorem dX8_feetAt_36 : decode cX8_feetAt 36 = .ok (.iaload, 1) := by decide +kernel
theorem dX8_feetAt_37 : decode cX8_feetAt 37 = .ok (.imul, 1) := by decide +kernel
theorem dX8_feetAt_38 : decode cX8_feetAt 38 = .ok (.aload_n 0, 1) := by decide +kernel
theorem dX8_feetAt_39 : decode cX8_feetAt 39 = .ok (.iload_n 2, 1) := by decide +kernel
theorem dX8_feetAt_40 : decode cX8_feetAt 40 = .ok (.iload_n 1, 1) := by decide +kernel
theorem dX8_feetAt_41 : decode cX8_feetAt 41 = .ok (.invokevirtual 97, 3) := by decide +kernel
theorem dX8_feetAt_44 : decode cX8_feetAt 44 = .ok (.invokevirtual 121, 3) := by decide +kernel
theorem dX8_feetAt_47 : decode cX8_feetAt 47 = .ok (.iinc 2 1, 3) := by decide +kernel
theorem dX8_feetAt_50 : decode cX8_feetAt 50 = .ok (.goto (-43), 3) := by decide +kernel
theorem dX8_feetAt_53 : decode cX8_feetAt 53 = .ok (.return_, 1) := by decide +kernel
theorem dX8_isWithin_0 : decode cX8_isWithin 0 = .ok (.aload_n 0, 1) := by decide +kernel
theorem dX8_isWithin_1 : decode cX8_isWithin 1 = .ok (.getfield 103, 3) := by decide +kernel
theorem dX8_isWithin_4 : decode cX8_isWithin 4 = .ok (.ifCond .eq 33, 3) := by decide +kernel
theorem dX8_isWithin_7 : decode cX8_isWithin 7 = .ok (.iload_n 1, 1) := by decide +kernel
theorem dX8_isWithin_8 : decode cX8_isWithin 8 = .ok (.aload_n 0, 1) := by decide +kernel
theorem dX8_isWithin_9 : decode cX8_isWithin 9 = .ok (.getfield 106, 3) := by decide +kernel
theorem dX8_isWithin_12 : decode cX8_isWithin 12 = .ok (.imul, 1) := by decide +kernel
theorem dX8_isWithin_13 : decode cX8_isWithin 13 = .ok (.aload_n 0, 1) := by decide +kernel
theorem dX8_isWithin_14 : decode cX8_isWithin 14 = .ok (.getfield 109, 3) := by decide +kernel
theorem dX8_isWithin_17 : decode cX8_isWithin 17 = .ok (.if_icmp .lt 20, 3) := by decide +kernel
theorem dX8_isWithin_20 : decode cX8_isWithin 20 = .ok (.iload_n 1, 1) := by decide +kernel
theorem dX8_isWithin_21 : decode cX8_isWithin 21 = .ok (.aload_n 0, 1) := by decide +kernel
theorem dX8_isWithin_22 : decode cX8_isWithin 22 = .ok (.getfield 112, 3) := by decide +kernel
theorem dX8_isWithin_25 : decode cX8_isWithin 25 = .ok (.imul, 1) := by decide +kernel
theorem dX8_isWithin_26 : decode cX8_isWithin 26 = .ok (.aload_n 0, 1) := by decide +kernel
theorem dX8_isWithin_27 : decode cX8_isWithin 27 = .ok (.getfield 115, 3) := by decide +kernel
theorem dX8_isWithin_30 : decode cX8_isWithin 30 = .ok (.if_icmp .gt 7, 3) := by decide +kernel
theorem dX8_isWithin_33 : decode cX8_isWithin 33 = .ok (.iconst 1, 1) := by decide +kernel
theorem dX8_isWithin_34 : decode cX8_isWithin 34 = .ok (.goto 4, 3) := by decide +kernel
theorem dX8_isWithin_37 : decode cX8_isWithin 37 = .ok (.iconst 0, 1) := by decide +kernel
theorem dX8_isWithin_38 : decode cX8_isWithin 38 = .ok (.ireturn, 1) := by decide +kernel
theorem dX8_isPairs_0 : decode cX8_isPairs 0 = .ok (.iconst 0, 1) := by decide +kernel
theorem dX8_isPairs_1 : decode cX8_isPairs 1 = .ok (.istore_n 2, 1) := by decide +kernel
theorem dX8_isPairs_2 : decode cX8_isPairs 2 = .ok (.iload_n 2, 1) := by decide +kernel
theorem dX8_isPairs_3 : decode cX8_isPairs 3 = .ok (.iconst 1, 1) := by decide +kernel
theorem dX8_isPairs_4 : decode cX8_isPairs 4 = .ok (.iadd, 1) := by decide +kernel
theorem dX8_isPairs_5 : decode cX8_isPairs 5 = .ok (.aload_n 0, 1) := by decide +kernel
theorem dX8_isPairs_6 : decode cX8_isPairs 6 = .ok (.getfield 7, 3) := by decide +kernel
theorem dX8_isPairs_9 : decode cX8_isPairs 9 = .ok (.iconst 0, 1) := by decide +kernel
theorem dX8_isPairs_10 : decode cX8_isPairs 10 = .ok (.iaload, 1) := by decide +kernel
theorem dX8_isPairs_11 : decode cX8_isPairs 11 = .ok (.if_icmp .ge 27, 3) := by decide +kernel
theorem dX8_isPairs_14 : decode cX8_isPairs 14 = .ok (.iload_n 1, 1) := by decide +kernel
theorem dX8_isPairs_15 : decode cX8_isPairs 15 = .ok (.iload_n 2, 1) := by decide +kernel
theorem dX8_isPairs_16 : decode cX8_isPairs 16 = .ok (.ishr, 1) := by decide +kernel
theorem dX8_isPairs_17 : decode cX8_isPairs 17 = .ok (.iconst 1, 1) := by decide +kernel
theorem dX8_isPairs_18 : decode cX8_isPairs 18 = .ok (.iand, 1) := by decide +kernel
theorem dX8_isPairs_19 : decode cX8_isPairs 19 = .ok (.iload_n 1, 1) := by decide +kernel
theorem dX8_isPairs_20 : decode cX8_isPairs 20 = .ok (.iload_n 2, 1) := by decide +kernel
theorem dX8_isPairs_21 : decode cX8_isPairs 21 = .ok (.iconst 1, 1) := by decide +kernel
theorem dX8_isPairs_22 : decode cX8_isPairs 22 = .ok (.iadd, 1) := by decide +kernel
theorem dX8_isPairs_23 : decode cX8_isPairs 23 = .ok (.ishr, 1) := by decide +kernel
theorem dX8_isPairs_24 : decode cX8_isPairs 24 = .ok (.iconst 1, 1) := by decide +kernel
theorem dX8_isPairs_25 : decode cX8_isPairs 25 = .ok (.iand, 1) := by decide +kernel
theorem dX8_isPairs_26 : decode cX8_isPairs 26 = .ok (.if_icmp .eq 5, 3) := by decide +kernel
theorem dX8_isPairs_29 : decode cX8_isPairs 29 = .ok (.iconst 0, 1) := by decide +kernel
theorem dX8_isPairs_30 : decode cX8_isPairs 30 = .ok (.ireturn, 1) := by decide +kernel
theorem dX8_isPairs_31 : decode cX8_isPairs 31 = .ok (.iload_n 2, 1) := by decide +kernel
theorem dX8_isPairs_32 : decode cX8_isPairs 32 = .ok (.iconst 2, 1) := by decide +kernel
theorem dX8_isPairs_33 : decode cX8_isPairs 33 = .ok (.iadd, 1) := by decide +kernel
theorem dX8_isPairs_34 : decode cX8_isPairs 34 = .ok (.istore_n 2, 1) := by decide +kernel
theorem dX8_isPairs_35 : decode cX8_isPairs 35 = .ok (.goto (-33), 3) := by decide +kernel
theorem dX8_isPairs_38 : decode cX8_isPairs 38 = .ok (.iconst 1, 1) := by decide +kernel
theorem dX8_isPairs_39 : decode cX8_isPairs 39 = .ok (.ireturn, 1) := by decide +kernel
theorem dX8_isFlying_0 : decode cX8_isFlying 0 = .ok (.iconst 0, 1) := by decide +kernel
theorem dX8_isFlying_1 : decode cX8_isFlying 1 = .ok (.istore_n 2, 1) := by decide +kernel
theorem dX8_isFlying_2 : decode cX8_isFlying 2 = .ok (.iload_n 2, 1) := by decide +kernel
theorem dX8_isFlying_3 : decode cX8_isFlying 3 = .ok (.aload_n 0, 1) := by decide +kernel
theorem dX8_isFlying_4 : decode cX8_isFlying 4 = .ok (.getfield 7, 3) := by decide +kernel
theorem dX8_isFlying_7 : decode cX8_isFlying 7 = .ok (.bipush 6, 2) := by decide +kernel
theorem dX8_isFlying_9 : decode cX8_isFlying 9 = .ok (.iaload, 1) := by decide +kernel
theorem dX8_isFlying_10 : decode cX8_isFlying 10 = .ok (.if_icmp .ge 32, 3) := by decide +kernel
theorem dX8_isFlying_13 : decode cX8_isFlying 13 = .ok (.aload_n 0, 1) := by decide +kernel
theorem dX8_isFlying_14 : decode cX8_isFlying 14 = .ok (.getfield 7, 3) := by decide +kernel
theorem dX8_isFlying_17 : decode cX8_isFlying 17 = .ok (.bipush 23, 2) := by decide +kernel
theorem dX8_isFlying_19 : decode cX8_isFlying 19 = .ok (.iload_n 1, 1) := by decide +kernel
theorem dX8_isFlying_20 : decode cX8_isFlying 20 = .ok (.iload_n 2, 1) := by decide +kernel
theorem dX8_isFlying_21 : decode cX8_isFlying 21 = .ok (.iadd, 1) := by decide +kernel
theorem dX8_isFlying_22 : decode cX8_isFlying 22 = .ok (.aload_n 0, 1) := by decide +kernel
theorem dX8_isFlying_23 : decode cX8_isFlying 23 = .ok (.getfield 7, 3) := by decide +kernel
theorem dX8_isFlying_26 : decode cX8_isFlying 26 = .ok (.bipush 6, 2) := by decide +kernel
theorem dX8_isFlying_28 : decode cX8_isFlying 28 = .ok (.iaload, 1) := by decide +kernel
theorem dX8_isFlying_29 : decode cX8_isFlying 29 = .ok (.irem, 1) := by decide +kernel
theorem dX8_isFlying_30 : decode cX8_isFlying 30 = .ok (.iadd, 1) := by decide +kernel
theorem dX8_isFlying_31 : decode cX8_isFlying 31 = .ok (.iaload, 1) := by decide +kernel
theorem dX8_isFlying_32 : decode cX8_isFlying 32 = .ok (.ifCond .ne 10, 3) := by decide +kernel
theorem dX8_isFlying_35 : decode cX8_isFlying 35 = .ok (.iload_n 2, 1) := by decide +kernel
theorem dX8_isFlying_36 : decode cX8_isFlying 36 = .ok (.iconst 1, 1) := by decide +kernel
theorem dX8_isFlying_37 : decode cX8_isFlying 37 = .ok (.iadd, 1) := by decide +kernel
theorem dX8_isFlying_38 : decode cX8_isFlying 38 = .ok (.istore_n 2, 1) := by decide +kernel
theorem dX8_isFlying_39 : decode cX8_isFlying 39 = .ok (.goto (-37), 3) := by decide +kernel
theorem dX8_isFlying_42 : decode cX8_isFlying 42 = .ok (.iconst 0, 1) := by decide +kernel
theorem dX8_isFlying_43 : decode cX8_isFlying 43 = .ok (.istore_n 3, 1) := by decide +kernel
theorem dX8_isFlying_44 : decode cX8_isFlying 44 = .ok (.iload_n 3, 1) := by decide +kernel
theorem dX8_isFlying_45 : decode cX8_isFlying 45 = .ok (.aload_n 0, 1) := by decide +kernel
theorem dX8_isFlying_46 : decode cX8_isFlying 46 = .ok (.getfield 7, 3) := by decide +kernel
theorem dX8_isFlying_49 : decode cX8_isFlying 49 = .ok (.bipush 6, 2) := by decide +kernel
theorem dX8_isFlying_51 : decode cX8_isFlying 51 = .ok (.iaload, 1) := by decide +kernel
theorem dX8_isFlying_52 : decode cX8_isFlying 52 = .ok (.if_icmp .ge 44, 3) := by decide +kernel
theorem dX8_isFlying_55 : decode cX8_isFlying 55 = .ok (.aload_n 0, 1) := by decide +kernel
theorem dX8_isFlying_56 : decode cX8_isFlying 56 = .ok (.getfield 7, 3) := by decide +kernel
theorem dX8_isFlying_59 : decode cX8_isFlying 59 = .ok (.bipush 23, 2) := by decide +kernel
theorem dX8_isFlying_61 : decode cX8_isFlying 61 = .ok (.iload_n 1, 1) := by decide +kernel
theorem dX8_isFlying_62 : decode cX8_isFlying 62 = .ok (.iload_n 3, 1) := by decide +kernel
theorem dX8_isFlying_63 : decode cX8_isFlying 63 = .ok (.isub, 1) := by decide +kernel
theorem dX8_isFlying_64 : decode cX8_isFlying 64 = .ok (.iconst 1, 1) := by decide +kernel
theorem dX8_isFlying_65 : decode cX8_isFlying 65 = .ok (.isub, 1) := by decide +kernel
theorem dX8_isFlying_66 : decode cX8_isFlying 66 = .ok (.iconst 2, 1) := by decide +kernel
theorem dX8_isFlying_67 : decode cX8_isFlying 67 = .ok (.aload_n 0, 1) := by decide +kernel
theorem dX8_isFlying_68 : decode cX8_isFlying 68 = .ok (.getfield 7, 3) := by decide +kernel
theorem dX8_isFlying_71 : decode cX8_isFlying 71 = .ok (.bipush 6, 2) := by decide +kernel
theorem dX8_isFlying_73 : decode cX8_isFlying 73 = .ok (.iaload, 1) := by decide +kernel
theorem dX8_isFlying_74 : decode cX8_isFlying 74 = .ok (.imul, 1) := by decide +kernel
theorem dX8_isFlying_75 : decode cX8_isFlying 75 = .ok (.iadd, 1) := by decide +kernel
theorem dX8_isFlying_76 : decode cX8_isFlying 76 = .ok (.aload_n 0, 1) := by decide +kernel
theorem dX8_isFlying_77 : decode cX8_isFlying 77 = .ok (.getfield 7, 3) := by decide +kernel
theorem dX8_isFlying_80 : decode cX8_isFlying 80 = .ok (.bipush 6, 2) := by decide +kernel
theorem dX8_isFlying_82 : decode cX8_isFlying 82 = .ok (.iaload, 1) := by decide +kernel
theorem dX8_isFlying_83 : decode cX8_isFlying 83 = .ok (.irem, 1) := by decide +kernel
theorem dX8_isFlying_84 : decode cX8_isFlying 84 = .ok (.iadd, 1) := by decide +kernel
theorem dX8_isFlying_85 : decode cX8_isFlying 85 = .ok (.iaload, 1) := by decide +kernel
theorem dX8_isFlying_86 : decode cX8_isFlying 86 = .ok (.ifCond .ne 10, 3) := by decide +kernel
theorem dX8_isFlying_89 : decode cX8_isFlying 89 = .ok (.iload_n 3, 1) := by decide +kernel
theorem dX8_isFlying_90 : decode cX8_isFlying 90 = .ok (.iconst 1, 1) := by decide +kernel
theorem dX8_isFlying_91 : decode cX8_isFlying 91 = .ok (.iadd, 1) := by decide +kernel
theorem dX8_isFlying_92 : decode cX8_isFlying 92 = .ok (.istore_n 3, 1) := by decide +kernel
theorem dX8_isFlying_93 : decode cX8_isFlying 93 = .ok (.goto (-49), 3) := by decide +kernel
theorem dX8_isFlying_96 : decode cX8_isFlying 96 = .ok (.iload_n 3, 1) := by decide +kernel
theorem dX8_isFlying_97 : decode cX8_isFlying 97 = .ok (.iload_n 2, 1) := by decide +kernel
theorem dX8_isFlying_98 : decode cX8_isFlying 98 = .ok (.iadd, 1) := by decide +kernel
theorem dX8_isFlying_99 : decode cX8_isFlying 99 = .ok (.iconst 2, 1) := by decide +kernel
theorem dX8_isFlying_100 : decode cX8_isFlying 100 = .ok (.if_icmp .gt 20, 3) := by decide +kernel
theorem dX8_isFlying_103 : decode cX8_isFlying 103 = .ok (.iload_n 3, 1) := by decide +kernel
theorem dX8_isFlying_104 : decode cX8_isFlying 104 = .ok (.iload_n 2, 1) := by decide +kernel
theorem dX8_isFlying_105 : decode cX8_isFlying 105 = .ok (.iadd, 1) := by decide +kernel
theorem dX8_isFlying_106 : decode cX8_isFlying 106 = .ok (.aload_n 0, 1) := by decide +kernel
theorem dX8_isFlying_107 : decode cX8_isFlying 107 = .ok (.getfield 7, 3) := by decide +kernel
theorem dX8_isFlying_110 : decode cX8_isFlying 110 = .ok (.bipush 6, 2) := by decide +kernel
theorem dX8_isFlying_112 : decode cX8_isFlying 112 = .ok (.iaload, 1) := by decide +kernel
theorem dX8_isFlying_113 : decode cX8_isFlying 113 = .ok (.if_icmp .ge 7, 3) := by decide +kernel
theorem dX8_isFlying_116 : decode cX8_isFlying 116 = .ok (.iconst 1, 1) := by decide +kernel
theorem dX8_isFlying_117 : decode cX8_isFlying 117 = .ok (.goto 4, 3) := by decide +kernel
theorem dX8_isFlying_120 : decode cX8_isFlying 120 = .ok (.iconst 0, 1) := by decide +kernel
theorem dX8_isFlying_121 : decode cX8_isFlying 121 = .ok (.ireturn, 1) := by decide +kernel
theorem dX8_standsAt_0 : decode cX8_standsAt 0 = .ok (.aload_n 0, 1) := by decide +kernel
theorem dX8_standsAt_1 : decode cX8_standsAt 1 = .ok (.getfield 7, 3) := by decide +kernel
theorem dX8_standsAt_4 : decode cX8_standsAt 4 = .ok (.bipush 23, 2) := by decide +kernel
theorem dX8_standsAt_6 : decode cX8_standsAt 6 = .ok (.iload_n 1, 1) := by decide +kernel
theorem dX8_standsAt_7 : decode cX8_standsAt 7 = .ok (.iadd, 1) := by decide +kernel
theorem dX8_standsAt_8 : decode cX8_standsAt 8 = .ok (.iaload, 1) := by decide +kernel
theorem dX8_standsAt_9 : decode cX8_standsAt 9 = .ok (.istore_n 2, 1) := by decide +kernel
theorem dX8_standsAt_10 : decode cX8_standsAt 10 = .ok (.aload_n 0, 1) := by decide +kernel
theorem dX8_standsAt_11 : decode cX8_standsAt 11 = .ok (.getfield 7, 3) := by decide +kernel
theorem dX8_standsAt_14 : decode cX8_standsAt 14 = .ok (.iconst 1, 1) := by decide +kernel
theorem dX8_standsAt_15 : decode cX8_standsAt 15 = .ok (.iaload, 1) := by decide +kernel
theorem dX8_standsAt_16 : decode cX8_standsAt 16 = .ok (.iconst 2, 1) := by decide +kernel
theorem dX8_standsAt_17 : decode cX8_standsAt 17 = .ok (.if_icmp .ne 13, 3) := by decide +kernel
theorem dX8_standsAt_20 : decode cX8_standsAt 20 = .ok (.aload_n 0, 1) := by decide +kernel
theorem dX8_standsAt_21 : decode cX8_standsAt 21 = .ok (.iload_n 2, 1) := by decide +kernel
theorem dX8_standsAt_22 : decode cX8_standsAt 22 = .ok (.invokevirtual 124, 3) := by decide +kernel
theorem dX8_standsAt_25 : decode cX8_standsAt 25 = .ok (.ifCond .ne 5, 3) := by decide +kernel
theorem dX8_standsAt_28 : decode cX8_standsAt 28 = .ok (.iconst 0, 1) := by decide +kernel
theorem dX8_standsAt_29 : decode cX8_standsAt 29 = .ok (.ireturn, 1) := by decide +kernel
theorem dX8_standsAt_30 : decode cX8_standsAt 30 = .ok (.iload_n 2, 1) := by decide +kernel
theorem dX8_standsAt_31 : decode cX8_standsAt 31 = .ok (.ifCond .ne 27, 3) := by decide +kernel
theorem dX8_standsAt_34 : decode cX8_standsAt 34 = .ok (.aload_n 0, 1) := by decide +kernel
theorem dX8_standsAt_35 : decode cX8_standsAt 35 = .ok (.getfield 7, 3) := by decide +kernel
theorem dX8_standsAt_38 : decode cX8_standsAt 38 = .ok (.iconst 1, 1) := by decide +kernel
theorem dX8_standsAt_39 : decode cX8_standsAt 39 = .ok (.iaload, 1) := by decide +kernel
theorem dX8_standsAt_40 : decode cX8_standsAt 40 = .ok (.iconst 1, 1) := by decide +kernel
theorem dX8_standsAt_41 : decode cX8_standsAt 41 = .ok (.if_icmp .ne 15, 3) := by decide +kernel
theorem dX8_standsAt_44 : decode cX8_standsAt 44 = .ok (.aload_n 0, 1) := by decide +kernel
theorem dX8_standsAt_45 : decode cX8_standsAt 45 = .ok (.iload_n 1, 1) := by decide +kernel
theorem dX8_standsAt_46 : decode cX8_standsAt 46 = .ok (.invokevirtual 127, 3) := by decide +kernel
theorem dX8_standsAt_49 : decode cX8_standsAt 49 = .ok (.ifCond .eq 7, 3) := by decide +kernel
theorem dX8_standsAt_52 : decode cX8_standsAt 52 = .ok (.iconst 1, 1) := by decide +kernel
theorem dX8_standsAt_53 : decode cX8_standsAt 53 = .ok (.goto 4, 3) := by decide +kernel
theorem dX8_standsAt_56 : decode cX8_standsAt 56 = .ok (.iconst 0, 1) := by decide +kernel
theorem dX8_standsAt_57 : decode cX8_standsAt 57 = .ok (.ireturn, 1) := by decide +kernel
theorem dX8_standsAt_58 : decode cX8_standsAt 58 = .ok (.aload_n 0, 1) := by decide +kernel
theorem dX8_standsAt_59 : decode cX8_standsAt 59 = .ok (.iload_n 1, 1) := by decide +kernel
theorem dX8_standsAt_60 : decode cX8_standsAt 60 = .ok (.invokevirtual 130, 3) := by decide +kernel
theorem dX8_standsAt_63 : decode cX8_standsAt 63 = .ok (.aload_n 0, 1) := by decide +kernel
theorem dX8_standsAt_64 : decode cX8_standsAt 64 = .ok (.iconst 2, 1) := by decide +kernel
theorem dX8_standsAt_65 : decode cX8_standsAt 65 = .ok (.aload_n 0, 1) := by decide +kernel
theorem dX8_standsAt_66 : decode cX8_standsAt 66 = .ok (.getfield 7, 3) := by decide +kernel
theorem dX8_standsAt_69 : decode cX8_standsAt 69 = .ok (.iconst 4, 1) := by decide +kernel
theorem dX8_standsAt_70 : decode cX8_standsAt 70 = .ok (.iaload, 1) := by decide +kernel
theorem dX8_standsAt_71 : decode cX8_standsAt 71 = .ok (.imul, 1) := by decide +kernel
theorem dX8_standsAt_72 : decode cX8_standsAt 72 = .ok (.invokevirtual 134, 3) := by decide +kernel
theorem dX8_standsAt_75 : decode cX8_standsAt 75 = .ok (.aload_n 0, 1) := by decide +kernel
theorem dX8_standsAt_76 : decode cX8_standsAt 76 = .ok (.iconst 2, 1) := by decide +kernel
theorem dX8_standsAt_77 : decode cX8_standsAt 77 = .ok (.aload_n 0, 1) := by decide +kernel
theorem dX8_standsAt_78 : decode cX8_standsAt 78 = .ok (.getfield 7, 3) := by decide +kernel
theorem dX8_standsAt_81 : decode cX8_standsAt 81 = .ok (.iconst 5, 1) := by decide +kernel
theorem dX8_standsAt_82 : decode cX8_standsAt 82 = .ok (.iaload, 1) := by decide +kernel
theorem dX8_standsAt_83 : decode cX8_standsAt 83 = .ok (.imul, 1) := by decide +kernel
theorem dX8_standsAt_84 : decode cX8_standsAt 84 = .ok (.invokevirtual 137, 3) := by decide +kernel
theorem dX8_standsAt_87 : decode cX8_standsAt 87 = .ok (.ireturn, 1) := by decide +kernel
theorem dX8_stands_0 : decode cX8_stands 0 = .ok (.aload_n 0, 1) := by decide +kernel
