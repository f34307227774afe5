theorem dX8_drawn_7 : decode cX8_drawn 7 = .ok (.iload_n 2, 1) := by decide +kernel
theorem dX8_drawn_8 : decode cX8_drawn 8 = .ok (.invokestatic 377, 3) := by decide +kernel
theorem dX8_drawn_11 : decode cX8_drawn 11 = .ok (.ifCond .eq 25, 3) := by decide +kernel
theorem dX8_drawn_14 : decode cX8_drawn 14 = .ok (.iload 4, 2) := by decide +kernel
theorem dX8_drawn_16 : decode cX8_drawn 16 = .ok (.iconst 1, 1) := by decide +kernel
theorem dX8_drawn_17 : decode cX8_drawn 17 = .ok (.if_icmp .eq 21, 3) := by decide +kernel
theorem dX8_drawn_20 : decode cX8_drawn 20 = .ok (.iload 4, 2) := by decide +kernel
theorem dX8_drawn_22 : decode cX8_drawn 22 = .ok (.ifCond .ne 14, 3) := by decide +kernel
theorem dX8_drawn_25 : decode cX8_drawn 25 = .ok (.iload_n 3, 1) := by decide +kernel
theorem dX8_drawn_26 : decode cX8_drawn 26 = .ok (.iconst 0, 1) := by decide +kernel
theorem dX8_drawn_27 : decode cX8_drawn 27 = .ok (.iload_n 1, 1) := by decide +kernel
theorem dX8_drawn_28 : decode cX8_drawn 28 = .ok (.iconst 1, 1) := by decide +kernel
theorem dX8_drawn_29 : decode cX8_drawn 29 = .ok (.isub, 1) := by decide +kernel
theorem dX8_drawn_30 : decode cX8_drawn 30 = .ok (.invokestatic 129, 3) := by decide +kernel
theorem dX8_drawn_33 : decode cX8_drawn 33 = .ok (.ifCond .ne 5, 3) := by decide +kernel
theorem dX8_drawn_36 : decode cX8_drawn 36 = .ok (.iconst (-1), 1) := by decide +kernel
theorem dX8_drawn_37 : decode cX8_drawn 37 = .ok (.ireturn, 1) := by decide +kernel
theorem dX8_drawn_38 : decode cX8_drawn 38 = .ok (.aload_n 0, 1) := by decide +kernel
theorem dX8_drawn_39 : decode cX8_drawn 39 = .ok (.iload_n 1, 1) := by decide +kernel
theorem dX8_drawn_40 : decode cX8_drawn 40 = .ok (.iload_n 2, 1) := by decide +kernel
theorem dX8_drawn_41 : decode cX8_drawn 41 = .ok (.invokevirtual 380, 3) := by decide +kernel
theorem dX8_drawn_44 : decode cX8_drawn 44 = .ok (.istore 5, 2) := by decide +kernel
theorem dX8_drawn_46 : decode cX8_drawn 46 = .ok (.iload 4, 2) := by decide +kernel
theorem dX8_drawn_48 : decode cX8_drawn 48 = .ok (.iconst 1, 1) := by decide +kernel
theorem dX8_drawn_49 : decode cX8_drawn 49 = .ok (.if_icmp .ne 8, 3) := by decide +kernel
theorem dX8_drawn_52 : decode cX8_drawn 52 = .ok (.iload 5, 2) := by decide +kernel
theorem dX8_drawn_54 : decode cX8_drawn 54 = .ok (.goto 9, 3) := by decide +kernel
theorem dX8_drawn_57 : decode cX8_drawn 57 = .ok (.aload_n 0, 1) := by decide +kernel
theorem dX8_drawn_58 : decode cX8_drawn 58 = .ok (.getfield 95, 3) := by decide +kernel
theorem dX8_drawn_61 : decode cX8_drawn 61 = .ok (.iload_n 3, 1) := by decide +kernel
theorem dX8_drawn_62 : decode cX8_drawn 62 = .ok (.iaload, 1) := by decide +kernel
theorem dX8_drawn_63 : decode cX8_drawn 63 = .ok (.ireturn, 1) := by decide +kernel
theorem dX8_fewest_0 : decode cX8_fewest 0 = .ok (.iload_n 1, 1) := by decide +kernel
theorem dX8_fewest_1 : decode cX8_fewest 1 = .ok (.invokestatic 377, 3) := by decide +kernel
theorem dX8_fewest_4 : decode cX8_fewest 4 = .ok (.ifCond .eq 10, 3) := by decide +kernel
theorem dX8_fewest_7 : decode cX8_fewest 7 = .ok (.iload_n 2, 1) := by decide +kernel
theorem dX8_fewest_8 : decode cX8_fewest 8 = .ok (.invokestatic 383, 3) := by decide +kernel
theorem dX8_fewest_11 : decode cX8_fewest 11 = .ok (.ifCond .ne 5, 3) := by decide +kernel
theorem dX8_fewest_14 : decode cX8_fewest 14 = .ok (.iconst (-1), 1) := by decide +kernel
theorem dX8_fewest_15 : decode cX8_fewest 15 = .ok (.ireturn, 1) := by decide +kernel
theorem dX8_fewest_16 : decode cX8_fewest 16 = .ok (.iconst 2, 1) := by decide +kernel
theorem dX8_fewest_17 : decode cX8_fewest 17 = .ok (.istore_n 3, 1) := by decide +kernel
theorem dX8_fewest_18 : decode cX8_fewest 18 = .ok (.iload_n 3, 1) := by decide +kernel
theorem dX8_fewest_19 : decode cX8_fewest 19 = .ok (.bipush 12, 2) := by decide +kernel
theorem dX8_fewest_21 : decode cX8_fewest 21 = .ok (.if_icmp .gt 21, 3) := by decide +kernel
theorem dX8_fewest_24 : decode cX8_fewest 24 = .ok (.aload_n 0, 1) := by decide +kernel
theorem dX8_fewest_25 : decode cX8_fewest 25 = .ok (.iload_n 3, 1) := by decide +kernel
theorem dX8_fewest_26 : decode cX8_fewest 26 = .ok (.iload_n 1, 1) := by decide +kernel
theorem dX8_fewest_27 : decode cX8_fewest 27 = .ok (.invokevirtual 380, 3) := by decide +kernel
theorem dX8_fewest_30 : decode cX8_fewest 30 = .ok (.iload_n 2, 1) := by decide +kernel
theorem dX8_fewest_31 : decode cX8_fewest 31 = .ok (.if_icmp .lt 5, 3) := by decide +kernel
theorem dX8_fewest_34 : decode cX8_fewest 34 = .ok (.iload_n 3, 1) := by decide +kernel
theorem dX8_fewest_35 : decode cX8_fewest 35 = .ok (.ireturn, 1) := by decide +kernel
theorem dX8_fewest_36 : decode cX8_fewest 36 = .ok (.iinc 3 1, 3) := by decide +kernel
theorem dX8_fewest_39 : decode cX8_fewest 39 = .ok (.goto (-21), 3) := by decide +kernel
theorem dX8_fewest_42 : decode cX8_fewest 42 = .ok (.iconst (-1), 1) := by decide +kernel
theorem dX8_fewest_43 : decode cX8_fewest 43 = .ok (.ireturn, 1) := by decide +kernel
theorem dX8_loosest_0 : decode cX8_loosest 0 = .ok (.iload_n 1, 1) := by decide +kernel
theorem dX8_loosest_1 : decode cX8_loosest 1 = .ok (.invokestatic 374, 3) := by decide +kernel
theorem dX8_loosest_4 : decode cX8_loosest 4 = .ok (.ifCond .eq 10, 3) := by decide +kernel
theorem dX8_loosest_7 : decode cX8_loosest 7 = .ok (.iload_n 2, 1) := by decide +kernel
theorem dX8_loosest_8 : decode cX8_loosest 8 = .ok (.invokestatic 383, 3) := by decide +kernel
theorem dX8_loosest_11 : decode cX8_loosest 11 = .ok (.ifCond .ne 5, 3) := by decide +kernel
theorem dX8_loosest_14 : decode cX8_loosest 14 = .ok (.iconst (-1), 1) := by decide +kernel
theorem dX8_loosest_15 : decode cX8_loosest 15 = .ok (.ireturn, 1) := by decide +kernel
theorem dX8_loosest_16 : decode cX8_loosest 16 = .ok (.iconst 0, 1) := by decide +kernel
theorem dX8_loosest_17 : decode cX8_loosest 17 = .ok (.istore_n 3, 1) := by decide +kernel
theorem dX8_loosest_18 : decode cX8_loosest 18 = .ok (.iload_n 3, 1) := by decide +kernel
theorem dX8_loosest_19 : decode cX8_loosest 19 = .ok (.bipush 100, 2) := by decide +kernel
theorem dX8_loosest_21 : decode cX8_loosest 21 = .ok (.if_icmp .gt 21, 3) := by decide +kernel
theorem dX8_loosest_24 : decode cX8_loosest 24 = .ok (.aload_n 0, 1) := by decide +kernel
theorem dX8_loosest_25 : decode cX8_loosest 25 = .ok (.iload_n 1, 1) := by decide +kernel
theorem dX8_loosest_26 : decode cX8_loosest 26 = .ok (.iload_n 3, 1) := by decide +kernel
theorem dX8_loosest_27 : decode cX8_loosest 27 = .ok (.invokevirtual 380, 3) := by decide +kernel
theorem dX8_loosest_30 : decode cX8_loosest 30 = .ok (.iload_n 2, 1) := by decide +kernel
theorem dX8_loosest_31 : decode cX8_loosest 31 = .ok (.if_icmp .lt 5, 3) := by decide +kernel
theorem dX8_loosest_34 : decode cX8_loosest 34 = .ok (.iload_n 3, 1) := by decide +kernel
theorem dX8_loosest_35 : decode cX8_loosest 35 = .ok (.ireturn, 1) := by decide +kernel
theorem dX8_loosest_36 : decode cX8_loosest 36 = .ok (.iinc 3 1, 3) := by decide +kernel
theorem dX8_loosest_39 : decode cX8_loosest 39 = .ok (.goto (-21), 3) := by decide +kernel
theorem dX8_loosest_42 : decode cX8_loosest 42 = .ok (.iconst (-1), 1) := by decide +kernel
theorem dX8_loosest_43 : decode cX8_loosest 43 = .ok (.ireturn, 1) := by decide +kernel
theorem dX8_draw__0 : decode cX8_draw_ 0 = .ok (.iload_n 1, 1) := by decide +kernel
theorem dX8_draw__1 : decode cX8_draw_ 1 = .ok (.invokestatic 374, 3) := by decide +kernel
theorem dX8_draw__4 : decode cX8_draw_ 4 = .ok (.ifCond .eq 10, 3) := by decide +kernel
theorem dX8_draw__7 : decode cX8_draw_ 7 = .ok (.iload_n 2, 1) := by decide +kernel
theorem dX8_draw__8 : decode cX8_draw_ 8 = .ok (.invokestatic 377, 3) := by decide +kernel
theorem dX8_draw__11 : decode cX8_draw_ 11 = .ok (.ifCond .ne 5, 3) := by decide +kernel
theorem dX8_draw__14 : decode cX8_draw_ 14 = .ok (.iconst 0, 1) := by decide +kernel
theorem dX8_draw__15 : decode cX8_draw_ 15 = .ok (.ireturn, 1) := by decide +kernel
theorem dX8_draw__16 : decode cX8_draw_ 16 = .ok (.aload_n 0, 1) := by decide +kernel
theorem dX8_draw__17 : decode cX8_draw_ 17 = .ok (.iload_n 1, 1) := by decide +kernel
theorem dX8_draw__18 : decode cX8_draw_ 18 = .ok (.iload_n 2, 1) := by decide +kernel
theorem dX8_draw__19 : decode cX8_draw_ 19 = .ok (.invokevirtual 380, 3) := by decide +kernel
theorem dX8_draw__22 : decode cX8_draw_ 22 = .ok (.istore_n 3, 1) := by decide +kernel
theorem dX8_draw__23 : decode cX8_draw_ 23 = .ok (.aload_n 0, 1) := by decide +kernel
theorem dX8_draw__24 : decode cX8_draw_ 24 = .ok (.iconst 0, 1) := by decide +kernel
theorem dX8_draw__25 : decode cX8_draw_ 25 = .ok (.iload_n 1, 1) := by decide +kernel
theorem dX8_draw__26 : decode cX8_draw_ 26 = .ok (.invokevirtual 119, 3) := by decide +kernel
theorem dX8_draw__29 : decode cX8_draw_ 29 = .ok (.iconst 0, 1) := by decide +kernel
theorem dX8_draw__30 : decode cX8_draw_ 30 = .ok (.istore 4, 2) := by decide +kernel
theorem dX8_draw__32 : decode cX8_draw_ 32 = .ok (.iload 4, 2) := by decide +kernel
theorem dX8_draw__34 : decode cX8_draw_ 34 = .ok (.iload_n 1, 1) := by decide +kernel
theorem dX8_draw__35 : decode cX8_draw_ 35 = .ok (.if_icmp .ge 23, 3) := by decide +kernel
theorem dX8_draw__38 : decode cX8_draw_ 38 = .ok (.aload_n 0, 1) := by decide +kernel
theorem dX8_draw__39 : decode cX8_draw_ 39 = .ok (.iload 4, 2) := by decide +kernel
theorem dX8_draw__41 : decode cX8_draw_ 41 = .ok (.aload_n 0, 1) := by decide +kernel
theorem dX8_draw__42 : decode cX8_draw_ 42 = .ok (.getfield 95, 3) := by decide +kernel
theorem dX8_draw__45 : decode cX8_draw_ 45 = .ok (.iload 4, 2) := by decide +kernel
theorem dX8_draw__47 : decode cX8_draw_ 47 = .ok (.iaload, 1) := by decide +kernel
theorem dX8_draw__48 : decode cX8_draw_ 48 = .ok (.iconst 0, 1) := by decide +kernel
theorem dX8_draw__49 : decode cX8_draw_ 49 = .ok (.invokevirtual 177, 3) := by decide +kernel
theorem dX8_draw__52 : decode cX8_draw_ 52 = .ok (.iinc 4 1, 3) := by decide +kernel
theorem dX8_draw__55 : decode cX8_draw_ 55 = .ok (.goto (-23), 3) := by decide +kernel
theorem dX8_draw__58 : decode cX8_draw_ 58 = .ok (.aload_n 0, 1) := by decide +kernel
theorem dX8_draw__59 : decode cX8_draw_ 59 = .ok (.bipush 57, 2) := by decide +kernel
theorem dX8_draw__61 : decode cX8_draw_ 61 = .ok (.iconst 0, 1) := by decide +kernel
theorem dX8_draw__62 : decode cX8_draw_ 62 = .ok (.invokevirtual 119, 3) := by decide +kernel
theorem dX8_draw__65 : decode cX8_draw_ 65 = .ok (.aload_n 0, 1) := by decide +kernel
theorem dX8_draw__66 : decode cX8_draw_ 66 = .ok (.iconst 0, 1) := by decide +kernel
theorem dX8_draw__67 : decode cX8_draw_ 67 = .ok (.putfield 181, 3) := by decide +kernel
theorem dX8_draw__70 : decode cX8_draw_ 70 = .ok (.iconst 1, 1) := by decide +kernel
theorem dX8_draw__71 : decode cX8_draw_ 71 = .ok (.ireturn, 1) := by decide +kernel
theorem dX8_due_0 : decode cX8_due 0 = .ok (.aload_n 0, 1) := by decide +kernel
theorem dX8_due_1 : decode cX8_due 1 = .ok (.iconst 0, 1) := by decide +kernel
theorem dX8_due_2 : decode cX8_due 2 = .ok (.invokevirtual 221, 3) := by decide +kernel
theorem dX8_due_5 : decode cX8_due 5 = .ok (.ifCond .eq 24, 3) := by decide +kernel
theorem dX8_due_8 : decode cX8_due 8 = .ok (.iload_n 1, 1) := by decide +kernel
theorem dX8_due_9 : decode cX8_due 9 = .ok (.ifCond .lt 20, 3) := by decide +kernel
theorem dX8_due_12 : decode cX8_due 12 = .ok (.iload_n 2, 1) := by decide +kernel
theorem dX8_due_13 : decode cX8_due 13 = .ok (.ifCond .lt 16, 3) := by decide +kernel
theorem dX8_due_16 : decode cX8_due 16 = .ok (.iconst 0, 1) := by decide +kernel
theorem dX8_due_17 : decode cX8_due 17 = .ok (.iload_n 2, 1) := by decide +kernel
theorem dX8_due_18 : decode cX8_due 18 = .ok (.aload_n 0, 1) := by decide +kernel
theorem dX8_due_19 : decode cX8_due 19 = .ok (.iconst 5, 1) := by decide +kernel
theorem dX8_due_20 : decode cX8_due 20 = .ok (.invokevirtual 221, 3) := by decide +kernel
theorem dX8_due_23 : decode cX8_due 23 = .ok (.invokestatic 344, 3) := by decide +kernel
theorem dX8_due_26 : decode cX8_due 26 = .ok (.ifCond .ne 6, 3) := by decide +kernel
theorem dX8_due_29 : decode cX8_due 29 = .ok (.bipush (-2), 2) := by decide +kernel
theorem dX8_due_31 : decode cX8_due 31 = .ok (.ireturn, 1) := by decide +kernel
theorem dX8_due_32 : decode cX8_due 32 = .ok (.aload_n 0, 1) := by decide +kernel
theorem dX8_due_33 : decode cX8_due 33 = .ok (.invokevirtual 359, 3) := by decide +kernel
theorem dX8_due_36 : decode cX8_due 36 = .ok (.iconst (-1), 1) := by decide +kernel
theorem dX8_due_37 : decode cX8_due 37 = .ok (.istore_n 3, 1) := by decide +kernel
theorem dX8_due_38 : decode cX8_due 38 = .ok (.iconst 0, 1) := by decide +kernel
theorem dX8_due_39 : decode cX8_due 39 = .ok (.istore 4, 2) := by decide +kernel
theorem dX8_due_41 : decode cX8_due 41 = .ok (.iload 4, 2) := by decide +kernel
theorem dX8_due_43 : decode cX8_due 43 = .ok (.bipush 100, 2) := by decide +kernel
theorem dX8_due_45 : decode cX8_due 45 = .ok (.if_icmp .gt 54, 3) := by decide +kernel
theorem dX8_due_48 : decode cX8_due 48 = .ok (.iload_n 3, 1) := by decide +kernel
theorem dX8_due_49 : decode cX8_due 49 = .ok (.iconst (-1), 1) := by decide +kernel
theorem dX8_due_50 : decode cX8_due 50 = .ok (.if_icmp .ne 49, 3) := by decide +kernel
theorem dX8_due_53 : decode cX8_due 53 = .ok (.aload_n 0, 1) := by decide +kernel
theorem dX8_due_54 : decode cX8_due 54 = .ok (.iconst 0, 1) := by decide +kernel
theorem dX8_due_55 : decode cX8_due 55 = .ok (.iload_n 2, 1) := by decide +kernel
theorem dX8_due_56 : decode cX8_due 56 = .ok (.aload_n 0, 1) := by decide +kernel
theorem dX8_due_57 : decode cX8_due 57 = .ok (.iconst 5, 1) := by decide +kernel
theorem dX8_due_58 : decode cX8_due 58 = .ok (.invokevirtual 221, 3) := by decide +kernel
theorem dX8_due_61 : decode cX8_due 61 = .ok (.invokevirtual 347, 3) := by decide +kernel
theorem dX8_due_64 : decode cX8_due 64 = .ok (.aload_n 0, 1) := by decide +kernel
theorem dX8_due_65 : decode cX8_due 65 = .ok (.iconst 0, 1) := by decide +kernel
theorem dX8_due_66 : decode cX8_due 66 = .ok (.aload_n 0, 1) := by decide +kernel
theorem dX8_due_67 : decode cX8_due 67 = .ok (.iconst 5, 1) := by decide +kernel
theorem dX8_due_68 : decode cX8_due 68 = .ok (.invokevirtual 221, 3) := by decide +kernel
theorem dX8_due_71 : decode cX8_due 71 = .ok (.iconst 3, 1) := by decide +kernel
theorem dX8_due_72 : decode cX8_due 72 = .ok (.invokevirtual 350, 3) := by decide +kernel
theorem dX8_due_75 : decode cX8_due 75 = .ok (.iload_n 1, 1) := by decide +kernel
theorem dX8_due_76 : decode cX8_due 76 = .ok (.if_icmp .le 6, 3) := by decide +kernel
theorem dX8_due_79 : decode cX8_due 79 = .ok (.iload 4, 2) := by decide +kernel
theorem dX8_due_81 : decode cX8_due 81 = .ok (.istore_n 3, 1) := by decide +kernel
theorem dX8_due_82 : decode cX8_due 82 = .ok (.iload_n 3, 1) := by decide +kernel
theorem dX8_due_83 : decode cX8_due 83 = .ok (.iconst (-1), 1) := by decide +kernel
theorem dX8_due_84 : decode cX8_due 84 = .ok (.if_icmp .ne 9, 3) := by decide +kernel
theorem dX8_due_87 : decode cX8_due 87 = .ok (.aload_n 0, 1) := by decide +kernel
theorem dX8_due_88 : decode cX8_due 88 = .ok (.invokevirtual 241, 3) := by decide +kernel
theorem dX8_due_91 : decode cX8_due 91 = .ok (.istore 5, 2) := by decide +kernel
theorem dX8_due_93 : decode cX8_due 93 = .ok (.iinc 4 1, 3) := by decide +kernel
theorem dX8_due_96 : decode cX8_due 96 = .ok (.goto (-55), 3) := by decide +kernel
theorem dX8_due_99 : decode cX8_due 99 = .ok (.aload_n 0, 1) := by decide +kernel
theorem dX8_due_100 : decode cX8_due 100 = .ok (.invokevirtual 371, 3) := by decide +kernel
theorem dX8_due_103 : decode cX8_due 103 = .ok (.iload_n 3, 1) := by decide +kernel
theorem dX8_due_104 : decode cX8_due 104 = .ok (.ireturn, 1) := by decide +kernel
theorem dX8_plan_0 : decode cX8_plan 0 = .ok (.aload_n 0, 1) := by decide +kernel
theorem dX8_plan_1 : decode cX8_plan 1 = .ok (.invokevirtual 356, 3) := by decide +kernel
theorem dX8_plan_4 : decode cX8_plan 4 = .ok (.ifCond .eq 35, 3) := by decide +kernel
theorem dX8_plan_7 : decode cX8_plan 7 = .ok (.iload_n 1, 1) := by decide +kernel
theorem dX8_plan_8 : decode cX8_plan 8 = .ok (.iconst 1, 1) := by decide +kernel
theorem dX8_plan_9 : decode cX8_plan 9 = .ok (.aload_n 0, 1) := by decide +kernel
theorem dX8_plan_10 : decode cX8_plan 10 = .ok (.iconst 0, 1) := by decide +kernel
theorem dX8_plan_11 : decode cX8_plan 11 = .ok (.invokevirtual 221, 3) := by decide +kernel
theorem dX8_plan_14 : decode cX8_plan 14 = .ok (.invokestatic 129, 3) := by decide +kernel
theorem dX8_plan_17 : decode cX8_plan 17 = .ok (.ifCond .eq 22, 3) := by decide +kernel
theorem dX8_plan_20 : decode cX8_plan 20 = .ok (.iload_n 2, 1) := by decide +kernel
theorem dX8_plan_21 : decode cX8_plan 21 = .ok (.iconst 1, 1) := by decide +kernel
theorem dX8_plan_22 : decode cX8_plan 22 = .ok (.bipush 40, 2) := by decide +kernel
theorem dX8_plan_24 : decode cX8_plan 24 = .ok (.invokestatic 129, 3) := by decide +kernel
theorem dX8_plan_27 : decode cX8_plan 27 = .ok (.ifCond .eq 12, 3) := by decide +kernel
theorem dX8_plan_30 : decode cX8_plan 30 = .ok (.iload_n 3, 1) := by decide +kernel
theorem dX8_plan_31 : decode cX8_plan 31 = .ok (.iconst 0, 1) := by decide +kernel
theorem dX8_plan_32 : decode cX8_plan 32 = .ok (.iconst 2, 1) := by decide +kernel
theorem dX8_plan_33 : decode cX8_plan 33 = .ok (.invokestatic 129, 3) := by decide +kernel
theorem dX8_plan_36 : decode cX8_plan 36 = .ok (.ifCond .ne 5, 3) := by decide +kernel
theorem dX8_plan_39 : decode cX8_plan 39 = .ok (.iconst (-1), 1) := by decide +kernel
theorem dX8_plan_40 : decode cX8_plan 40 = .ok (.ireturn, 1) := by decide +kernel
theorem dX8_plan_41 : decode cX8_plan 41 = .ok (.aload_n 0, 1) := by decide +kernel
theorem dX8_plan_42 : decode cX8_plan 42 = .ok (.invokevirtual 359, 3) := by decide +kernel
theorem dX8_plan_45 : decode cX8_plan 45 = .ok (.iconst 0, 1) := by decide +kernel
theorem dX8_plan_46 : decode cX8_plan 46 = .ok (.istore 4, 2) := by decide +kernel
theorem dX8_plan_48 : decode cX8_plan 48 = .ok (.iconst (-1), 1) := by decide +kernel
theorem dX8_plan_49 : decode cX8_plan 49 = .ok (.istore 5, 2) := by decide +kernel
theorem dX8_plan_51 : decode cX8_plan 51 = .ok (.iconst 0, 1) := by decide +kernel
theorem dX8_plan_52 : decode cX8_plan 52 = .ok (.istore 6, 2) := by decide +kernel
theorem dX8_plan_54 : decode cX8_plan 54 = .ok (.iconst 0, 1) := by decide +kernel
theorem dX8_plan_55 : decode cX8_plan 55 = .ok (.istore 7, 2) := by decide +kernel
theorem dX8_plan_57 : decode cX8_plan 57 = .ok (.iload 7, 2) := by decide +kernel
theorem dX8_plan_59 : decode cX8_plan 59 = .ok (.iload_n 2, 1) := by decide +kernel
theorem dX8_plan_60 : decode cX8_plan 60 = .ok (.if_icmp .ge 62, 3) := by decide +kernel
theorem dX8_plan_63 : decode cX8_plan 63 = .ok (.aload_n 0, 1) := by decide +kernel
theorem dX8_plan_64 : decode cX8_plan 64 = .ok (.invokevirtual 365, 3) := by decide +kernel
theorem dX8_plan_67 : decode cX8_plan 67 = .ok (.ifCond .eq 43, 3) := by decide +kernel
theorem dX8_plan_70 : decode cX8_plan 70 = .ok (.aload_n 0, 1) := by decide +kernel
theorem dX8_plan_71 : decode cX8_plan 71 = .ok (.iload_n 1, 1) := by decide +kernel
theorem dX8_plan_72 : decode cX8_plan 72 = .ok (.invokevirtual 368, 3) := by decide +kernel
theorem dX8_plan_75 : decode cX8_plan 75 = .ok (.iinc 4 1, 3) := by decide +kernel
theorem dX8_plan_78 : decode cX8_plan 78 = .ok (.iload 5, 2) := by decide +kernel
theorem dX8_plan_80 : decode cX8_plan 80 = .ok (.iconst (-1), 1) := by decide +kernel
theorem dX8_plan_81 : decode cX8_plan 81 = .ok (.if_icmp .ne 8, 3) := by decide +kernel
theorem dX8_plan_84 : decode cX8_plan 84 = .ok (.iload 7, 2) := by decide +kernel
theorem dX8_plan_86 : decode cX8_plan 86 = .ok (.goto 5, 3) := by decide +kernel
theorem dX8_plan_89 : decode cX8_plan 89 = .ok (.iload 5, 2) := by decide +kernel
theorem dX8_plan_91 : decode cX8_plan 91 = .ok (.istore 5, 2) := by decide +kernel
theorem dX8_plan_93 : decode cX8_plan 93 = .ok (.iload 6, 2) := by decide +kernel
theorem dX8_plan_95 : decode cX8_plan 95 = .ok (.aload_n 0, 1) := by decide +kernel
theorem dX8_plan_96 : decode cX8_plan 96 = .ok (.invokevirtual 365, 3) := by decide +kernel
theorem dX8_plan_99 : decode cX8_plan 99 = .ok (.ifCond .eq 7, 3) := by decide +kernel
theorem dX8_plan_102 : decode cX8_plan 102 = .ok (.iconst 1, 1) := by decide +kernel
theorem dX8_plan_103 : decode cX8_plan 103 = .ok (.goto 4, 3) := by decide +kernel
theorem dX8_plan_106 : decode cX8_plan 106 = .ok (.iconst 0, 1) := by decide +kernel
theorem dX8_plan_107 : decode cX8_plan 107 = .ok (.iadd, 1) := by decide +kernel
theorem dX8_plan_108 : decode cX8_plan 108 = .ok (.istore 6, 2) := by decide +kernel
theorem dX8_plan_110 : decode cX8_plan 110 = .ok (.aload_n 0, 1) := by decide +kernel
theorem dX8_plan_111 : decode cX8_plan 111 = .ok (.invokevirtual 241, 3) := by decide +kernel
theorem dX8_plan_114 : decode cX8_plan 114 = .ok (.istore 8, 2) := by decide +kernel
theorem dX8_plan_116 : decode cX8_plan 116 = .ok (.iinc 7 1, 3) := by decide +kernel
theorem dX8_plan_119 : decode cX8_plan 119 = .ok (.goto (-62), 3) := by decide +kernel
theorem dX8_plan_122 : decode cX8_plan 122 = .ok (.aload_n 0, 1) := by decide +kernel
theorem dX8_plan_123 : decode cX8_plan 123 = .ok (.invokevirtual 371, 3) := by decide +kernel
theorem dX8_plan_126 : decode cX8_plan 126 = .ok (.iload_n 3, 1) := by decide +kernel
theorem dX8_plan_127 : decode cX8_plan 127 = .ok (.ifCond .ne 8, 3) := by decide +kernel
theorem dX8_plan_130 : decode cX8_plan 130 = .ok (.iload 4, 2) := by decide +kernel
theorem dX8_plan_132 : decode cX8_plan 132 = .ok (.goto 15, 3) := by decide +kernel
theorem dX8_plan_135 : decode cX8_plan 135 = .ok (.iload_n 3, 1) := by decide +kernel
theorem dX8_plan_136 : decode cX8_plan 136 = .ok (.iconst 1, 1) := by decide +kernel
theorem dX8_plan_137 : decode cX8_plan 137 = .ok (.if_icmp .ne 8, 3) := by decide +kernel
theorem dX8_plan_140 : decode cX8_plan 140 = .ok (.iload 5, 2) := by decide +kernel
theorem dX8_plan_142 : decode cX8_plan 142 = .ok (.goto 5, 3) := by decide +kernel
theorem dX8_plan_145 : decode cX8_plan 145 = .ok (.iload 6, 2) := by decide +kernel
theorem dX8_plan_147 : decode cX8_plan 147 = .ok (.ireturn, 1) := by decide +kernel
theorem dX8_canSum_0 : decode cX8_canSum 0 = .ok (.aload_n 0, 1) := by decide +kernel
theorem dX8_canSum_1 : decode cX8_canSum 1 = .ok (.iconst 0, 1) := by decide +kernel
theorem dX8_canSum_2 : decode cX8_canSum 2 = .ok (.invokevirtual 221, 3) := by decide +kernel
theorem dX8_canSum_5 : decode cX8_canSum 5 = .ok (.ifCond .le 24, 3) := by decide +kernel
theorem dX8_canSum_8 : decode cX8_canSum 8 = .ok (.aload_n 0, 1) := by decide +kernel
theorem dX8_canSum_9 : decode cX8_canSum 9 = .ok (.bipush 33, 2) := by decide +kernel
theorem dX8_canSum_11 : decode cX8_canSum 11 = .ok (.aload_n 0, 1) := by decide +kernel
theorem dX8_canSum_12 : decode cX8_canSum 12 = .ok (.iconst 0, 1) := by decide +kernel
theorem dX8_canSum_13 : decode cX8_canSum 13 = .ok (.invokevirtual 221, 3) := by decide +kernel
theorem dX8_canSum_16 : decode cX8_canSum 16 = .ok (.invokevirtual 244, 3) := by decide +kernel
theorem dX8_canSum_19 : decode cX8_canSum 19 = .ok (.sipush 20000, 3) := by decide +kernel
theorem dX8_canSum_22 : decode cX8_canSum 22 = .ok (.if_icmp .gt 7, 3) := by decide +kernel
theorem dX8_canSum_25 : decode cX8_canSum 25 = .ok (.iconst 1, 1) := by decide +kernel
theorem dX8_canSum_26 : decode cX8_canSum 26 = .ok (.goto 4, 3) := by decide +kernel
theorem dX8_canSum_29 : decode cX8_canSum 29 = .ok (.iconst 0, 1) := by decide +kernel
theorem dX8_canSum_30 : decode cX8_canSum 30 = .ok (.ireturn, 1) := by decide +kernel
theorem dX8_layWays_0 : decode cX8_layWays 0 = .ok (.aload_n 0, 1) := by decide +kernel
theorem dX8_layWays_1 : decode cX8_layWays 1 = .ok (.bipush 33, 2) := by decide +kernel
theorem dX8_layWays_3 : decode cX8_layWays 3 = .ok (.aload_n 0, 1) := by decide +kernel
theorem dX8_layWays_4 : decode cX8_layWays 4 = .ok (.iconst 0, 1) := by decide +kernel
theorem dX8_layWays_5 : decode cX8_layWays 5 = .ok (.invokevirtual 221, 3) := by decide +kernel
theorem dX8_layWays_8 : decode cX8_layWays 8 = .ok (.invokevirtual 244, 3) := by decide +kernel
theorem dX8_layWays_11 : decode cX8_layWays 11 = .ok (.istore_n 1, 1) := by decide +kernel
theorem dX8_layWays_12 : decode cX8_layWays 12 = .ok (.iconst 0, 1) := by decide +kernel
theorem dX8_layWays_13 : decode cX8_layWays 13 = .ok (.istore_n 2, 1) := by decide +kernel
theorem dX8_layWays_14 : decode cX8_layWays 14 = .ok (.iload_n 2, 1) := by decide +kernel
theorem dX8_layWays_15 : decode cX8_layWays 15 = .ok (.iload_n 1, 1) := by decide +kernel
theorem dX8_layWays_16 : decode cX8_layWays 16 = .ok (.if_icmp .gt 24, 3) := by decide +kernel
theorem dX8_layWays_19 : decode cX8_layWays 19 = .ok (.aload_n 0, 1) := by decide +kernel
theorem dX8_layWays_20 : decode cX8_layWays 20 = .ok (.getfield 98, 3) := by decide +kernel
theorem dX8_layWays_23 : decode cX8_layWays 23 = .ok (.iload_n 2, 1) := by decide +kernel
theorem dX8_layWays_24 : decode cX8_layWays 24 = .ok (.iload_n 2, 1) := by decide +kernel
theorem dX8_layWays_25 : decode cX8_layWays 25 = .ok (.ifCond .ne 7, 3) := by decide +kernel
theorem dX8_layWays_28 : decode cX8_layWays 28 = .ok (.iconst 1, 1) := by decide +kernel
theorem dX8_layWays_29 : decode cX8_layWays 29 = .ok (.goto 4, 3) := by decide +kernel
theorem dX8_layWays_32 : decode cX8_layWays 32 = .ok (.iconst 0, 1) := by decide +kernel
theorem dX8_layWays_33 : decode cX8_layWays 33 = .ok (.iastore, 1) := by decide +kernel
theorem dX8_layWays_34 : decode cX8_layWays 34 = .ok (.iinc 2 1, 3) := by decide +kernel
theorem dX8_layWays_37 : decode cX8_layWays 37 = .ok (.goto (-23), 3) := by decide +kernel
theorem dX8_layWays_40 : decode cX8_layWays 40 = .ok (.iconst 0, 1) := by decide +kernel
theorem dX8_layWays_41 : decode cX8_layWays 41 = .ok (.istore_n 2, 1) := by decide +kernel
theorem dX8_layWays_42 : decode cX8_layWays 42 = .ok (.iconst 0, 1) := by decide +kernel
theorem dX8_layWays_43 : decode cX8_layWays 43 = .ok (.istore_n 3, 1) := by decide +kernel
theorem dX8_layWays_44 : decode cX8_layWays 44 = .ok (.iload_n 3, 1) := by decide +kernel
theorem dX8_layWays_45 : decode cX8_layWays 45 = .ok (.aload_n 0, 1) := by decide +kernel
theorem dX8_layWays_46 : decode cX8_layWays 46 = .ok (.iconst 0, 1) := by decide +kernel
theorem dX8_layWays_47 : decode cX8_layWays 47 = .ok (.invokevirtual 221, 3) := by decide +kernel
theorem dX8_layWays_50 : decode cX8_layWays 50 = .ok (.if_icmp .ge 75, 3) := by decide +kernel
theorem dX8_layWays_53 : decode cX8_layWays 53 = .ok (.aload_n 0, 1) := by decide +kernel
theorem dX8_layWays_54 : decode cX8_layWays 54 = .ok (.bipush 33, 2) := by decide +kernel
theorem dX8_layWays_56 : decode cX8_layWays 56 = .ok (.iload_n 3, 1) := by decide +kernel
theorem dX8_layWays_57 : decode cX8_layWays 57 = .ok (.iadd, 1) := by decide +kernel
theorem dX8_layWays_58 : decode cX8_layWays 58 = .ok (.invokevirtual 221, 3) := by decide +kernel
theorem dX8_layWays_61 : decode cX8_layWays 61 = .ok (.istore 4, 2) := by decide +kernel
theorem dX8_layWays_63 : decode cX8_layWays 63 = .ok (.iload_n 2, 1) := by decide +kernel
theorem dX8_layWays_64 : decode cX8_layWays 64 = .ok (.iload 4, 2) := by decide +kernel
theorem dX8_layWays_66 : decode cX8_layWays 66 = .ok (.iadd, 1) := by decide +kernel
theorem dX8_layWays_67 : decode cX8_layWays 67 = .ok (.istore_n 2, 1) := by decide +kernel
theorem dX8_layWays_68 : decode cX8_layWays 68 = .ok (.iload_n 2, 1) := by decide +kernel
theorem dX8_layWays_69 : decode cX8_layWays 69 = .ok (.istore 5, 2) := by decide +kernel
theorem dX8_layWays_71 : decode cX8_layWays 71 = .ok (.iload 5, 2) := by decide +kernel
theorem dX8_layWays_73 : decode cX8_layWays 73 = .ok (.iload 4, 2) := by decide +kernel
theorem dX8_layWays_75 : decode cX8_layWays 75 = .ok (.if_icmp .lt 44, 3) := by decide +kernel
theorem dX8_layWays_78 : decode cX8_layWays 78 = .ok (.aload_n 0, 1) := by decide +kernel
theorem dX8_layWays_79 : decode cX8_layWays 79 = .ok (.getfield 98, 3) := by decide +kernel
theorem dX8_layWays_82 : decode cX8_layWays 82 = .ok (.iload 5, 2) := by decide +kernel
theorem dX8_layWays_84 : decode cX8_layWays 84 = .ok (.dup2, 1) := by decide +kernel
theorem dX8_layWays_85 : decode cX8_layWays 85 = .ok (.iaload, 1) := by decide +kernel
theorem dX8_layWays_86 : decode cX8_layWays 86 = .ok (.iload 4, 2) := by decide +kernel
theorem dX8_layWays_88 : decode cX8_layWays 88 = .ok (.ifCond .ne 13, 3) := by decide +kernel
theorem dX8_layWays_91 : decode cX8_layWays 91 = .ok (.aload_n 0, 1) := by decide +kernel
theorem dX8_layWays_92 : decode cX8_layWays 92 = .ok (.getfield 98, 3) := by decide +kernel
theorem dX8_layWays_95 : decode cX8_layWays 95 = .ok (.iload 5, 2) := by decide +kernel
theorem dX8_layWays_97 : decode cX8_layWays 97 = .ok (.iaload, 1) := by decide +kernel
theorem dX8_layWays_98 : decode cX8_layWays 98 = .ok (.goto 13, 3) := by decide +kernel
theorem dX8_layWays_101 : decode cX8_layWays 101 = .ok (.aload_n 0, 1) := by decide +kernel
theorem dX8_layWays_102 : decode cX8_layWays 102 = .ok (.getfield 98, 3) := by decide +kernel
theorem dX8_layWays_105 : decode cX8_layWays 105 = .ok (.iload 5, 2) := by decide +kernel
theorem dX8_layWays_107 : decode cX8_layWays 107 = .ok (.iload 4, 2) := by decide +kernel
theorem dX8_layWays_109 : decode cX8_layWays 109 = .ok (.isub, 1) := by decide +kernel
theorem dX8_layWays_110 : decode cX8_layWays 110 = .ok (.iaload, 1) := by decide +kernel
theorem dX8_layWays_111 : decode cX8_layWays 111 = .ok (.iadd, 1) := by decide +kernel
theorem dX8_layWays_112 : decode cX8_layWays 112 = .ok (.iastore, 1) := by decide +kernel
theorem dX8_layWays_113 : decode cX8_layWays 113 = .ok (.iinc 5 (-1), 3) := by decide +kernel
theorem dX8_layWays_116 : decode cX8_layWays 116 = .ok (.goto (-45), 3) := by decide +kernel
theorem dX8_layWays_119 : decode cX8_layWays 119 = .ok (.iinc 3 1, 3) := by decide +kernel
theorem dX8_layWays_122 : decode cX8_layWays 122 = .ok (.goto (-78), 3) := by decide +kernel
theorem dX8_layWays_125 : decode cX8_layWays 125 = .ok (.iload_n 1, 1) := by decide +kernel
theorem dX8_layWays_126 : decode cX8_layWays 126 = .ok (.ireturn, 1) := by decide +kernel
theorem dX8_ways_0 : decode cX8_ways 0 = .ok (.aload_n 0, 1) := by decide +kernel
theorem dX8_ways_1 : decode cX8_ways 1 = .ok (.invokevirtual 386, 3) := by decide +kernel
theorem dX8_ways_4 : decode cX8_ways 4 = .ok (.ifCond .ne 5, 3) := by decide +kernel
theorem dX8_ways_7 : decode cX8_ways 7 = .ok (.iconst (-1), 1) := by decide +kernel
theorem dX8_ways_8 : decode cX8_ways 8 = .ok (.ireturn, 1) := by decide +kernel
theorem dX8_ways_9 : decode cX8_ways 9 = .ok (.aload_n 0, 1) := by decide +kernel
theorem dX8_ways_10 : decode cX8_ways 10 = .ok (.invokevirtual 389, 3) := by decide +kernel
theorem dX8_ways_13 : decode cX8_ways 13 = .ok (.istore_n 2, 1) := by decide +kernel
theorem dX8_ways_14 : decode cX8_ways 14 = .ok (.iload_n 1, 1) := by decide +kernel
theorem dX8_ways_15 : decode cX8_ways 15 = .ok (.iconst 0, 1) := by decide +kernel
theorem dX8_ways_16 : decode cX8_ways 16 = .ok (.iload_n 2, 1) := by decide +kernel
theorem dX8_ways_17 : decode cX8_ways 17 = .ok (.invokestatic 129, 3) := by decide +kernel
theorem dX8_ways_20 : decode cX8_ways 20 = .ok (.ifCond .eq 12, 3) := by decide +kernel
theorem dX8_ways_23 : decode cX8_ways 23 = .ok (.aload_n 0, 1) := by decide +kernel
theorem dX8_ways_24 : decode cX8_ways 24 = .ok (.getfield 98, 3) := by decide +kernel
theorem dX8_ways_27 : decode cX8_ways 27 = .ok (.iload_n 1, 1) := by decide +kernel
theorem dX8_ways_28 : decode cX8_ways 28 = .ok (.iaload, 1) := by decide +kernel
theorem dX8_ways_29 : decode cX8_ways 29 = .ok (.goto 4, 3) := by decide +kernel
theorem dX8_ways_32 : decode cX8_ways 32 = .ok (.iconst 0, 1) := by decide +kernel
theorem dX8_ways_33 : decode cX8_ways 33 = .ok (.ireturn, 1) := by decide +kernel
theorem dX8_sums_0 : decode cX8_sums 0 = .ok (.aload_n 0, 1) := by decide +kernel
theorem dX8_sums_1 : decode cX8_sums 1 = .ok (.invokevirtual 386, 3) := by decide +kernel
theorem dX8_sums_4 : decode cX8_sums 4 = .ok (.ifCond .eq 12, 3) := by decide +kernel
theorem dX8_sums_7 : decode cX8_sums 7 = .ok (.iload_n 1, 1) := by decide +kernel
theorem dX8_sums_8 : decode cX8_sums 8 = .ok (.iconst 0, 1) := by decide +kernel
theorem dX8_sums_9 : decode cX8_sums 9 = .ok (.iconst 3, 1) := by decide +kernel
theorem dX8_sums_10 : decode cX8_sums 10 = .ok (.invokestatic 129, 3) := by decide +kernel
theorem dX8_sums_13 : decode cX8_sums 13 = .ok (.ifCond .ne 5, 3) := by decide +kernel
theorem dX8_sums_16 : decode cX8_sums 16 = .ok (.iconst (-1), 1) := by decide +kernel
theorem dX8_sums_17 : decode cX8_sums 17 = .ok (.ireturn, 1) := by decide +kernel
theorem dX8_sums_18 : decode cX8_sums 18 = .ok (.aload_n 0, 1) := by decide +kernel
theorem dX8_sums_19 : decode cX8_sums 19 = .ok (.invokevirtual 389, 3) := by decide +kernel
theorem dX8_sums_22 : decode cX8_sums 22 = .ok (.istore_n 2, 1) := by decide +kernel
theorem dX8_sums_23 : decode cX8_sums 23 = .ok (.iconst 0, 1) := by decide +kernel
theorem dX8_sums_24 : decode cX8_sums 24 = .ok (.istore_n 3, 1) := by decide +kernel
theorem dX8_sums_25 : decode cX8_sums 25 = .ok (.iconst 0, 1) := by decide +kernel
theorem dX8_sums_26 : decode cX8_sums 26 = .ok (.istore 4, 2) := by decide +kernel
theorem dX8_sums_28 : decode cX8_sums 28 = .ok (.iconst (-1), 1) := by decide +kernel
theorem dX8_sums_29 : decode cX8_sums 29 = .ok (.istore 5, 2) := by decide +kernel
theorem dX8_sums_31 : decode cX8_sums 31 = .ok (.iconst 0, 1) := by decide +kernel
theorem dX8_sums_32 : decode cX8_sums 32 = .ok (.istore 6, 2) := by decide +kernel
theorem dX8_sums_34 : decode cX8_sums 34 = .ok (.iload 6, 2) := by decide +kernel
theorem dX8_sums_36 : decode cX8_sums 36 = .ok (.iload_n 2, 1) := by decide +kernel
theorem dX8_sums_37 : decode cX8_sums 37 = .ok (.if_icmp .gt 78, 3) := by decide +kernel
theorem dX8_sums_40 : decode cX8_sums 40 = .ok (.iload_n 3, 1) := by decide +kernel
theorem dX8_sums_41 : decode cX8_sums 41 = .ok (.aload_n 0, 1) := by decide +kernel
theorem dX8_sums_42 : decode cX8_sums 42 = .ok (.getfield 98, 3) := by decide +kernel
theorem dX8_sums_45 : decode cX8_sums 45 = .ok (.iload 6, 2) := by decide +kernel
theorem dX8_sums_47 : decode cX8_sums 47 = .ok (.iaload, 1) := by decide +kernel
theorem dX8_sums_48 : decode cX8_sums 48 = .ok (.ifCond .le 7, 3) := by decide +kernel
theorem dX8_sums_51 : decode cX8_sums 51 = .ok (.iconst 1, 1) := by decide +kernel
theorem dX8_sums_52 : decode cX8_sums 52 = .ok (.goto 4, 3) := by decide +kernel
theorem dX8_sums_55 : decode cX8_sums 55 = .ok (.iconst 0, 1) := by decide +kernel
theorem dX8_sums_56 : decode cX8_sums 56 = .ok (.iadd, 1) := by decide +kernel
theorem dX8_sums_57 : decode cX8_sums 57 = .ok (.istore_n 3, 1) := by decide +kernel
theorem dX8_sums_58 : decode cX8_sums 58 = .ok (.aload_n 0, 1) := by decide +kernel
theorem dX8_sums_59 : decode cX8_sums 59 = .ok (.getfield 98, 3) := by decide +kernel
theorem dX8_sums_62 : decode cX8_sums 62 = .ok (.iload 6, 2) := by decide +kernel
theorem dX8_sums_64 : decode cX8_sums 64 = .ok (.iaload, 1) := by decide +kernel
theorem dX8_sums_65 : decode cX8_sums 65 = .ok (.aload_n 0, 1) := by decide +kernel
theorem dX8_sums_66 : decode cX8_sums 66 = .ok (.getfield 98, 3) := by decide +kernel
theorem dX8_sums_69 : decode cX8_sums 69 = .ok (.iload 4, 2) := by decide +kernel
theorem dX8_sums_71 : decode cX8_sums 71 = .ok (.iaload, 1) := by decide +kernel
theorem dX8_sums_72 : decode cX8_sums 72 = .ok (.if_icmp .le 8, 3) := by decide +kernel
theorem dX8_sums_75 : decode cX8_sums 75 = .ok (.iload 6, 2) := by decide +kernel
theorem dX8_sums_77 : decode cX8_sums 77 = .ok (.goto 5, 3) := by decide +kernel
theorem dX8_sums_80 : decode cX8_sums 80 = .ok (.iload 4, 2) := by decide +kernel
theorem dX8_sums_82 : decode cX8_sums 82 = .ok (.istore 4, 2) := by decide +kernel
theorem dX8_sums_84 : decode cX8_sums 84 = .ok (.aload_n 0, 1) := by decide +kernel
theorem dX8_sums_85 : decode cX8_sums 85 = .ok (.getfield 98, 3) := by decide +kernel
theorem dX8_sums_88 : decode cX8_sums 88 = .ok (.iload 6, 2) := by decide +kernel
theorem dX8_sums_90 : decode cX8_sums 90 = .ok (.iaload, 1) := by decide +kernel
theorem dX8_sums_91 : decode cX8_sums 91 = .ok (.ifCond .ne 14, 3) := by decide +kernel
theorem dX8_sums_94 : decode cX8_sums 94 = .ok (.iload 5, 2) := by decide +kernel
theorem dX8_sums_96 : decode cX8_sums 96 = .ok (.iconst (-1), 1) := by decide +kernel
theorem dX8_sums_97 : decode cX8_sums 97 = .ok (.if_icmp .ne 8, 3) := by decide +kernel
theorem dX8_sums_100 : decode cX8_sums 100 = .ok (.iload 6, 2) := by decide +kernel
theorem dX8_sums_102 : decode cX8_sums 102 = .ok (.goto 5, 3) := by decide +kernel
theorem dX8_sums_105 : decode cX8_sums 105 = .ok (.iload 5, 2) := by decide +kernel
theorem dX8_sums_107 : decode cX8_sums 107 = .ok (.istore 5, 2) := by decide +kernel
theorem dX8_sums_109 : decode cX8_sums 109 = .ok (.iinc 6 1, 3) := by decide +kernel
theorem dX8_sums_112 : decode cX8_sums 112 = .ok (.goto (-78), 3) := by decide +kernel
theorem dX8_sums_115 : decode cX8_sums 115 = .ok (.iload_n 1, 1) := by decide +kernel
theorem dX8_sums_116 : decode cX8_sums 116 = .ok (.ifCond .ne 7, 3) := by decide +kernel
theorem dX8_sums_119 : decode cX8_sums 119 = .ok (.iload_n 3, 1) := by decide +kernel
theorem dX8_sums_120 : decode cX8_sums 120 = .ok (.goto 30, 3) := by decide +kernel
theorem dX8_sums_123 : decode cX8_sums 123 = .ok (.iload_n 1, 1) := by decide +kernel
theorem dX8_sums_124 : decode cX8_sums 124 = .ok (.iconst 1, 1) := by decide +kernel
theorem dX8_sums_125 : decode cX8_sums 125 = .ok (.if_icmp .ne 13, 3) := by decide +kernel
theorem dX8_sums_128 : decode cX8_sums 128 = .ok (.aload_n 0, 1) := by decide +kernel
theorem dX8_sums_129 : decode cX8_sums 129 = .ok (.getfield 98, 3) := by decide +kernel
theorem dX8_sums_132 : decode cX8_sums 132 = .ok (.iload 4, 2) := by decide +kernel
theorem dX8_sums_134 : decode cX8_sums 134 = .ok (.iaload, 1) := by decide +kernel
theorem dX8_sums_135 : decode cX8_sums 135 = .ok (.goto 15, 3) := by decide +kernel
theorem dX8_sums_138 : decode cX8_sums 138 = .ok (.iload_n 1, 1) := by decide +kernel
theorem dX8_sums_139 : decode cX8_sums 139 = .ok (.iconst 2, 1) := by decide +kernel
theorem dX8_sums_140 : decode cX8_sums 140 = .ok (.if_icmp .ne 8, 3) := by decide +kernel
theorem dX8_sums_143 : decode cX8_sums 143 = .ok (.iload 4, 2) := by decide +kernel
theorem dX8_sums_145 : decode cX8_sums 145 = .ok (.goto 5, 3) := by decide +kernel
theorem dX8_sums_148 : decode cX8_sums 148 = .ok (.iload 5, 2) := by decide +kernel
theorem dX8_sums_150 : decode cX8_sums 150 = .ok (.ireturn, 1) := by decide +kernel
theorem dX8_mean_0 : decode cX8_mean 0 = .ok (.iload_n 1, 1) := by decide +kernel
theorem dX8_mean_1 : decode cX8_mean 1 = .ok (.invokestatic 280, 3) := by decide +kernel
theorem dX8_mean_4 : decode cX8_mean 4 = .ok (.ifCond .eq 21, 3) := by decide +kernel
theorem dX8_mean_7 : decode cX8_mean 7 = .ok (.iload_n 2, 1) := by decide +kernel
theorem dX8_mean_8 : decode cX8_mean 8 = .ok (.iconst 1, 1) := by decide +kernel
theorem dX8_mean_9 : decode cX8_mean 9 = .ok (.bipush 100, 2) := by decide +kernel
theorem dX8_mean_11 : decode cX8_mean 11 = .ok (.invokestatic 129, 3) := by decide +kernel
theorem dX8_mean_14 : decode cX8_mean 14 = .ok (.ifCond .eq 11, 3) := by decide +kernel
theorem dX8_mean_17 : decode cX8_mean 17 = .ok (.aload_n 0, 1) := by decide +kernel
theorem dX8_mean_18 : decode cX8_mean 18 = .ok (.iconst 0, 1) := by decide +kernel
theorem dX8_mean_19 : decode cX8_mean 19 = .ok (.invokevirtual 221, 3) := by decide +kernel
theorem dX8_mean_22 : decode cX8_mean 22 = .ok (.ifCond .ne 7, 3) := by decide +kernel
theorem dX8_mean_25 : decode cX8_mean 25 = .ok (.ldc_w 283, 3) := by decide +kernel
theorem dX8_mean_28 : decode cX8_mean 28 = .ok (.ireturn, 1) := by decide +kernel
theorem dX8_mean_29 : decode cX8_mean 29 = .ok (.lconst 0, 1) := by decide +kernel
theorem dX8_mean_30 : decode cX8_mean 30 = .ok (.lstore_n 3, 1) := by decide +kernel
theorem dX8_mean_31 : decode cX8_mean 31 = .ok (.iconst 0, 1) := by decide +kernel
theorem dX8_mean_32 : decode cX8_mean 32 = .ok (.istore 5, 2) := by decide +kernel
theorem dX8_mean_34 : decode cX8_mean 34 = .ok (.iload 5, 2) := by decide +kernel
theorem dX8_mean_36 : decode cX8_mean 36 = .ok (.iload_n 2, 1) := by decide +kernel
theorem dX8_mean_37 : decode cX8_mean 37 = .ok (.if_icmp .ge 32, 3) := by decide +kernel
theorem dX8_mean_40 : decode cX8_mean 40 = .ok (.aload_n 0, 1) := by decide +kernel
theorem dX8_mean_41 : decode cX8_mean 41 = .ok (.iload_n 1, 1) := by decide +kernel
theorem dX8_mean_42 : decode cX8_mean 42 = .ok (.aload_n 0, 1) := by decide +kernel
theorem dX8_mean_43 : decode cX8_mean 43 = .ok (.iconst 0, 1) := by decide +kernel
theorem dX8_mean_44 : decode cX8_mean 44 = .ok (.invokevirtual 221, 3) := by decide +kernel
theorem dX8_mean_47 : decode cX8_mean 47 = .ok (.aload_n 0, 1) := by decide +kernel
theorem dX8_mean_48 : decode cX8_mean 48 = .ok (.iconst 1, 1) := by decide +kernel
theorem dX8_mean_49 : decode cX8_mean 49 = .ok (.invokevirtual 221, 3) := by decide +kernel
theorem dX8_mean_52 : decode cX8_mean 52 = .ok (.invokevirtual 273, 3) := by decide +kernel
theorem dX8_mean_55 : decode cX8_mean 55 = .ok (.lload_n 3, 1) := by decide +kernel
theorem dX8_mean_56 : decode cX8_mean 56 = .ok (.aload_n 0, 1) := by decide +kernel
theorem dX8_mean_57 : decode cX8_mean 57 = .ok (.invokevirtual 276, 3) := by decide +kernel
theorem dX8_mean_60 : decode cX8_mean 60 = .ok (.i2l, 1) := by decide +kernel
theorem dX8_mean_61 : decode cX8_mean 61 = .ok (.ladd, 1) := by decide +kernel
theorem dX8_mean_62 : decode cX8_mean 62 = .ok (.lstore_n 3, 1) := by decide +kernel
theorem dX8_mean_63 : decode cX8_mean 63 = .ok (.iinc 5 1, 3) := by decide +kernel
theorem dX8_mean_66 : decode cX8_mean 66 = .ok (.goto (-32), 3) := by decide +kernel
theorem dX8_mean_69 : decode cX8_mean 69 = .ok (.ldc2_w 392, 3) := by decide +kernel
theorem dX8_mean_72 : decode cX8_mean 72 = .ok (.lload_n 3, 1) := by decide +kernel
theorem dX8_mean_73 : decode cX8_mean 73 = .ok (.lmul, 1) := by decide +kernel
theorem dX8_mean_74 : decode cX8_mean 74 = .ok (.iload_n 2, 1) := by decide +kernel
theorem dX8_mean_75 : decode cX8_mean 75 = .ok (.i2l, 1) := by decide +kernel
theorem dX8_mean_76 : decode cX8_mean 76 = .ok (.ladd, 1) := by decide +kernel
theorem dX8_mean_77 : decode cX8_mean 77 = .ok (.ldc2_w 392, 3) := by decide +kernel
theorem dX8_mean_80 : decode cX8_mean 80 = .ok (.iload_n 2, 1) := by decide +kernel
theorem dX8_mean_81 : decode cX8_mean 81 = .ok (.i2l, 1) := by decide +kernel
theorem dX8_mean_82 : decode cX8_mean 82 = .ok (.lmul, 1) := by decide +kernel
theorem dX8_mean_83 : decode cX8_mean 83 = .ok (.ldiv, 1) := by decide +kernel
theorem dX8_mean_84 : decode cX8_mean 84 = .ok (.l2i, 1) := by decide +kernel
theorem dX8_mean_85 : decode cX8_mean 85 = .ok (.ireturn, 1) := by decide +kernel
theorem dX8_keep_0 : decode cX8_keep 0 = .ok (.iload_n 1, 1) := by decide +kernel
theorem dX8_keep_1 : decode cX8_keep 1 = .ok (.iconst 0, 1) := by decide +kernel
theorem dX8_keep_2 : decode cX8_keep 2 = .ok (.iconst 2, 1) := by decide +kernel
theorem dX8_keep_3 : decode cX8_keep 3 = .ok (.invokestatic 129, 3) := by decide +kernel
theorem dX8_keep_6 : decode cX8_keep 6 = .ok (.ifCond .ne 5, 3) := by decide +kernel
theorem dX8_keep_9 : decode cX8_keep 9 = .ok (.iconst 0, 1) := by decide +kernel
theorem dX8_keep_10 : decode cX8_keep 10 = .ok (.ireturn, 1) := by decide +kernel
theorem dX8_keep_11 : decode cX8_keep 11 = .ok (.aload_n 0, 1) := by decide +kernel
theorem dX8_keep_12 : decode cX8_keep 12 = .ok (.iconst 0, 1) := by decide +kernel
theorem dX8_keep_13 : decode cX8_keep 13 = .ok (.iconst 1, 1) := by decide +kernel
theorem dX8_keep_14 : decode cX8_keep 14 = .ok (.iload_n 1, 1) := by decide +kernel
theorem dX8_keep_15 : decode cX8_keep 15 = .ok (.iadd, 1) := by decide +kernel
theorem dX8_keep_16 : decode cX8_keep 16 = .ok (.invokevirtual 11, 3) := by decide +kernel
theorem dX8_keep_19 : decode cX8_keep 19 = .ok (.aload_n 0, 1) := by decide +kernel
theorem dX8_keep_20 : decode cX8_keep 20 = .ok (.getfield 101, 3) := by decide +kernel
theorem dX8_keep_23 : decode cX8_keep 23 = .ok (.iload_n 1, 1) := by decide +kernel
theorem dX8_keep_24 : decode cX8_keep 24 = .ok (.iconst 1, 1) := by decide +kernel
theorem dX8_keep_25 : decode cX8_keep 25 = .ok (.bastore, 1) := by decide +kernel
theorem dX8_keep_26 : decode cX8_keep 26 = .ok (.iconst 1, 1) := by decide +kernel
theorem dX8_keep_27 : decode cX8_keep 27 = .ok (.ireturn, 1) := by decide +kernel
theorem dX8_back_0 : decode cX8_back 0 = .ok (.iload_n 1, 1) := by decide +kernel
theorem dX8_back_1 : decode cX8_back 1 = .ok (.iconst 0, 1) := by decide +kernel
theorem dX8_back_2 : decode cX8_back 2 = .ok (.iconst 2, 1) := by decide +kernel
theorem dX8_back_3 : decode cX8_back 3 = .ok (.invokestatic 129, 3) := by decide +kernel
theorem dX8_back_6 : decode cX8_back 6 = .ok (.ifCond .eq 12, 3) := by decide +kernel
theorem dX8_back_9 : decode cX8_back 9 = .ok (.aload_n 0, 1) := by decide +kernel
theorem dX8_back_10 : decode cX8_back 10 = .ok (.getfield 101, 3) := by decide +kernel
theorem dX8_back_13 : decode cX8_back 13 = .ok (.iload_n 1, 1) := by decide +kernel
theorem dX8_back_14 : decode cX8_back 14 = .ok (.baload, 1) := by decide +kernel
theorem dX8_back_15 : decode cX8_back 15 = .ok (.ifCond .ne 5, 3) := by decide +kernel
theorem dX8_back_18 : decode cX8_back 18 = .ok (.iconst 0, 1) := by decide +kernel
theorem dX8_back_19 : decode cX8_back 19 = .ok (.ireturn, 1) := by decide +kernel
theorem dX8_back_20 : decode cX8_back 20 = .ok (.aload_n 0, 1) := by decide +kernel
theorem dX8_back_21 : decode cX8_back 21 = .ok (.iconst 1, 1) := by decide +kernel
theorem dX8_back_22 : decode cX8_back 22 = .ok (.iload_n 1, 1) := by decide +kernel
theorem dX8_back_23 : decode cX8_back 23 = .ok (.iadd, 1) := by decide +kernel
theorem dX8_back_24 : decode cX8_back 24 = .ok (.iconst 0, 1) := by decide +kernel
theorem dX8_back_25 : decode cX8_back 25 = .ok (.invokevirtual 11, 3) := by decide +kernel
theorem dX8_back_28 : decode cX8_back 28 = .ok (.aload_n 0, 1) := by decide +kernel
theorem dX8_back_29 : decode cX8_back 29 = .ok (.iconst 0, 1) := by decide +kernel
theorem dX8_back_30 : decode cX8_back 30 = .ok (.putfield 181, 3) := by decide +kernel
theorem dX8_back_33 : decode cX8_back 33 = .ok (.iconst 1, 1) := by decide +kernel
theorem dX8_back_34 : decode cX8_back 34 = .ok (.ireturn, 1) := by decide +kernel
theorem dX8_apart_0 : decode cX8_apart 0 = .ok (.iload_n 1, 1) := by decide +kernel
theorem dX8_apart_1 : decode cX8_apart 1 = .ok (.iconst 0, 1) := by decide +kernel
theorem dX8_apart_2 : decode cX8_apart 2 = .ok (.iconst 2, 1) := by decide +kernel
theorem dX8_apart_3 : decode cX8_apart 3 = .ok (.invokestatic 129, 3) := by decide +kernel
theorem dX8_apart_6 : decode cX8_apart 6 = .ok (.ifCond .eq 56, 3) := by decide +kernel
theorem dX8_apart_9 : decode cX8_apart 9 = .ok (.aload_n 0, 1) := by decide +kernel
theorem dX8_apart_10 : decode cX8_apart 10 = .ok (.getfield 101, 3) := by decide +kernel
theorem dX8_apart_13 : decode cX8_apart 13 = .ok (.iload_n 1, 1) := by decide +kernel
theorem dX8_apart_14 : decode cX8_apart 14 = .ok (.baload, 1) := by decide +kernel
theorem dX8_apart_15 : decode cX8_apart 15 = .ok (.ifCond .eq 47, 3) := by decide +kernel
theorem dX8_apart_18 : decode cX8_apart 18 = .ok (.aload_n 0, 1) := by decide +kernel
theorem dX8_apart_19 : decode cX8_apart 19 = .ok (.iconst 0, 1) := by decide +kernel
theorem dX8_apart_20 : decode cX8_apart 20 = .ok (.invokevirtual 221, 3) := by decide +kernel
theorem dX8_apart_23 : decode cX8_apart 23 = .ok (.ifCond .eq 39, 3) := by decide +kernel
theorem dX8_apart_26 : decode cX8_apart 26 = .ok (.aload_n 0, 1) := by decide +kernel
theorem dX8_apart_27 : decode cX8_apart 27 = .ok (.getfield 1, 3) := by decide +kernel
theorem dX8_apart_30 : decode cX8_apart 30 = .ok (.sipush 160, 3) := by decide +kernel
theorem dX8_apart_33 : decode cX8_apart 33 = .ok (.iconst 1, 1) := by decide +kernel
theorem dX8_apart_34 : decode cX8_apart 34 = .ok (.iload_n 1, 1) := by decide +kernel
theorem dX8_apart_35 : decode cX8_apart 35 = .ok (.iadd, 1) := by decide +kernel
theorem dX8_apart_36 : decode cX8_apart 36 = .ok (.imul, 1) := by decide +kernel
theorem dX8_apart_37 : decode cX8_apart 37 = .ok (.iconst 0, 1) := by decide +kernel
theorem dX8_apart_38 : decode cX8_apart 38 = .ok (.iadd, 1) := by decide +kernel
theorem dX8_apart_39 : decode cX8_apart 39 = .ok (.iaload, 1) := by decide +kernel
theorem dX8_apart_40 : decode cX8_apart 40 = .ok (.ifCond .eq 22, 3) := by decide +kernel
theorem dX8_apart_43 : decode cX8_apart 43 = .ok (.iload_n 2, 1) := by decide +kernel
theorem dX8_apart_44 : decode cX8_apart 44 = .ok (.iload_n 3, 1) := by decide +kernel
theorem dX8_apart_45 : decode cX8_apart 45 = .ok (.iconst 1, 1) := by decide +kernel
theorem dX8_apart_46 : decode cX8_apart 46 = .ok (.invokestatic 344, 3) := by decide +kernel
theorem dX8_apart_49 : decode cX8_apart 49 = .ok (.ifCond .eq 13, 3) := by decide +kernel
theorem dX8_apart_52 : decode cX8_apart 52 = .ok (.iload 4, 2) := by decide +kernel
theorem dX8_apart_54 : decode cX8_apart 54 = .ok (.iconst 0, 1) := by decide +kernel
theorem dX8_apart_55 : decode cX8_apart 55 = .ok (.iconst 2, 1) := by decide +kernel
theorem dX8_apart_56 : decode cX8_apart 56 = .ok (.invokestatic 129, 3) := by decide +kernel
theorem dX8_apart_59 : decode cX8_apart 59 = .ok (.ifCond .ne 7, 3) := by decide +kernel
theorem dX8_apart_62 : decode cX8_apart 62 = .ok (.ldc_w 283, 3) := by decide +kernel
theorem dX8_apart_65 : decode cX8_apart 65 = .ok (.ireturn, 1) := by decide +kernel
theorem dX8_apart_66 : decode cX8_apart 66 = .ok (.iconst 0, 1) := by decide +kernel
theorem dX8_apart_67 : decode cX8_apart 67 = .ok (.istore 5, 2) := by decide +kernel
theorem dX8_apart_69 : decode cX8_apart 69 = .ok (.ldc_w 283, 3) := by decide +kernel
theorem dX8_apart_72 : decode cX8_apart 72 = .ok (.istore 6, 2) := by decide +kernel
theorem dX8_apart_74 : decode cX8_apart 74 = .ok (.iconst 0, 1) := by decide +kernel
theorem dX8_apart_75 : decode cX8_apart 75 = .ok (.istore 7, 2) := by decide +kernel
theorem dX8_apart_77 : decode cX8_apart 77 = .ok (.iload_n 2, 1) := by decide +kernel
theorem dX8_apart_78 : decode cX8_apart 78 = .ok (.istore 8, 2) := by decide +kernel
theorem dX8_apart_80 : decode cX8_apart 80 = .ok (.iload 8, 2) := by decide +kernel
theorem dX8_apart_82 : decode cX8_apart 82 = .ok (.iload_n 3, 1) := by decide +kernel
theorem dX8_apart_83 : decode cX8_apart 83 = .ok (.if_icmp .gt 101, 3) := by decide +kernel
theorem dX8_apart_86 : decode cX8_apart 86 = .ok (.aload_n 0, 1) := by decide +kernel
theorem dX8_apart_87 : decode cX8_apart 87 = .ok (.iload 8, 2) := by decide +kernel
theorem dX8_apart_89 : decode cX8_apart 89 = .ok (.invokevirtual 308, 3) := by decide +kernel
theorem dX8_apart_92 : decode cX8_apart 92 = .ok (.istore 9, 2) := by decide +kernel
theorem dX8_apart_94 : decode cX8_apart 94 = .ok (.aload_n 0, 1) := by decide +kernel
theorem dX8_apart_95 : decode cX8_apart 95 = .ok (.sipush 160, 3) := by decide +kernel
theorem dX8_apart_98 : decode cX8_apart 98 = .ok (.iconst 1, 1) := by decide +kernel
theorem dX8_apart_99 : decode cX8_apart 99 = .ok (.iload_n 1, 1) := by decide +kernel
theorem dX8_apart_100 : decode cX8_apart 100 = .ok (.iadd, 1) := by decide +kernel
theorem dX8_apart_101 : decode cX8_apart 101 = .ok (.imul, 1) := by decide +kernel
theorem dX8_apart_102 : decode cX8_apart 102 = .ok (.putfield 7, 3) := by decide +kernel
theorem dX8_apart_105 : decode cX8_apart 105 = .ok (.iload 9, 2) := by decide +kernel
theorem dX8_apart_107 : decode cX8_apart 107 = .ok (.aload_n 0, 1) := by decide +kernel
theorem dX8_apart_108 : decode cX8_apart 108 = .ok (.iload 8, 2) := by decide +kernel
theorem dX8_apart_110 : decode cX8_apart 110 = .ok (.invokevirtual 308, 3) := by decide +kernel
theorem dX8_apart_113 : decode cX8_apart 113 = .ok (.isub, 1) := by decide +kernel
theorem dX8_apart_114 : decode cX8_apart 114 = .ok (.istore 10, 2) := by decide +kernel
theorem dX8_apart_116 : decode cX8_apart 116 = .ok (.aload_n 0, 1) := by decide +kernel
theorem dX8_apart_117 : decode cX8_apart 117 = .ok (.iconst 0, 1) := by decide +kernel
theorem dX8_apart_118 : decode cX8_apart 118 = .ok (.putfield 7, 3) := by decide +kernel
theorem dX8_apart_121 : decode cX8_apart 121 = .ok (.iload 10, 2) := by decide +kernel
theorem dX8_apart_123 : decode cX8_apart 123 = .ok (.ifCond .ge 9, 3) := by decide +kernel
theorem dX8_apart_126 : decode cX8_apart 126 = .ok (.iload 10, 2) := by decide +kernel
theorem dX8_apart_128 : decode cX8_apart 128 = .ok (.ineg, 1) := by decide +kernel
theorem dX8_apart_129 : decode cX8_apart 129 = .ok (.goto 5, 3) := by decide +kernel
theorem dX8_apart_132 : decode cX8_apart 132 = .ok (.iload 10, 2) := by decide +kernel
theorem dX8_apart_134 : decode cX8_apart 134 = .ok (.istore 10, 2) := by decide +kernel
theorem dX8_apart_136 : decode cX8_apart 136 = .ok (.iload 10, 2) := by decide +kernel
theorem dX8_apart_138 : decode cX8_apart 138 = .ok (.ifCond .ne 6, 3) := by decide +kernel
theorem dX8_apart_141 : decode cX8_apart 141 = .ok (.goto 37, 3) := by decide +kernel
theorem dX8_apart_144 : decode cX8_apart 144 = .ok (.iinc 5 1, 3) := by decide +kernel
theorem dX8_apart_147 : decode cX8_apart 147 = .ok (.iload 5, 2) := by decide +kernel
theorem dX8_apart_149 : decode cX8_apart 149 = .ok (.iconst 1, 1) := by decide +kernel
theorem dX8_apart_150 : decode cX8_apart 150 = .ok (.if_icmp .ne 8, 3) := by decide +kernel
theorem dX8_apart_153 : decode cX8_apart 153 = .ok (.iload 8, 2) := by decide +kernel
theorem dX8_apart_155 : decode cX8_apart 155 = .ok (.goto 5, 3) := by decide +kernel
theorem dX8_apart_158 : decode cX8_apart 158 = .ok (.iload 6, 2) := by decide +kernel
theorem dX8_apart_160 : decode cX8_apart 160 = .ok (.istore 6, 2) := by decide +kernel
theorem dX8_apart_162 : decode cX8_apart 162 = .ok (.iload 10, 2) := by decide +kernel
theorem dX8_apart_164 : decode cX8_apart 164 = .ok (.iload 7, 2) := by decide +kernel
theorem dX8_apart_166 : decode cX8_apart 166 = .ok (.if_icmp .le 8, 3) := by decide +kernel
theorem dX8_apart_169 : decode cX8_apart 169 = .ok (.iload 10, 2) := by decide +kernel
theorem dX8_apart_171 : decode cX8_apart 171 = .ok (.goto 5, 3) := by decide +kernel
theorem dX8_apart_174 : decode cX8_apart 174 = .ok (.iload 7, 2) := by decide +kernel
theorem dX8_apart_176 : decode cX8_apart 176 = .ok (.istore 7, 2) := by decide +kernel
theorem dX8_apart_178 : decode cX8_apart 178 = .ok (.iinc 8 1, 3) := by decide +kernel
theorem dX8_apart_181 : decode cX8_apart 181 = .ok (.goto (-101), 3) := by decide +kernel
theorem dX8_apart_184 : decode cX8_apart 184 = .ok (.iload 4, 2) := by decide +kernel
theorem dX8_apart_186 : decode cX8_apart 186 = .ok (.ifCond .ne 8, 3) := by decide +kernel
theorem dX8_apart_189 : decode cX8_apart 189 = .ok (.iload 5, 2) := by decide +kernel
theorem dX8_apart_191 : decode cX8_apart 191 = .ok (.goto 16, 3) := by decide +kernel
theorem dX8_apart_194 : decode cX8_apart 194 = .ok (.iload 4, 2) := by decide +kernel
theorem dX8_apart_196 : decode cX8_apart 196 = .ok (.iconst 1, 1) := by decide +kernel
theorem dX8_apart_197 : decode cX8_apart 197 = .ok (.if_icmp .ne 8, 3) := by decide +kernel
theorem dX8_apart_200 : decode cX8_apart 200 = .ok (.iload 6, 2) := by decide +kernel
theorem dX8_apart_202 : decode cX8_apart 202 = .ok (.goto 5, 3) := by decide +kernel
theorem dX8_apart_205 : decode cX8_apart 205 = .ok (.iload 7, 2) := by decide +kernel
theorem dX8_apart_207 : decode cX8_apart 207 = .ok (.ireturn, 1) := by decide +kernel
theorem dX8_see_0 : decode cX8_see 0 = .ok (.iload_n 1, 1) := by decide +kernel
theorem dX8_see_1 : decode cX8_see 1 = .ok (.invokestatic 280, 3) := by decide +kernel
theorem dX8_see_4 : decode cX8_see 4 = .ok (.ifCond .ne 6, 3) := by decide +kernel
theorem dX8_see_7 : decode cX8_see 7 = .ok (.bipush (-2), 2) := by decide +kernel
theorem dX8_see_9 : decode cX8_see 9 = .ok (.ireturn, 1) := by decide +kernel
theorem dX8_see_10 : decode cX8_see 10 = .ok (.aload_n 0, 1) := by decide +kernel
theorem dX8_see_11 : decode cX8_see 11 = .ok (.bipush 57, 2) := by decide +kernel
theorem dX8_see_13 : decode cX8_see 13 = .ok (.invokevirtual 221, 3) := by decide +kernel
theorem dX8_see_16 : decode cX8_see 16 = .ok (.istore_n 3, 1) := by decide +kernel
theorem dX8_see_17 : decode cX8_see 17 = .ok (.iload_n 3, 1) := by decide +kernel
theorem dX8_see_18 : decode cX8_see 18 = .ok (.bipush 8, 2) := by decide +kernel
theorem dX8_see_20 : decode cX8_see 20 = .ok (.if_icmp .ne 5, 3) := by decide +kernel
theorem dX8_see_23 : decode cX8_see 23 = .ok (.iconst (-1), 1) := by decide +kernel
theorem dX8_see_24 : decode cX8_see 24 = .ok (.ireturn, 1) := by decide +kernel
theorem dX8_see_25 : decode cX8_see 25 = .ok (.aload_n 0, 1) := by decide +kernel
theorem dX8_see_26 : decode cX8_see 26 = .ok (.bipush 58, 2) := by decide +kernel
theorem dX8_see_28 : decode cX8_see 28 = .ok (.iload_n 3, 1) := by decide +kernel
theorem dX8_see_29 : decode cX8_see 29 = .ok (.iadd, 1) := by decide +kernel
theorem dX8_see_30 : decode cX8_see 30 = .ok (.iload_n 1, 1) := by decide +kernel
theorem dX8_see_31 : decode cX8_see 31 = .ok (.invokevirtual 119, 3) := by decide +kernel
theorem dX8_see_34 : decode cX8_see 34 = .ok (.aload_n 0, 1) := by decide +kernel
theorem dX8_see_35 : decode cX8_see 35 = .ok (.bipush 66, 2) := by decide +kernel
theorem dX8_see_37 : decode cX8_see 37 = .ok (.iload_n 3, 1) := by decide +kernel
theorem dX8_see_38 : decode cX8_see 38 = .ok (.iadd, 1) := by decide +kernel
theorem dX8_see_39 : decode cX8_see 39 = .ok (.iload_n 2, 1) := by decide +kernel
theorem dX8_see_40 : decode cX8_see 40 = .ok (.invokevirtual 119, 3) := by decide +kernel
theorem dX8_see_43 : decode cX8_see 43 = .ok (.aload_n 0, 1) := by decide +kernel
theorem dX8_see_44 : decode cX8_see 44 = .ok (.bipush 57, 2) := by decide +kernel
theorem dX8_see_46 : decode cX8_see 46 = .ok (.iload_n 3, 1) := by decide +kernel
theorem dX8_see_47 : decode cX8_see 47 = .ok (.iconst 1, 1) := by decide +kernel
theorem dX8_see_48 : decode cX8_see 48 = .ok (.iadd, 1) := by decide +kernel
theorem dX8_see_49 : decode cX8_see 49 = .ok (.invokevirtual 119, 3) := by decide +kernel
theorem dX8_see_52 : decode cX8_see 52 = .ok (.iload_n 3, 1) := by decide +kernel
theorem dX8_see_53 : decode cX8_see 53 = .ok (.iconst 1, 1) := by decide +kernel
theorem dX8_see_54 : decode cX8_see 54 = .ok (.iadd, 1) := by decide +kernel
theorem dX8_see_55 : decode cX8_see 55 = .ok (.ireturn, 1) := by decide +kernel
theorem dX8_wipe_0 : decode cX8_wipe 0 = .ok (.aload_n 0, 1) := by decide +kernel
theorem dX8_wipe_1 : decode cX8_wipe 1 = .ok (.bipush 57, 2) := by decide +kernel
theorem dX8_wipe_3 : decode cX8_wipe 3 = .ok (.invokevirtual 221, 3) := by decide +kernel
theorem dX8_wipe_6 : decode cX8_wipe 6 = .ok (.istore_n 1, 1) := by decide +kernel
theorem dX8_wipe_7 : decode cX8_wipe 7 = .ok (.aload_n 0, 1) := by decide +kernel
theorem dX8_wipe_8 : decode cX8_wipe 8 = .ok (.bipush 57, 2) := by decide +kernel
theorem dX8_wipe_10 : decode cX8_wipe 10 = .ok (.iconst 0, 1) := by decide +kernel
theorem dX8_wipe_11 : decode cX8_wipe 11 = .ok (.invokevirtual 119, 3) := by decide +kernel
theorem dX8_wipe_14 : decode cX8_wipe 14 = .ok (.iload_n 1, 1) := by decide +kernel
theorem dX8_wipe_15 : decode cX8_wipe 15 = .ok (.ireturn, 1) := by decide +kernel
theorem dX8_isSeen_0 : decode cX8_isSeen 0 = .ok (.iconst 0, 1) := by decide +kernel
theorem dX8_isSeen_1 : decode cX8_isSeen 1 = .ok (.istore_n 1, 1) := by decide +kernel
theorem dX8_isSeen_2 : decode cX8_isSeen 2 = .ok (.iload_n 1, 1) := by decide +kernel
theorem dX8_isSeen_3 : decode cX8_isSeen 3 = .ok (.aload_n 0, 1) := by decide +kernel
theorem dX8_isSeen_4 : decode cX8_isSeen 4 = .ok (.bipush 57, 2) := by decide +kernel
theorem dX8_isSeen_6 : decode cX8_isSeen 6 = .ok (.invokevirtual 221, 3) := by decide +kernel
theorem dX8_isSeen_9 : decode cX8_isSeen 9 = .ok (.if_icmp .ge 34, 3) := by decide +kernel
theorem dX8_isSeen_12 : decode cX8_isSeen 12 = .ok (.aload_n 0, 1) := by decide +kernel
theorem dX8_isSeen_13 : decode cX8_isSeen 13 = .ok (.aload_n 0, 1) := by decide +kernel
theorem dX8_isSeen_14 : decode cX8_isSeen 14 = .ok (.bipush 58, 2) := by decide +kernel
theorem dX8_isSeen_16 : decode cX8_isSeen 16 = .ok (.iload_n 1, 1) := by decide +kernel
theorem dX8_isSeen_17 : decode cX8_isSeen 17 = .ok (.iadd, 1) := by decide +kernel
theorem dX8_isSeen_18 : decode cX8_isSeen 18 = .ok (.invokevirtual 221, 3) := by decide +kernel
theorem dX8_isSeen_21 : decode cX8_isSeen 21 = .ok (.invokevirtual 308, 3) := by decide +kernel
theorem dX8_isSeen_24 : decode cX8_isSeen 24 = .ok (.aload_n 0, 1) := by decide +kernel
theorem dX8_isSeen_25 : decode cX8_isSeen 25 = .ok (.bipush 66, 2) := by decide +kernel
theorem dX8_isSeen_27 : decode cX8_isSeen 27 = .ok (.iload_n 1, 1) := by decide +kernel
theorem dX8_isSeen_28 : decode cX8_isSeen 28 = .ok (.iadd, 1) := by decide +kernel
theorem dX8_isSeen_29 : decode cX8_isSeen 29 = .ok (.invokevirtual 221, 3) := by decide +kernel
theorem dX8_isSeen_32 : decode cX8_isSeen 32 = .ok (.if_icmp .eq 5, 3) := by decide +kernel
theorem dX8_isSeen_35 : decode cX8_isSeen 35 = .ok (.iconst 0, 1) := by decide +kernel
theorem dX8_isSeen_36 : decode cX8_isSeen 36 = .ok (.ireturn, 1) := by decide +kernel
theorem dX8_isSeen_37 : decode cX8_isSeen 37 = .ok (.iinc 1 1, 3) := by decide +kernel
theorem dX8_isSeen_40 : decode cX8_isSeen 40 = .ok (.goto (-38), 3) := by decide +kernel
theorem dX8_isSeen_43 : decode cX8_isSeen 43 = .ok (.iconst 1, 1) := by decide +kernel
theorem dX8_isSeen_44 : decode cX8_isSeen 44 = .ok (.ireturn, 1) := by decide +kernel
theorem dX8_isFault_0 : decode cX8_isFault 0 = .ok (.iload_n 1, 1) := by decide +kernel
theorem dX8_isFault_1 : decode cX8_isFault 1 = .ok (.ifCond .ne 10, 3) := by decide +kernel
theorem dX8_isFault_4 : decode cX8_isFault 4 = .ok (.bipush 45, 2) := by decide +kernel
theorem dX8_isFault_6 : decode cX8_isFault 6 = .ok (.iload_n 2, 1) := by decide +kernel
theorem dX8_isFault_7 : decode cX8_isFault 7 = .ok (.iadd, 1) := by decide +kernel
theorem dX8_isFault_8 : decode cX8_isFault 8 = .ok (.goto 7, 3) := by decide +kernel
theorem dX8_isFault_11 : decode cX8_isFault 11 = .ok (.bipush 21, 2) := by decide +kernel
theorem dX8_isFault_13 : decode cX8_isFault 13 = .ok (.iload_n 2, 1) := by decide +kernel
theorem dX8_isFault_14 : decode cX8_isFault 14 = .ok (.iadd, 1) := by decide +kernel
theorem dX8_isFault_15 : decode cX8_isFault 15 = .ok (.istore 4, 2) := by decide +kernel
theorem dX8_isFault_17 : decode cX8_isFault 17 = .ok (.aload_n 0, 1) := by decide +kernel
theorem dX8_isFault_18 : decode cX8_isFault 18 = .ok (.iload 4, 2) := by decide +kernel
theorem dX8_isFault_20 : decode cX8_isFault 20 = .ok (.invokevirtual 221, 3) := by decide +kernel
theorem dX8_isFault_23 : decode cX8_isFault 23 = .ok (.istore 5, 2) := by decide +kernel
theorem dX8_isFault_25 : decode cX8_isFault 25 = .ok (.iload_n 1, 1) := by decide +kernel
theorem dX8_isFault_26 : decode cX8_isFault 26 = .ok (.iconst 1, 1) := by decide +kernel
theorem dX8_isFault_27 : decode cX8_isFault 27 = .ok (.if_icmp .ne 16, 3) := by decide +kernel
theorem dX8_isFault_30 : decode cX8_isFault 30 = .ok (.aload_n 0, 1) := by decide +kernel
theorem dX8_isFault_31 : decode cX8_isFault 31 = .ok (.iload_n 2, 1) := by decide +kernel
theorem dX8_isFault_32 : decode cX8_isFault 32 = .ok (.invokevirtual 224, 3) := by decide +kernel
theorem dX8_isFault_35 : decode cX8_isFault 35 = .ok (.iload_n 3, 1) := by decide +kernel
theorem dX8_isFault_36 : decode cX8_isFault 36 = .ok (.iadd, 1) := by decide +kernel
theorem dX8_isFault_37 : decode cX8_isFault 37 = .ok (.iconst 1, 1) := by decide +kernel
theorem dX8_isFault_38 : decode cX8_isFault 38 = .ok (.if_icmp .ge 5, 3) := by decide +kernel
theorem dX8_isFault_41 : decode cX8_isFault 41 = .ok (.iconst 0, 1) := by decide +kernel
theorem dX8_isFault_42 : decode cX8_isFault 42 = .ok (.ireturn, 1) := by decide +kernel
theorem dX8_isFault_43 : decode cX8_isFault 43 = .ok (.aload_n 0, 1) := by decide +kernel
theorem dX8_isFault_44 : decode cX8_isFault 44 = .ok (.iload 4, 2) := by decide +kernel
theorem dX8_isFault_46 : decode cX8_isFault 46 = .ok (.iload_n 1, 1) := by decide +kernel
theorem dX8_isFault_47 : decode cX8_isFault 47 = .ok (.ifCond .ne 7, 3) := by decide +kernel
theorem dX8_isFault_50 : decode cX8_isFault 50 = .ok (.iload_n 3, 1) := by decide +kernel
theorem dX8_isFault_51 : decode cX8_isFault 51 = .ok (.goto 7, 3) := by decide +kernel
theorem dX8_isFault_54 : decode cX8_isFault 54 = .ok (.iload 5, 2) := by decide +kernel
theorem dX8_isFault_56 : decode cX8_isFault 56 = .ok (.iload_n 3, 1) := by decide +kernel
theorem dX8_isFault_57 : decode cX8_isFault 57 = .ok (.iadd, 1) := by decide +kernel
theorem dX8_isFault_58 : decode cX8_isFault 58 = .ok (.invokevirtual 119, 3) := by decide +kernel
theorem dX8_isFault_61 : decode cX8_isFault 61 = .ok (.aload_n 0, 1) := by decide +kernel
theorem dX8_isFault_62 : decode cX8_isFault 62 = .ok (.invokevirtual 394, 3) := by decide +kernel
theorem dX8_isFault_65 : decode cX8_isFault 65 = .ok (.istore 6, 2) := by decide +kernel
theorem dX8_isFault_67 : decode cX8_isFault 67 = .ok (.aload_n 0, 1) := by decide +kernel
theorem dX8_isFault_68 : decode cX8_isFault 68 = .ok (.iload 4, 2) := by decide +kernel
theorem dX8_isFault_70 : decode cX8_isFault 70 = .ok (.iload 5, 2) := by decide +kernel
theorem dX8_isFault_72 : decode cX8_isFault 72 = .ok (.invokevirtual 119, 3) := by decide +kernel
theorem dX8_isFault_75 : decode cX8_isFault 75 = .ok (.iload 6, 2) := by decide +kernel
theorem dX8_isFault_77 : decode cX8_isFault 77 = .ok (.ireturn, 1) := by decide +kernel
theorem dX8_faults_0 : decode cX8_faults 0 = .ok (.aload_n 0, 1) := by decide +kernel
theorem dX8_faults_1 : decode cX8_faults 1 = .ok (.iconst 0, 1) := by decide +kernel
theorem dX8_faults_2 : decode cX8_faults 2 = .ok (.invokevirtual 221, 3) := by decide +kernel
theorem dX8_faults_5 : decode cX8_faults 5 = .ok (.istore_n 3, 1) := by decide +kernel
theorem dX8_faults_6 : decode cX8_faults 6 = .ok (.iload_n 3, 1) := by decide +kernel
theorem dX8_faults_7 : decode cX8_faults 7 = .ok (.ifCond .eq 21, 3) := by decide +kernel
theorem dX8_faults_10 : decode cX8_faults 10 = .ok (.iload_n 1, 1) := by decide +kernel
theorem dX8_faults_11 : decode cX8_faults 11 = .ok (.iconst 0, 1) := by decide +kernel
theorem dX8_faults_12 : decode cX8_faults 12 = .ok (.iconst 1, 1) := by decide +kernel
theorem dX8_faults_13 : decode cX8_faults 13 = .ok (.invokestatic 129, 3) := by decide +kernel
theorem dX8_faults_16 : decode cX8_faults 16 = .ok (.ifCond .eq 12, 3) := by decide +kernel
theorem dX8_faults_19 : decode cX8_faults 19 = .ok (.iload_n 2, 1) := by decide +kernel
theorem dX8_faults_20 : decode cX8_faults 20 = .ok (.iconst 0, 1) := by decide +kernel
theorem dX8_faults_21 : decode cX8_faults 21 = .ok (.iconst 2, 1) := by decide +kernel
theorem dX8_faults_22 : decode cX8_faults 22 = .ok (.invokestatic 129, 3) := by decide +kernel
theorem dX8_faults_25 : decode cX8_faults 25 = .ok (.ifCond .ne 6, 3) := by decide +kernel
theorem dX8_faults_28 : decode cX8_faults 28 = .ok (.bipush (-100), 2) := by decide +kernel
theorem dX8_faults_30 : decode cX8_faults 30 = .ok (.ireturn, 1) := by decide +kernel
theorem dX8_faults_31 : decode cX8_faults 31 = .ok (.iconst 0, 1) := by decide +kernel
theorem dX8_faults_32 : decode cX8_faults 32 = .ok (.istore 4, 2) := by decide +kernel
theorem dX8_faults_34 : decode cX8_faults 34 = .ok (.bipush (-100), 2) := by decide +kernel
theorem dX8_faults_36 : decode cX8_faults 36 = .ok (.istore 5, 2) := by decide +kernel
theorem dX8_faults_38 : decode cX8_faults 38 = .ok (.bipush (-100), 2) := by decide +kernel
theorem dX8_faults_40 : decode cX8_faults 40 = .ok (.istore 6, 2) := by decide +kernel
theorem dX8_faults_42 : decode cX8_faults 42 = .ok (.iconst 0, 1) := by decide +kernel
theorem dX8_faults_43 : decode cX8_faults 43 = .ok (.istore 7, 2) := by decide +kernel
theorem dX8_faults_45 : decode cX8_faults 45 = .ok (.iload 7, 2) := by decide +kernel
theorem dX8_faults_47 : decode cX8_faults 47 = .ok (.iload_n 3, 1) := by decide +kernel
theorem dX8_faults_48 : decode cX8_faults 48 = .ok (.if_icmp .ge 100, 3) := by decide +kernel
theorem dX8_faults_51 : decode cX8_faults 51 = .ok (.iload_n 1, 1) := by decide +kernel
theorem dX8_faults_52 : decode cX8_faults 52 = .ok (.ifCond .ne 7, 3) := by decide +kernel
theorem dX8_faults_55 : decode cX8_faults 55 = .ok (.iconst 0, 1) := by decide +kernel
theorem dX8_faults_56 : decode cX8_faults 56 = .ok (.goto 5, 3) := by decide +kernel
theorem dX8_faults_59 : decode cX8_faults 59 = .ok (.bipush (-20), 2) := by decide +kernel
theorem dX8_faults_61 : decode cX8_faults 61 = .ok (.istore 8, 2) := by decide +kernel
theorem dX8_faults_63 : decode cX8_faults 63 = .ok (.iload 8, 2) := by decide +kernel
theorem dX8_faults_65 : decode cX8_faults 65 = .ok (.iload_n 1, 1) := by decide +kernel
theorem dX8_faults_66 : decode cX8_faults 66 = .ok (.ifCond .ne 7, 3) := by decide +kernel
theorem dX8_faults_69 : decode cX8_faults 69 = .ok (.iconst 1, 1) := by decide +kernel
theorem dX8_faults_70 : decode cX8_faults 70 = .ok (.goto 5, 3) := by decide +kernel
theorem dX8_faults_73 : decode cX8_faults 73 = .ok (.bipush 20, 2) := by decide +kernel
theorem dX8_faults_75 : decode cX8_faults 75 = .ok (.if_icmp .gt 67, 3) := by decide +kernel
theorem dX8_faults_78 : decode cX8_faults 78 = .ok (.iload_n 1, 1) := by decide +kernel
theorem dX8_faults_79 : decode cX8_faults 79 = .ok (.iconst 1, 1) := by decide +kernel
theorem dX8_faults_80 : decode cX8_faults 80 = .ok (.if_icmp .ne 8, 3) := by decide +kernel
theorem dX8_faults_83 : decode cX8_faults 83 = .ok (.iload 8, 2) := by decide +kernel
theorem dX8_faults_85 : decode cX8_faults 85 = .ok (.ifCond .eq 51, 3) := by decide +kernel
theorem dX8_faults_88 : decode cX8_faults 88 = .ok (.aload_n 0, 1) := by decide +kernel
theorem dX8_faults_89 : decode cX8_faults 89 = .ok (.iload_n 1, 1) := by decide +kernel
theorem dX8_faults_90 : decode cX8_faults 90 = .ok (.iload 7, 2) := by decide +kernel
theorem dX8_faults_92 : decode cX8_faults 92 = .ok (.iload 8, 2) := by decide +kernel
theorem dX8_faults_94 : decode cX8_faults 94 = .ok (.invokevirtual 397, 3) := by decide +kernel
theorem dX8_faults_97 : decode cX8_faults 97 = .ok (.ifCond .ne 6, 3) := by decide +kernel
theorem dX8_faults_100 : decode cX8_faults 100 = .ok (.goto 36, 3) := by decide +kernel
theorem dX8_faults_103 : decode cX8_faults 103 = .ok (.iinc 4 1, 3) := by decide +kernel
theorem dX8_faults_106 : decode cX8_faults 106 = .ok (.iload 4, 2) := by decide +kernel
theorem dX8_faults_108 : decode cX8_faults 108 = .ok (.iconst 1, 1) := by decide +kernel
theorem dX8_faults_109 : decode cX8_faults 109 = .ok (.if_icmp .ne 8, 3) := by decide +kernel
theorem dX8_faults_112 : decode cX8_faults 112 = .ok (.iload 7, 2) := by decide +kernel
theorem dX8_faults_114 : decode cX8_faults 114 = .ok (.goto 5, 3) := by decide +kernel
theorem dX8_faults_117 : decode cX8_faults 117 = .ok (.iload 5, 2) := by decide +kernel
theorem dX8_faults_119 : decode cX8_faults 119 = .ok (.istore 5, 2) := by decide +kernel
theorem dX8_faults_121 : decode cX8_faults 121 = .ok (.iload 4, 2) := by decide +kernel
theorem dX8_faults_123 : decode cX8_faults 123 = .ok (.iconst 1, 1) := by decide +kernel
theorem dX8_faults_124 : decode cX8_faults 124 = .ok (.if_icmp .ne 8, 3) := by decide +kernel
theorem dX8_faults_127 : decode cX8_faults 127 = .ok (.iload 8, 2) := by decide +kernel
theorem dX8_faults_129 : decode cX8_faults 129 = .ok (.goto 5, 3) := by decide +kernel
theorem dX8_faults_132 : decode cX8_faults 132 = .ok (.iload 6, 2) := by decide +kernel
theorem dX8_faults_134 : decode cX8_faults 134 = .ok (.istore 6, 2) := by decide +kernel
theorem dX8_faults_136 : decode cX8_faults 136 = .ok (.iinc 8 1, 3) := by decide +kernel
theorem dX8_faults_139 : decode cX8_faults 139 = .ok (.goto (-76), 3) := by decide +kernel
theorem dX8_faults_142 : decode cX8_faults 142 = .ok (.iinc 7 1, 3) := by decide +kernel
theorem dX8_faults_145 : decode cX8_faults 145 = .ok (.goto (-100), 3) := by decide +kernel
theorem dX8_faults_148 : decode cX8_faults 148 = .ok (.iload_n 2, 1) := by decide +kernel
theorem dX8_faults_149 : decode cX8_faults 149 = .ok (.ifCond .ne 8, 3) := by decide +kernel
theorem dX8_faults_152 : decode cX8_faults 152 = .ok (.iload 4, 2) := by decide +kernel
theorem dX8_faults_154 : decode cX8_faults 154 = .ok (.goto 15, 3) := by decide +kernel
theorem dX8_faults_157 : decode cX8_faults 157 = .ok (.iload_n 2, 1) := by decide +kernel
theorem dX8_faults_158 : decode cX8_faults 158 = .ok (.iconst 1, 1) := by decide +kernel
theorem dX8_faults_159 : decode cX8_faults 159 = .ok (.if_icmp .ne 8, 3) := by decide +kernel
theorem dX8_faults_162 : decode cX8_faults 162 = .ok (.iload 5, 2) := by decide +kernel
theorem dX8_faults_164 : decode cX8_faults 164 = .ok (.goto 5, 3) := by decide +kernel
theorem dX8_faults_167 : decode cX8_faults 167 = .ok (.iload 6, 2) := by decide +kernel
theorem dX8_faults_169 : decode cX8_faults 169 = .ok (.ireturn, 1) := by decide +kernel
theorem dX8_readValue_0 : decode cX8_readValue 0 = .ok (.iload_n 1, 1) := by decide +kernel
theorem dX8_readValue_1 : decode cX8_readValue 1 = .ok (.ifCond .eq 16, 3) := by decide +kernel
theorem dX8_readValue_4 : decode cX8_readValue 4 = .ok (.aload_n 0, 1) := by decide +kernel
theorem dX8_readValue_5 : decode cX8_readValue 5 = .ok (.invokevirtual 136, 3) := by decide +kernel
theorem dX8_readValue_8 : decode cX8_readValue 8 = .ok (.bipush 45, 2) := by decide +kernel
theorem dX8_readValue_10 : decode cX8_readValue 10 = .ok (.if_icmp .ne 7, 3) := by decide +kernel
theorem dX8_readValue_13 : decode cX8_readValue 13 = .ok (.iconst 1, 1) := by decide +kernel
theorem dX8_readValue_14 : decode cX8_readValue 14 = .ok (.goto 4, 3) := by decide +kernel
theorem dX8_readValue_17 : decode cX8_readValue 17 = .ok (.iconst 0, 1) := by decide +kernel
theorem dX8_readValue_18 : decode cX8_readValue 18 = .ok (.istore_n 2, 1) := by decide +kernel
theorem dX8_readValue_19 : decode cX8_readValue 19 = .ok (.iload_n 2, 1) := by decide +kernel
theorem dX8_readValue_20 : decode cX8_readValue 20 = .ok (.ifCond .eq 13, 3) := by decide +kernel
theorem dX8_readValue_23 : decode cX8_readValue 23 = .ok (.aload_n 0, 1) := by decide +kernel
theorem dX8_readValue_24 : decode cX8_readValue 24 = .ok (.dup, 1) := by decide +kernel
theorem dX8_readValue_25 : decode cX8_readValue 25 = .ok (.getfield 133, 3) := by decide +kernel
theorem dX8_readValue_28 : decode cX8_readValue 28 = .ok (.iconst 1, 1) := by decide +kernel
theorem dX8_readValue_29 : decode cX8_readValue 29 = .ok (.iadd, 1) := by decide +kernel
theorem dX8_readValue_30 : decode cX8_readValue 30 = .ok (.putfield 133, 3) := by decide +kernel
theorem dX8_readValue_33 : decode cX8_readValue 33 = .ok (.aload_n 0, 1) := by decide +kernel
theorem dX8_readValue_34 : decode cX8_readValue 34 = .ok (.invokevirtual 150, 3) := by decide +kernel
theorem dX8_readValue_37 : decode cX8_readValue 37 = .ok (.ifCond .ne 5, 3) := by decide +kernel
theorem dX8_readValue_40 : decode cX8_readValue 40 = .ok (.iconst 0, 1) := by decide +kernel
theorem dX8_readValue_41 : decode cX8_readValue 41 = .ok (.ireturn, 1) := by decide +kernel
theorem dX8_readValue_42 : decode cX8_readValue 42 = .ok (.aload_n 0, 1) := by decide +kernel
theorem dX8_readValue_43 : decode cX8_readValue 43 = .ok (.iload_n 2, 1) := by decide +kernel
theorem dX8_readValue_44 : decode cX8_readValue 44 = .ok (.ifCond .eq 11, 3) := by decide +kernel
theorem dX8_readValue_47 : decode cX8_readValue 47 = .ok (.aload_n 0, 1) := by decide +kernel
theorem dX8_readValue_48 : decode cX8_readValue 48 = .ok (.getfield 147, 3) := by decide +kernel
theorem dX8_readValue_51 : decode cX8_readValue 51 = .ok (.ineg, 1) := by decide +kernel
theorem dX8_readValue_52 : decode cX8_readValue 52 = .ok (.goto 7, 3) := by decide +kernel
theorem dX8_readValue_55 : decode cX8_readValue 55 = .ok (.aload_n 0, 1) := by decide +kernel
theorem dX8_readValue_56 : decode cX8_readValue 56 = .ok (.getfield 147, 3) := by decide +kernel
theorem dX8_readValue_59 : decode cX8_readValue 59 = .ok (.putfield 147, 3) := by decide +kernel
theorem dX8_readValue_62 : decode cX8_readValue 62 = .ok (.iconst 1, 1) := by decide +kernel
theorem dX8_readValue_63 : decode cX8_readValue 63 = .ok (.ireturn, 1) := by decide +kernel
theorem dX8_isAct_0 : decode cX8_isAct 0 = .ok (.iload_n 0, 1) := by decide +kernel
theorem dX8_isAct_1 : decode cX8_isAct 1 = .ok (.bipush 99, 2) := by decide +kernel
theorem dX8_isAct_3 : decode cX8_isAct 3 = .ok (.if_icmp .eq 51, 3) := by decide +kernel
theorem dX8_isAct_6 : decode cX8_isAct 6 = .ok (.iload_n 0, 1) := by decide +kernel
theorem dX8_isAct_7 : decode cX8_isAct 7 = .ok (.bipush 108, 2) := by decide +kernel
theorem dX8_isAct_9 : decode cX8_isAct 9 = .ok (.if_icmp .eq 45, 3) := by decide +kernel
theorem dX8_isAct_12 : decode cX8_isAct 12 = .ok (.iload_n 0, 1) := by decide +kernel
theorem dX8_isAct_13 : decode cX8_isAct 13 = .ok (.bipush 112, 2) := by decide +kernel
theorem dX8_isAct_15 : decode cX8_isAct 15 = .ok (.if_icmp .eq 39, 3) := by decide +kernel
theorem dX8_isAct_18 : decode cX8_isAct 18 = .ok (.iload_n 0, 1) := by decide +kernel
theorem dX8_isAct_19 : decode cX8_isAct 19 = .ok (.bipush 104, 2) := by decide +kernel
theorem dX8_isAct_21 : decode cX8_isAct 21 = .ok (.if_icmp .eq 33, 3) := by decide +kernel
theorem dX8_isAct_24 : decode cX8_isAct 24 = .ok (.iload_n 0, 1) := by decide +kernel
theorem dX8_isAct_25 : decode cX8_isAct 25 = .ok (.bipush 115, 2) := by decide +kernel
theorem dX8_isAct_27 : decode cX8_isAct 27 = .ok (.if_icmp .eq 27, 3) := by decide +kernel
theorem dX8_isAct_30 : decode cX8_isAct 30 = .ok (.iload_n 0, 1) := by decide +kernel
theorem dX8_isAct_31 : decode cX8_isAct 31 = .ok (.bipush 111, 2) := by decide +kernel
theorem dX8_isAct_33 : decode cX8_isAct 33 = .ok (.if_icmp .eq 21, 3) := by decide +kernel
theorem dX8_isAct_36 : decode cX8_isAct 36 = .ok (.iload_n 0, 1) := by decide +kernel
theorem dX8_isAct_37 : decode cX8_isAct 37 = .ok (.bipush 102, 2) := by decide +kernel
theorem dX8_isAct_39 : decode cX8_isAct 39 = .ok (.if_icmp .eq 15, 3) := by decide +kernel
theorem dX8_isAct_42 : decode cX8_isAct 42 = .ok (.iload_n 0, 1) := by decide +kernel
theorem dX8_isAct_43 : decode cX8_isAct 43 = .ok (.bipush 120, 2) := by decide +kernel
theorem dX8_isAct_45 : decode cX8_isAct 45 = .ok (.if_icmp .eq 9, 3) := by decide +kernel
theorem dX8_isAct_48 : decode cX8_isAct 48 = .ok (.iload_n 0, 1) := by decide +kernel
theorem dX8_isAct_49 : decode cX8_isAct 49 = .ok (.bipush 61, 2) := by decide +kernel
theorem dX8_isAct_51 : decode cX8_isAct 51 = .ok (.if_icmp .ne 7, 3) := by decide +kernel
theorem dX8_isAct_54 : decode cX8_isAct 54 = .ok (.iconst 1, 1) := by decide +kernel
theorem dX8_isAct_55 : decode cX8_isAct 55 = .ok (.goto 4, 3) := by decide +kernel
theorem dX8_isAct_58 : decode cX8_isAct 58 = .ok (.iconst 0, 1) := by decide +kernel
theorem dX8_isAct_59 : decode cX8_isAct 59 = .ok (.ireturn, 1) := by decide +kernel
theorem dX8_readAct_0 : decode cX8_readAct 0 = .ok (.aload_n 0, 1) := by decide +kernel
theorem dX8_readAct_1 : decode cX8_readAct 1 = .ok (.invokevirtual 136, 3) := by decide +kernel
theorem dX8_readAct_4 : decode cX8_readAct 4 = .ok (.istore_n 1, 1) := by decide +kernel
theorem dX8_readAct_5 : decode cX8_readAct 5 = .ok (.iload_n 1, 1) := by decide +kernel
theorem dX8_readAct_6 : decode cX8_readAct 6 = .ok (.invokestatic 400, 3) := by decide +kernel
theorem dX8_readAct_9 : decode cX8_readAct 9 = .ok (.ifCond .eq 12, 3) := by decide +kernel
theorem dX8_readAct_12 : decode cX8_readAct 12 = .ok (.aload_n 0, 1) := by decide +kernel
theorem dX8_readAct_13 : decode cX8_readAct 13 = .ok (.getfield 403, 3) := by decide +kernel
theorem dX8_readAct_16 : decode cX8_readAct 16 = .ok (.bipush 40, 2) := by decide +kernel
theorem dX8_readAct_18 : decode cX8_readAct 18 = .ok (.if_icmp .ne 12, 3) := by decide +kernel
theorem dX8_readAct_21 : decode cX8_readAct 21 = .ok (.aload_n 0, 1) := by decide +kernel
theorem dX8_readAct_22 : decode cX8_readAct 22 = .ok (.aload_n 0, 1) := by decide +kernel
theorem dX8_readAct_23 : decode cX8_readAct 23 = .ok (.getfield 133, 3) := by decide +kernel
theorem dX8_readAct_26 : decode cX8_readAct 26 = .ok (.invokevirtual 144, 3) := by decide +kernel
theorem dX8_readAct_29 : decode cX8_readAct 29 = .ok (.ireturn, 1) := by decide +kernel
theorem dX8_readAct_30 : decode cX8_readAct 30 = .ok (.aload_n 0, 1) := by decide +kernel
theorem dX8_readAct_31 : decode cX8_readAct 31 = .ok (.dup, 1) := by decide +kernel
theorem dX8_readAct_32 : decode cX8_readAct 32 = .ok (.getfield 133, 3) := by decide +kernel
theorem dX8_readAct_35 : decode cX8_readAct 35 = .ok (.iconst 1, 1) := by decide +kernel
theorem dX8_readAct_36 : decode cX8_readAct 36 = .ok (.iadd, 1) := by decide +kernel
theorem dX8_readAct_37 : decode cX8_readAct 37 = .ok (.putfield 133, 3) := by decide +kernel
theorem dX8_readAct_40 : decode cX8_readAct 40 = .ok (.aload_n 0, 1) := by decide +kernel
theorem dX8_readAct_41 : decode cX8_readAct 41 = .ok (.getfield 104, 3) := by decide +kernel
theorem dX8_readAct_44 : decode cX8_readAct 44 = .ok (.aload_n 0, 1) := by decide +kernel
theorem dX8_readAct_45 : decode cX8_readAct 45 = .ok (.getfield 403, 3) := by decide +kernel
theorem dX8_readAct_48 : decode cX8_readAct 48 = .ok (.iload_n 1, 1) := by decide +kernel
theorem dX8_readAct_49 : decode cX8_readAct 49 = .ok (.iastore, 1) := by decide +kernel
theorem dX8_readAct_50 : decode cX8_readAct 50 = .ok (.aload_n 0, 1) := by decide +kernel
theorem dX8_readAct_51 : decode cX8_readAct 51 = .ok (.getfield 107, 3) := by decide +kernel
theorem dX8_readAct_54 : decode cX8_readAct 54 = .ok (.aload_n 0, 1) := by decide +kernel
theorem dX8_readAct_55 : decode cX8_readAct 55 = .ok (.getfield 403, 3) := by decide +kernel
theorem dX8_readAct_58 : decode cX8_readAct 58 = .ok (.iconst 0, 1) := by decide +kernel
theorem dX8_readAct_59 : decode cX8_readAct 59 = .ok (.iastore, 1) := by decide +kernel
theorem dX8_readAct_60 : decode cX8_readAct 60 = .ok (.aload_n 0, 1) := by decide +kernel
theorem dX8_readAct_61 : decode cX8_readAct 61 = .ok (.getfield 110, 3) := by decide +kernel
theorem dX8_readAct_64 : decode cX8_readAct 64 = .ok (.aload_n 0, 1) := by decide +kernel
theorem dX8_readAct_65 : decode cX8_readAct 65 = .ok (.getfield 403, 3) := by decide +kernel
theorem dX8_readAct_68 : decode cX8_readAct 68 = .ok (.iconst 0, 1) := by decide +kernel
theorem dX8_readAct_69 : decode cX8_readAct 69 = .ok (.iastore, 1) := by decide +kernel
theorem dX8_readAct_70 : decode cX8_readAct 70 = .ok (.iload_n 1, 1) := by decide +kernel
theorem dX8_readAct_71 : decode cX8_readAct 71 = .ok (.bipush 102, 2) := by decide +kernel
theorem dX8_readAct_73 : decode cX8_readAct 73 = .ok (.if_icmp .eq 48, 3) := by decide +kernel
theorem dX8_readAct_76 : decode cX8_readAct 76 = .ok (.aload_n 0, 1) := by decide +kernel
theorem dX8_readAct_77 : decode cX8_readAct 77 = .ok (.iload_n 1, 1) := by decide +kernel
theorem dX8_readAct_78 : decode cX8_readAct 78 = .ok (.bipush 99, 2) := by decide +kernel
theorem dX8_readAct_80 : decode cX8_readAct 80 = .ok (.if_icmp .eq 15, 3) := by decide +kernel
theorem dX8_readAct_83 : decode cX8_readAct 83 = .ok (.iload_n 1, 1) := by decide +kernel
theorem dX8_readAct_84 : decode cX8_readAct 84 = .ok (.bipush 120, 2) := by decide +kernel
theorem dX8_readAct_86 : decode cX8_readAct 86 = .ok (.if_icmp .eq 9, 3) := by decide +kernel
theorem dX8_readAct_89 : decode cX8_readAct 89 = .ok (.iload_n 1, 1) := by decide +kernel
theorem dX8_readAct_90 : decode cX8_readAct 90 = .ok (.bipush 61, 2) := by decide +kernel
theorem dX8_readAct_92 : decode cX8_readAct 92 = .ok (.if_icmp .ne 7, 3) := by decide +kernel
theorem dX8_readAct_95 : decode cX8_readAct 95 = .ok (.iconst 1, 1) := by decide +kernel
theorem dX8_readAct_96 : decode cX8_readAct 96 = .ok (.goto 4, 3) := by decide +kernel
theorem dX8_readAct_99 : decode cX8_readAct 99 = .ok (.iconst 0, 1) := by decide +kernel
theorem dX8_readAct_100 : decode cX8_readAct 100 = .ok (.invokevirtual 406, 3) := by decide +kernel
theorem dX8_readAct_103 : decode cX8_readAct 103 = .ok (.ifCond .ne 5, 3) := by decide +kernel
theorem dX8_readAct_106 : decode cX8_readAct 106 = .ok (.iconst 0, 1) := by decide +kernel
theorem dX8_readAct_107 : decode cX8_readAct 107 = .ok (.ireturn, 1) := by decide +kernel
theorem dX8_readAct_108 : decode cX8_readAct 108 = .ok (.aload_n 0, 1) := by decide +kernel
theorem dX8_readAct_109 : decode cX8_readAct 109 = .ok (.getfield 107, 3) := by decide +kernel
theorem dX8_readAct_112 : decode cX8_readAct 112 = .ok (.aload_n 0, 1) := by decide +kernel
theorem dX8_readAct_113 : decode cX8_readAct 113 = .ok (.getfield 403, 3) := by decide +kernel
theorem dX8_readAct_116 : decode cX8_readAct 116 = .ok (.aload_n 0, 1) := by decide +kernel
theorem dX8_readAct_117 : decode cX8_readAct 117 = .ok (.getfield 147, 3) := by decide +kernel
theorem dX8_readAct_120 : decode cX8_readAct 120 = .ok (.iastore, 1) := by decide +kernel
theorem dX8_readAct_121 : decode cX8_readAct 121 = .ok (.iload_n 1, 1) := by decide +kernel
theorem dX8_readAct_122 : decode cX8_readAct 122 = .ok (.bipush 108, 2) := by decide +kernel
theorem dX8_readAct_124 : decode cX8_readAct 124 = .ok (.if_icmp .eq 15, 3) := by decide +kernel
theorem dX8_readAct_127 : decode cX8_readAct 127 = .ok (.iload_n 1, 1) := by decide +kernel
theorem dX8_readAct_128 : decode cX8_readAct 128 = .ok (.bipush 115, 2) := by decide +kernel
theorem dX8_readAct_130 : decode cX8_readAct 130 = .ok (.if_icmp .eq 9, 3) := by decide +kernel
theorem dX8_readAct_133 : decode cX8_readAct 133 = .ok (.iload_n 1, 1) := by decide +kernel
theorem dX8_readAct_134 : decode cX8_readAct 134 = .ok (.bipush 111, 2) := by decide +kernel
theorem dX8_readAct_136 : decode cX8_readAct 136 = .ok (.if_icmp .ne 64, 3) := by decide +kernel
theorem dX8_readAct_139 : decode cX8_readAct 139 = .ok (.aload_n 0, 1) := by decide +kernel
theorem dX8_readAct_140 : decode cX8_readAct 140 = .ok (.invokevirtual 136, 3) := by decide +kernel
theorem dX8_readAct_143 : decode cX8_readAct 143 = .ok (.bipush 44, 2) := by decide +kernel
theorem dX8_readAct_145 : decode cX8_readAct 145 = .ok (.if_icmp .eq 12, 3) := by decide +kernel
theorem dX8_readAct_148 : decode cX8_readAct 148 = .ok (.aload_n 0, 1) := by decide +kernel
theorem dX8_readAct_149 : decode cX8_readAct 149 = .ok (.aload_n 0, 1) := by decide +kernel
theorem dX8_readAct_150 : decode cX8_readAct 150 = .ok (.getfield 133, 3) := by decide +kernel
theorem dX8_readAct_153 : decode cX8_readAct 153 = .ok (.invokevirtual 144, 3) := by decide +kernel
theorem dX8_readAct_156 : decode cX8_readAct 156 = .ok (.ireturn, 1) := by decide +kernel
theorem dX8_readAct_157 : decode cX8_readAct 157 = .ok (.aload_n 0, 1) := by decide +kernel
theorem dX8_readAct_158 : decode cX8_readAct 158 = .ok (.dup, 1) := by decide +kernel
theorem dX8_readAct_159 : decode cX8_readAct 159 = .ok (.getfield 133, 3) := by decide +kernel
theorem dX8_readAct_162 : decode cX8_readAct 162 = .ok (.iconst 1, 1) := by decide +kernel
theorem dX8_readAct_163 : decode cX8_readAct 163 = .ok (.iadd, 1) := by decide +kernel
theorem dX8_readAct_164 : decode cX8_readAct 164 = .ok (.putfield 133, 3) := by decide +kernel
theorem dX8_readAct_167 : decode cX8_readAct 167 = .ok (.aload_n 0, 1) := by decide +kernel
theorem dX8_readAct_168 : decode cX8_readAct 168 = .ok (.iload_n 1, 1) := by decide +kernel
theorem dX8_readAct_169 : decode cX8_readAct 169 = .ok (.bipush 108, 2) := by decide +kernel
theorem dX8_readAct_171 : decode cX8_readAct 171 = .ok (.if_icmp .eq 7, 3) := by decide +kernel
theorem dX8_readAct_174 : decode cX8_readAct 174 = .ok (.iconst 1, 1) := by decide +kernel
theorem dX8_readAct_175 : decode cX8_readAct 175 = .ok (.goto 4, 3) := by decide +kernel
theorem dX8_readAct_178 : decode cX8_readAct 178 = .ok (.iconst 0, 1) := by decide +kernel
theorem dX8_readAct_179 : decode cX8_readAct 179 = .ok (.invokevirtual 406, 3) := by decide +kernel
theorem dX8_readAct_182 : decode cX8_readAct 182 = .ok (.ifCond .ne 5, 3) := by decide +kernel
theorem dX8_readAct_185 : decode cX8_readAct 185 = .ok (.iconst 0, 1) := by decide +kernel
theorem dX8_readAct_186 : decode cX8_readAct 186 = .ok (.ireturn, 1) := by decide +kernel
theorem dX8_readAct_187 : decode cX8_readAct 187 = .ok (.aload_n 0, 1) := by decide +kernel
theorem dX8_readAct_188 : decode cX8_readAct 188 = .ok (.getfield 110, 3) := by decide +kernel
theorem dX8_readAct_191 : decode cX8_readAct 191 = .ok (.aload_n 0, 1) := by decide +kernel
theorem dX8_readAct_192 : decode cX8_readAct 192 = .ok (.getfield 403, 3) := by decide +kernel
theorem dX8_readAct_195 : decode cX8_readAct 195 = .ok (.aload_n 0, 1) := by decide +kernel
theorem dX8_readAct_196 : decode cX8_readAct 196 = .ok (.getfield 147, 3) := by decide +kernel
theorem dX8_readAct_199 : decode cX8_readAct 199 = .ok (.iastore, 1) := by decide +kernel
theorem dX8_readAct_200 : decode cX8_readAct 200 = .ok (.aload_n 0, 1) := by decide +kernel
theorem dX8_readAct_201 : decode cX8_readAct 201 = .ok (.invokevirtual 136, 3) := by decide +kernel
theorem dX8_readAct_204 : decode cX8_readAct 204 = .ok (.bipush 59, 2) := by decide +kernel
theorem dX8_readAct_206 : decode cX8_readAct 206 = .ok (.if_icmp .eq 12, 3) := by decide +kernel
theorem dX8_readAct_209 : decode cX8_readAct 209 = .ok (.aload_n 0, 1) := by decide +kernel
theorem dX8_readAct_210 : decode cX8_readAct 210 = .ok (.aload_n 0, 1) := by decide +kernel
theorem dX8_readAct_211 : decode cX8_readAct 211 = .ok (.getfield 133, 3) := by decide +kernel
theorem dX8_readAct_214 : decode cX8_readAct 214 = .ok (.invokevirtual 144, 3) := by decide +kernel
theorem dX8_readAct_217 : decode cX8_readAct 217 = .ok (.ireturn, 1) := by decide +kernel
theorem dX8_readAct_218 : decode cX8_readAct 218 = .ok (.aload_n 0, 1) := by decide +kernel
theorem dX8_readAct_219 : decode cX8_readAct 219 = .ok (.dup, 1) := by decide +kernel
theorem dX8_readAct_220 : decode cX8_readAct 220 = .ok (.getfield 133, 3) := by decide +kernel
theorem dX8_readAct_223 : decode cX8_readAct 223 = .ok (.iconst 1, 1) := by decide +kernel
theorem dX8_readAct_224 : decode cX8_readAct 224 = .ok (.iadd, 1) := by decide +kernel
theorem dX8_readAct_225 : decode cX8_readAct 225 = .ok (.putfield 133, 3) := by decide +kernel
theorem dX8_readAct_228 : decode cX8_readAct 228 = .ok (.aload_n 0, 1) := by decide +kernel
theorem dX8_readAct_229 : decode cX8_readAct 229 = .ok (.dup, 1) := by decide +kernel
theorem dX8_readAct_230 : decode cX8_readAct 230 = .ok (.getfield 403, 3) := by decide +kernel
theorem dX8_readAct_233 : decode cX8_readAct 233 = .ok (.iconst 1, 1) := by decide +kernel
theorem dX8_readAct_234 : decode cX8_readAct 234 = .ok (.iadd, 1) := by decide +kernel
theorem dX8_readAct_235 : decode cX8_readAct 235 = .ok (.putfield 403, 3) := by decide +kernel
theorem dX8_readAct_238 : decode cX8_readAct 238 = .ok (.iconst 1, 1) := by decide +kernel
theorem dX8_readAct_239 : decode cX8_readAct 239 = .ok (.ireturn, 1) := by decide +kernel
theorem dX8_readBench_0 : decode cX8_readBench 0 = .ok (.aload_n 0, 1) := by decide +kernel
theorem dX8_readBench_1 : decode cX8_readBench 1 = .ok (.iconst 0, 1) := by decide +kernel
theorem dX8_readBench_2 : decode cX8_readBench 2 = .ok (.putfield 133, 3) := by decide +kernel
theorem dX8_readBench_5 : decode cX8_readBench 5 = .ok (.aload_n 0, 1) := by decide +kernel
theorem dX8_readBench_6 : decode cX8_readBench 6 = .ok (.iconst (-1), 1) := by decide +kernel
theorem dX8_readBench_7 : decode cX8_readBench 7 = .ok (.putfield 25, 3) := by decide +kernel
theorem dX8_readBench_10 : decode cX8_readBench 10 = .ok (.aload_n 0, 1) := by decide +kernel
theorem dX8_readBench_11 : decode cX8_readBench 11 = .ok (.iconst 0, 1) := by decide +kernel
theorem dX8_readBench_12 : decode cX8_readBench 12 = .ok (.putfield 403, 3) := by decide +kernel
theorem dX8_readBench_15 : decode cX8_readBench 15 = .ok (.aload_n 0, 1) := by decide +kernel
theorem dX8_readBench_16 : decode cX8_readBench 16 = .ok (.getfield 133, 3) := by decide +kernel
theorem dX8_readBench_19 : decode cX8_readBench 19 = .ok (.aload_n 0, 1) := by decide +kernel
theorem dX8_readBench_20 : decode cX8_readBench 20 = .ok (.getfield 122, 3) := by decide +kernel
theorem dX8_readBench_23 : decode cX8_readBench 23 = .ok (.if_icmp .ge 12, 3) := by decide +kernel
theorem dX8_readBench_26 : decode cX8_readBench 26 = .ok (.aload_n 0, 1) := by decide +kernel
theorem dX8_readBench_27 : decode cX8_readBench 27 = .ok (.invokevirtual 410, 3) := by decide +kernel
theorem dX8_readBench_30 : decode cX8_readBench 30 = .ok (.ifCond .ne (-15), 3) := by decide +kernel
theorem dX8_readBench_33 : decode cX8_readBench 33 = .ok (.iconst 0, 1) := by decide +kernel
theorem dX8_readBench_34 : decode cX8_readBench 34 = .ok (.ireturn, 1) := by decide +kernel
theorem dX8_readBench_35 : decode cX8_readBench 35 = .ok (.iconst 1, 1) := by decide +kernel
theorem dX8_readBench_36 : decode cX8_readBench 36 = .ok (.ireturn, 1) := by decide +kernel
theorem dX8_doAct_0 : decode cX8_doAct 0 = .ok (.aload_n 0, 1) := by decide +kernel
theorem dX8_doAct_1 : decode cX8_doAct 1 = .ok (.getfield 107, 3) := by decide +kernel
theorem dX8_doAct_4 : decode cX8_doAct 4 = .ok (.iload_n 1, 1) := by decide +kernel
theorem dX8_doAct_5 : decode cX8_doAct 5 = .ok (.iaload, 1) := by decide +kernel
theorem dX8_doAct_6 : decode cX8_doAct 6 = .ok (.istore_n 2, 1) := by decide +kernel
theorem dX8_doAct_7 : decode cX8_doAct 7 = .ok (.aload_n 0, 1) := by decide +kernel
theorem dX8_doAct_8 : decode cX8_doAct 8 = .ok (.getfield 110, 3) := by decide +kernel
theorem dX8_doAct_11 : decode cX8_doAct 11 = .ok (.iload_n 1, 1) := by decide +kernel
theorem dX8_doAct_12 : decode cX8_doAct 12 = .ok (.iaload, 1) := by decide +kernel
theorem dX8_doAct_13 : decode cX8_doAct 13 = .ok (.istore_n 3, 1) := by decide +kernel
theorem dX8_doAct_14 : decode cX8_doAct 14 = .ok (.aload_n 0, 1) := by decide +kernel
theorem dX8_doAct_15 : decode cX8_doAct 15 = .ok (.getfield 104, 3) := by decide +kernel
theorem dX8_doAct_18 : decode cX8_doAct 18 = .ok (.iload_n 1, 1) := by decide +kernel
theorem dX8_doAct_19 : decode cX8_doAct 19 = .ok (.iaload, 1) := by decide +kernel
theorem dX8_doAct_20 : decode cX8_doAct 20 = .ok (.tableswitch 195 99 120 #[104, 195, 195, 181, 195, 131, 195, 195, 195, 110, 195, 195, 164, 121, 195, 195, 147, 195, 195, 195, 195, 186], 104) := by decide +kernel
theorem dX8_doAct_124 : decode cX8_doAct 124 = .ok (.aload_n 0, 1) := by decide +kernel
theorem dX8_doAct_125 : decode cX8_doAct 125 = .ok (.iload_n 2, 1) := by decide +kernel
theorem dX8_doAct_126 : decode cX8_doAct 126 = .ok (.invokevirtual 413, 3) := by decide +kernel
theorem dX8_doAct_129 : decode cX8_doAct 129 = .ok (.ireturn, 1) := by decide +kernel
theorem dX8_doAct_130 : decode cX8_doAct 130 = .ok (.aload_n 0, 1) := by decide +kernel
theorem dX8_doAct_131 : decode cX8_doAct 131 = .ok (.iload_n 2, 1) := by decide +kernel
theorem dX8_doAct_132 : decode cX8_doAct 132 = .ok (.iload_n 3, 1) := by decide +kernel
theorem dX8_doAct_133 : decode cX8_doAct 133 = .ok (.invokevirtual 416, 3) := by decide +kernel
theorem dX8_doAct_136 : decode cX8_doAct 136 = .ok (.iconst (-1), 1) := by decide +kernel
theorem dX8_doAct_137 : decode cX8_doAct 137 = .ok (.invokestatic 419, 3) := by decide +kernel
theorem dX8_doAct_140 : decode cX8_doAct 140 = .ok (.ireturn, 1) := by decide +kernel
theorem dX8_doAct_141 : decode cX8_doAct 141 = .ok (.aload_n 0, 1) := by decide +kernel
theorem dX8_doAct_142 : decode cX8_doAct 142 = .ok (.iload_n 2, 1) := by decide +kernel
theorem dX8_doAct_143 : decode cX8_doAct 143 = .ok (.invokevirtual 422, 3) := by decide +kernel
theorem dX8_doAct_146 : decode cX8_doAct 146 = .ok (.iconst (-1), 1) := by decide +kernel
theorem dX8_doAct_147 : decode cX8_doAct 147 = .ok (.invokestatic 419, 3) := by decide +kernel
theorem dX8_doAct_150 : decode cX8_doAct 150 = .ok (.ireturn, 1) := by decide +kernel
theorem dX8_doAct_151 : decode cX8_doAct 151 = .ok (.aload_n 0, 1) := by decide +kernel
theorem dX8_doAct_152 : decode cX8_doAct 152 = .ok (.iload_n 2, 1) := by decide +kernel
theorem dX8_doAct_153 : decode cX8_doAct 153 = .ok (.invokevirtual 425, 3) := by decide +kernel
theorem dX8_doAct_156 : decode cX8_doAct 156 = .ok (.ifCond .eq 7, 3) := by decide +kernel
theorem dX8_doAct_159 : decode cX8_doAct 159 = .ok (.iconst 1, 1) := by decide +kernel
theorem dX8_doAct_160 : decode cX8_doAct 160 = .ok (.goto 6, 3) := by decide +kernel
theorem dX8_doAct_163 : decode cX8_doAct 163 = .ok (.ldc_w 283, 3) := by decide +kernel
theorem dX8_doAct_166 : decode cX8_doAct 166 = .ok (.ireturn, 1) := by decide +kernel
theorem dX8_doAct_167 : decode cX8_doAct 167 = .ok (.aload_n 0, 1) := by decide +kernel
theorem dX8_doAct_168 : decode cX8_doAct 168 = .ok (.iload_n 2, 1) := by decide +kernel
theorem dX8_doAct_169 : decode cX8_doAct 169 = .ok (.iload_n 3, 1) := by decide +kernel
theorem dX8_doAct_170 : decode cX8_doAct 170 = .ok (.invokevirtual 428, 3) := by decide +kernel
theorem dX8_doAct_173 : decode cX8_doAct 173 = .ok (.ifCond .eq 7, 3) := by decide +kernel
theorem dX8_doAct_176 : decode cX8_doAct 176 = .ok (.iconst 1, 1) := by decide +kernel
theorem dX8_doAct_177 : decode cX8_doAct 177 = .ok (.goto 6, 3) := by decide +kernel
theorem dX8_doAct_180 : decode cX8_doAct 180 = .ok (.ldc_w 283, 3) := by decide +kernel
theorem dX8_doAct_183 : decode cX8_doAct 183 = .ok (.ireturn, 1) := by decide +kernel
theorem dX8_doAct_184 : decode cX8_doAct 184 = .ok (.aload_n 0, 1) := by decide +kernel
theorem dX8_doAct_185 : decode cX8_doAct 185 = .ok (.iload_n 2, 1) := by decide +kernel
theorem dX8_doAct_186 : decode cX8_doAct 186 = .ok (.iload_n 3, 1) := by decide +kernel
theorem dX8_doAct_187 : decode cX8_doAct 187 = .ok (.invokevirtual 431, 3) := by decide +kernel
theorem dX8_doAct_190 : decode cX8_doAct 190 = .ok (.ifCond .eq 7, 3) := by decide +kernel
theorem dX8_doAct_193 : decode cX8_doAct 193 = .ok (.iconst 1, 1) := by decide +kernel
theorem dX8_doAct_194 : decode cX8_doAct 194 = .ok (.goto 6, 3) := by decide +kernel
theorem dX8_doAct_197 : decode cX8_doAct 197 = .ok (.ldc_w 283, 3) := by decide +kernel
theorem dX8_doAct_200 : decode cX8_doAct 200 = .ok (.ireturn, 1) := by decide +kernel
theorem dX8_doAct_201 : decode cX8_doAct 201 = .ok (.aload_n 0, 1) := by decide +kernel
theorem dX8_doAct_202 : decode cX8_doAct 202 = .ok (.invokevirtual 434, 3) := by decide +kernel
theorem dX8_doAct_205 : decode cX8_doAct 205 = .ok (.ireturn, 1) := by decide +kernel
theorem dX8_doAct_206 : decode cX8_doAct 206 = .ok (.aload_n 0, 1) := by decide +kernel
theorem dX8_doAct_207 : decode cX8_doAct 207 = .ok (.bipush 6, 2) := by decide +kernel
theorem dX8_doAct_209 : decode cX8_doAct 209 = .ok (.iload_n 2, 1) := by decide +kernel
theorem dX8_doAct_210 : decode cX8_doAct 210 = .ok (.invokevirtual 119, 3) := by decide +kernel
theorem dX8_doAct_213 : decode cX8_doAct 213 = .ok (.iconst 1, 1) := by decide +kernel
theorem dX8_doAct_214 : decode cX8_doAct 214 = .ok (.ireturn, 1) := by decide +kernel
theorem dX8_doAct_215 : decode cX8_doAct 215 = .ok (.iload_n 1, 1) := by decide +kernel
theorem dX8_doAct_216 : decode cX8_doAct 216 = .ok (.ifCond .le 19, 3) := by decide +kernel
theorem dX8_doAct_219 : decode cX8_doAct 219 = .ok (.aload_n 0, 1) := by decide +kernel
theorem dX8_doAct_220 : decode cX8_doAct 220 = .ok (.getfield 113, 3) := by decide +kernel
theorem dX8_doAct_223 : decode cX8_doAct 223 = .ok (.iload_n 1, 1) := by decide +kernel
theorem dX8_doAct_224 : decode cX8_doAct 224 = .ok (.iconst 1, 1) := by decide +kernel
theorem dX8_doAct_225 : decode cX8_doAct 225 = .ok (.isub, 1) := by decide +kernel
theorem dX8_doAct_226 : decode cX8_doAct 226 = .ok (.iaload, 1) := by decide +kernel
theorem dX8_doAct_227 : decode cX8_doAct 227 = .ok (.iload_n 2, 1) := by decide +kernel
theorem dX8_doAct_228 : decode cX8_doAct 228 = .ok (.if_icmp .ne 7, 3) := by decide +kernel
theorem dX8_doAct_231 : decode cX8_doAct 231 = .ok (.iload_n 2, 1) := by decide +kernel
theorem dX8_doAct_232 : decode cX8_doAct 232 = .ok (.goto 6, 3) := by decide +kernel
theorem dX8_doAct_235 : decode cX8_doAct 235 = .ok (.ldc_w 283, 3) := by decide +kernel
theorem dX8_doAct_238 : decode cX8_doAct 238 = .ok (.ireturn, 1) := by decide +kernel
theorem dX8_refusedBy_0 : decode cX8_refusedBy 0 = .ok (.iload_n 0, 1) := by decide +kernel
theorem dX8_refusedBy_1 : decode cX8_refusedBy 1 = .ok (.iload_n 1, 1) := by decide +kernel
theorem dX8_refusedBy_2 : decode cX8_refusedBy 2 = .ok (.if_icmp .ne 9, 3) := by decide +kernel
theorem dX8_refusedBy_5 : decode cX8_refusedBy 5 = .ok (.ldc_w 283, 3) := by decide +kernel
theorem dX8_refusedBy_8 : decode cX8_refusedBy 8 = .ok (.goto 4, 3) := by decide +kernel
theorem dX8_refusedBy_11 : decode cX8_refusedBy 11 = .ok (.iload_n 0, 1) := by decide +kernel
theorem dX8_refusedBy_12 : decode cX8_refusedBy 12 = .ok (.ireturn, 1) := by decide +kernel
theorem dX8_bench_0 : decode cX8_bench 0 = .ok (.aload_n 0, 1) := by decide +kernel
theorem dX8_bench_1 : decode cX8_bench 1 = .ok (.invokevirtual 437, 3) := by decide +kernel
theorem dX8_bench_4 : decode cX8_bench 4 = .ok (.istore_n 1, 1) := by decide +kernel
theorem dX8_bench_5 : decode cX8_bench 5 = .ok (.aload_n 0, 1) := by decide +kernel
theorem dX8_bench_6 : decode cX8_bench 6 = .ok (.iconst 0, 1) := by decide +kernel
theorem dX8_bench_7 : decode cX8_bench 7 = .ok (.putfield 122, 3) := by decide +kernel
theorem dX8_bench_10 : decode cX8_bench 10 = .ok (.iload_n 1, 1) := by decide +kernel
theorem dX8_bench_11 : decode cX8_bench 11 = .ok (.ifCond .ne 5, 3) := by decide +kernel
theorem dX8_bench_14 : decode cX8_bench 14 = .ok (.iconst (-1), 1) := by decide +kernel
theorem dX8_bench_15 : decode cX8_bench 15 = .ok (.ireturn, 1) := by decide +kernel
theorem dX8_bench_16 : decode cX8_bench 16 = .ok (.aload_n 0, 1) := by decide +kernel
theorem dX8_bench_17 : decode cX8_bench 17 = .ok (.iconst 0, 1) := by decide +kernel
theorem dX8_bench_18 : decode cX8_bench 18 = .ok (.putfield 440, 3) := by decide +kernel
theorem dX8_bench_21 : decode cX8_bench 21 = .ok (.aload_n 0, 1) := by decide +kernel
theorem dX8_bench_22 : decode cX8_bench 22 = .ok (.iconst (-1), 1) := by decide +kernel
theorem dX8_bench_23 : decode cX8_bench 23 = .ok (.putfield 116, 3) := by decide +kernel
theorem dX8_bench_26 : decode cX8_bench 26 = .ok (.aload_n 0, 1) := by decide +kernel
theorem dX8_bench_27 : decode cX8_bench 27 = .ok (.getfield 440, 3) := by decide +kernel
theorem dX8_bench_30 : decode cX8_bench 30 = .ok (.aload_n 0, 1) := by decide +kernel
theorem dX8_bench_31 : decode cX8_bench 31 = .ok (.getfield 403, 3) := by decide +kernel
theorem dX8_bench_34 : decode cX8_bench 34 = .ok (.if_icmp .ge 61, 3) := by decide +kernel
theorem dX8_bench_37 : decode cX8_bench 37 = .ok (.aload_n 0, 1) := by decide +kernel
theorem dX8_bench_38 : decode cX8_bench 38 = .ok (.getfield 116, 3) := by decide +kernel
theorem dX8_bench_41 : decode cX8_bench 41 = .ok (.iconst (-1), 1) := by decide +kernel
theorem dX8_bench_42 : decode cX8_bench 42 = .ok (.if_icmp .ne 53, 3) := by decide +kernel
theorem dX8_bench_45 : decode cX8_bench 45 = .ok (.aload_n 0, 1) := by decide +kernel
theorem dX8_bench_46 : decode cX8_bench 46 = .ok (.aload_n 0, 1) := by decide +kernel
theorem dX8_bench_47 : decode cX8_bench 47 = .ok (.getfield 440, 3) := by decide +kernel
theorem dX8_bench_50 : decode cX8_bench 50 = .ok (.invokevirtual 443, 3) := by decide +kernel
theorem dX8_bench_53 : decode cX8_bench 53 = .ok (.istore_n 2, 1) := by decide +kernel
theorem dX8_bench_54 : decode cX8_bench 54 = .ok (.aload_n 0, 1) := by decide +kernel
theorem dX8_bench_55 : decode cX8_bench 55 = .ok (.getfield 113, 3) := by decide +kernel
theorem dX8_bench_58 : decode cX8_bench 58 = .ok (.aload_n 0, 1) := by decide +kernel
theorem dX8_bench_59 : decode cX8_bench 59 = .ok (.getfield 440, 3) := by decide +kernel
theorem dX8_bench_62 : decode cX8_bench 62 = .ok (.iload_n 2, 1) := by decide +kernel
theorem dX8_bench_63 : decode cX8_bench 63 = .ok (.iastore, 1) := by decide +kernel
theorem dX8_bench_64 : decode cX8_bench 64 = .ok (.iload_n 2, 1) := by decide +kernel
theorem dX8_bench_65 : decode cX8_bench 65 = .ok (.ldc_w 283, 3) := by decide +kernel
theorem dX8_bench_68 : decode cX8_bench 68 = .ok (.if_icmp .ne 14, 3) := by decide +kernel
theorem dX8_bench_71 : decode cX8_bench 71 = .ok (.aload_n 0, 1) := by decide +kernel
theorem dX8_bench_72 : decode cX8_bench 72 = .ok (.aload_n 0, 1) := by decide +kernel
theorem dX8_bench_73 : decode cX8_bench 73 = .ok (.getfield 440, 3) := by decide +kernel
theorem dX8_bench_76 : decode cX8_bench 76 = .ok (.putfield 116, 3) := by decide +kernel
theorem dX8_bench_79 : decode cX8_bench 79 = .ok (.goto 13, 3) := by decide +kernel
theorem dX8_bench_82 : decode cX8_bench 82 = .ok (.aload_n 0, 1) := by decide +kernel
theorem dX8_bench_83 : decode cX8_bench 83 = .ok (.dup, 1) := by decide +kernel
theorem dX8_bench_84 : decode cX8_bench 84 = .ok (.getfield 440, 3) := by decide +kernel
theorem dX8_bench_87 : decode cX8_bench 87 = .ok (.iconst 1, 1) := by decide +kernel
theorem dX8_bench_88 : decode cX8_bench 88 = .ok (.iadd, 1) := by decide +kernel
theorem dX8_bench_89 : decode cX8_bench 89 = .ok (.putfield 440, 3) := by decide +kernel
theorem dX8_bench_92 : decode cX8_bench 92 = .ok (.goto (-66), 3) := by decide +kernel
theorem dX8_bench_95 : decode cX8_bench 95 = .ok (.aload_n 0, 1) := by decide +kernel
theorem dX8_bench_96 : decode cX8_bench 96 = .ok (.getfield 440, 3) := by decide +kernel
theorem dX8_bench_99 : decode cX8_bench 99 = .ok (.ireturn, 1) := by decide +kernel
theorem dX8_stopped_0 : decode cX8_stopped 0 = .ok (.aload_n 0, 1) := by decide +kernel
theorem dX8_stopped_1 : decode cX8_stopped 1 = .ok (.getfield 116, 3) := by decide +kernel
theorem dX8_stopped_4 : decode cX8_stopped 4 = .ok (.ireturn, 1) := by decide +kernel
theorem dX8_row_0 : decode cX8_row 0 = .ok (.iload_n 1, 1) := by decide +kernel
theorem dX8_row_1 : decode cX8_row 1 = .ok (.iconst 0, 1) := by decide +kernel
theorem dX8_row_2 : decode cX8_row 2 = .ok (.aload_n 0, 1) := by decide +kernel
theorem dX8_row_3 : decode cX8_row 3 = .ok (.getfield 440, 3) := by decide +kernel
theorem dX8_row_6 : decode cX8_row 6 = .ok (.iconst 1, 1) := by decide +kernel
theorem dX8_row_7 : decode cX8_row 7 = .ok (.isub, 1) := by decide +kernel
theorem dX8_row_8 : decode cX8_row 8 = .ok (.invokestatic 129, 3) := by decide +kernel
theorem dX8_row_11 : decode cX8_row 11 = .ok (.ifCond .eq 12, 3) := by decide +kernel
theorem dX8_row_14 : decode cX8_row 14 = .ok (.aload_n 0, 1) := by decide +kernel
theorem dX8_row_15 : decode cX8_row 15 = .ok (.getfield 113, 3) := by decide +kernel
theorem dX8_row_18 : decode cX8_row 18 = .ok (.iload_n 1, 1) := by decide +kernel
theorem dX8_row_19 : decode cX8_row 19 = .ok (.iaload, 1) := by decide +kernel
theorem dX8_row_20 : decode cX8_row 20 = .ok (.goto 6, 3) := by decide +kernel
theorem dX8_row_23 : decode cX8_row 23 = .ok (.ldc_w 283, 3) := by decide +kernel
theorem dX8_row_26 : decode cX8_row 26 = .ok (.ireturn, 1) := by decide +kernel
theorem dL_law_0 : decode cL_law 0 = .ok (.new 7, 3) := by decide +kernel
theorem dL_law_3 : decode cL_law 3 = .ok (.dup, 1) := by decide +kernel
theorem dL_law_4 : decode cL_law 4 = .ok (.invokespecial 9, 3) := by decide +kernel
theorem dL_law_7 : decode cL_law 7 = .ok (.astore_n 1, 1) := by decide +kernel
theorem dL_law_8 : decode cL_law 8 = .ok (.new 10, 3) := by decide +kernel
theorem dL_law_11 : decode cL_law 11 = .ok (.dup, 1) := by decide +kernel
theorem dL_law_12 : decode cL_law 12 = .ok (.invokespecial 12, 3) := by decide +kernel
theorem dL_law_15 : decode cL_law 15 = .ok (.astore_n 2, 1) := by decide +kernel
theorem dL_law_16 : decode cL_law 16 = .ok (.iconst 0, 1) := by decide +kernel
theorem dL_law_17 : decode cL_law 17 = .ok (.istore_n 3, 1) := by decide +kernel
theorem dL_law_18 : decode cL_law 18 = .ok (.iload_n 3, 1) := by decide +kernel
theorem dL_law_19 : decode cL_law 19 = .ok (.aload_n 0, 1) := by decide +kernel
theorem dL_law_20 : decode cL_law 20 = .ok (.arraylength, 1) := by decide +kernel
theorem dL_law_21 : decode cL_law 21 = .ok (.bipush 6, 2) := by decide +kernel
theorem dL_law_23 : decode cL_law 23 = .ok (.isub, 1) := by decide +kernel
theorem dL_law_24 : decode cL_law 24 = .ok (.if_icmp .gt 1599, 3) := by decide +kernel
theorem dL_law_27 : decode cL_law 27 = .ok (.aload_n 0, 1) := by decide +kernel
theorem dL_law_28 : decode cL_law 28 = .ok (.iload_n 3, 1) := by decide +kernel
theorem dL_law_29 : decode cL_law 29 = .ok (.iaload, 1) := by decide +kernel
theorem dL_law_30 : decode cL_law 30 = .ok (.bipush 63, 2) := by decide +kernel
theorem dL_law_32 : decode cL_law 32 = .ok (.iand, 1) := by decide +kernel
theorem dL_law_33 : decode cL_law 33 = .ok (.tableswitch 1584 0 46 #[203, 266, 289, 302, 315, 338, 371, 404, 437, 470, 493, 516, 549, 572, 585, 608, 641, 654, 677, 710, 733, 786, 839, 882, 945, 998, 1031, 1064, 1077, 1100, 1123, 1156, 1199, 1222, 1245, 1278, 1331, 1364, 1387, 1410, 1443, 1456, 1489, 1502, 1515, 1538, 1561], 203) := by decide +kernel
theorem dL_law_236 : decode cL_law 236 = .ok (.aload_n 1, 1) := by decide +kernel
theorem dL_law_237 : decode cL_law 237 = .ok (.aload_n 0, 1) := by decide +kernel
theorem dL_law_238 : decode cL_law 238 = .ok (.iload_n 3, 1) := by decide +kernel
theorem dL_law_239 : decode cL_law 239 = .ok (.iconst 1, 1) := by decide +kernel
theorem dL_law_240 : decode cL_law 240 = .ok (.iadd, 1) := by decide +kernel
theorem dL_law_241 : decode cL_law 241 = .ok (.iaload, 1) := by decide +kernel
theorem dL_law_242 : decode cL_law 242 = .ok (.aload_n 0, 1) := by decide +kernel
theorem dL_law_243 : decode cL_law 243 = .ok (.iload_n 3, 1) := by decide +kernel
theorem dL_law_244 : decode cL_law 244 = .ok (.iconst 2, 1) := by decide +kernel
theorem dL_law_245 : decode cL_law 245 = .ok (.iadd, 1) := by decide +kernel
theorem dL_law_246 : decode cL_law 246 = .ok (.iaload, 1) := by decide +kernel
theorem dL_law_247 : decode cL_law 247 = .ok (.aload_n 0, 1) := by decide +kernel
theorem dL_law_248 : decode cL_law 248 = .ok (.iload_n 3, 1) := by decide +kernel
theorem dL_law_249 : decode cL_law 249 = .ok (.iconst 3, 1) := by decide +kernel
theorem dL_law_250 : decode cL_law 250 = .ok (.iadd, 1) := by decide +kernel
theorem dL_law_251 : decode cL_law 251 = .ok (.iaload, 1) := by decide +kernel
theorem dL_law_252 : decode cL_law 252 = .ok (.aload_n 0, 1) := by decide +kernel
theorem dL_law_253 : decode cL_law 253 = .ok (.iload_n 3, 1) := by decide +kernel
theorem dL_law_254 : decode cL_law 254 = .ok (.iconst 4, 1) := by decide +kernel
theorem dL_law_255 : decode cL_law 255 = .ok (.iadd, 1) := by decide +kernel
theorem dL_law_256 : decode cL_law 256 = .ok (.iaload, 1) := by decide +kernel
theorem dL_law_257 : decode cL_law 257 = .ok (.aload_n 0, 1) := by decide +kernel
theorem dL_law_258 : decode cL_law 258 = .ok (.iload_n 3, 1) := by decide +kernel
theorem dL_law_259 : decode cL_law 259 = .ok (.iconst 5, 1) := by decide +kernel
theorem dL_law_260 : decode cL_law 260 = .ok (.iadd, 1) := by decide +kernel
theorem dL_law_261 : decode cL_law 261 = .ok (.iaload, 1) := by decide +kernel
theorem dL_law_262 : decode cL_law 262 = .ok (.invokevirtual 13, 3) := by decide +kernel
theorem dL_law_265 : decode cL_law 265 = .ok (.aload_n 2, 1) := by decide +kernel
theorem dL_law_266 : decode cL_law 266 = .ok (.aload_n 0, 1) := by decide +kernel
theorem dL_law_267 : decode cL_law 267 = .ok (.iload_n 3, 1) := by decide +kernel
theorem dL_law_268 : decode cL_law 268 = .ok (.iconst 1, 1) := by decide +kernel
theorem dL_law_269 : decode cL_law 269 = .ok (.iadd, 1) := by decide +kernel
theorem dL_law_270 : decode cL_law 270 = .ok (.iaload, 1) := by decide +kernel
theorem dL_law_271 : decode cL_law 271 = .ok (.aload_n 0, 1) := by decide +kernel
theorem dL_law_272 : decode cL_law 272 = .ok (.iload_n 3, 1) := by decide +kernel
theorem dL_law_273 : decode cL_law 273 = .ok (.iconst 2, 1) := by decide +kernel
theorem dL_law_274 : decode cL_law 274 = .ok (.iadd, 1) := by decide +kernel
theorem dL_law_275 : decode cL_law 275 = .ok (.iaload, 1) := by decide +kernel
theorem dL_law_276 : decode cL_law 276 = .ok (.aload_n 0, 1) := by decide +kernel
theorem dL_law_277 : decode cL_law 277 = .ok (.iload_n 3, 1) := by decide +kernel
theorem dL_law_278 : decode cL_law 278 = .ok (.iconst 3, 1) := by decide +kernel
theorem dL_law_279 : decode cL_law 279 = .ok (.iadd, 1) := by decide +kernel
theorem dL_law_280 : decode cL_law 280 = .ok (.iaload, 1) := by decide +kernel
theorem dL_law_281 : decode cL_law 281 = .ok (.aload_n 0, 1) := by decide +kernel
theorem dL_law_282 : decode cL_law 282 = .ok (.iload_n 3, 1) := by decide +kernel
theorem dL_law_283 : decode cL_law 283 = .ok (.iconst 4, 1) := by decide +kernel
theorem dL_law_284 : decode cL_law 284 = .ok (.iadd, 1) := by decide +kernel
theorem dL_law_285 : decode cL_law 285 = .ok (.iaload, 1) := by decide +kernel
theorem dL_law_286 : decode cL_law 286 = .ok (.aload_n 0, 1) := by decide +kernel
theorem dL_law_287 : decode cL_law 287 = .ok (.iload_n 3, 1) := by decide +kernel
theorem dL_law_288 : decode cL_law 288 = .ok (.iconst 5, 1) := by decide +kernel
