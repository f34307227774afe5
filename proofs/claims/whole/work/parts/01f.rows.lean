theorem dX7_pass_1 : decode cX7_pass 1 = .ok (.iconst 1, 1) := by decide +kernel
theorem dX7_pass_2 : decode cX7_pass 2 = .ok (.bipush 100, 2) := by decide +kernel
theorem dX7_pass_4 : decode cX7_pass 4 = .ok (.invokestatic 225, 3) := by decide +kernel
theorem dX7_pass_7 : decode cX7_pass 7 = .ok (.ifCond .ne 5, 3) := by decide +kernel
theorem dX7_pass_10 : decode cX7_pass 10 = .ok (.iconst (-1), 1) := by decide +kernel
theorem dX7_pass_11 : decode cX7_pass 11 = .ok (.ireturn, 1) := by decide +kernel
theorem dX7_pass_12 : decode cX7_pass 12 = .ok (.iconst 0, 1) := by decide +kernel
theorem dX7_pass_13 : decode cX7_pass 13 = .ok (.istore_n 2, 1) := by decide +kernel
theorem dX7_pass_14 : decode cX7_pass 14 = .ok (.iconst 0, 1) := by decide +kernel
theorem dX7_pass_15 : decode cX7_pass 15 = .ok (.istore_n 3, 1) := by decide +kernel
theorem dX7_pass_16 : decode cX7_pass 16 = .ok (.iload_n 3, 1) := by decide +kernel
theorem dX7_pass_17 : decode cX7_pass 17 = .ok (.iload_n 1, 1) := by decide +kernel
theorem dX7_pass_18 : decode cX7_pass 18 = .ok (.if_icmp .ge 19, 3) := by decide +kernel
theorem dX7_pass_21 : decode cX7_pass 21 = .ok (.iload_n 2, 1) := by decide +kernel
theorem dX7_pass_22 : decode cX7_pass 22 = .ok (.aload_n 0, 1) := by decide +kernel
theorem dX7_pass_23 : decode cX7_pass 23 = .ok (.getfield 19, 3) := by decide +kernel
theorem dX7_pass_26 : decode cX7_pass 26 = .ok (.invokevirtual 367, 3) := by decide +kernel
theorem dX7_pass_29 : decode cX7_pass 29 = .ok (.iadd, 1) := by decide +kernel
theorem dX7_pass_30 : decode cX7_pass 30 = .ok (.istore_n 2, 1) := by decide +kernel
theorem dX7_pass_31 : decode cX7_pass 31 = .ok (.iinc 3 1, 3) := by decide +kernel
theorem dX7_pass_34 : decode cX7_pass 34 = .ok (.goto (-18), 3) := by decide +kernel
theorem dX7_pass_37 : decode cX7_pass 37 = .ok (.iload_n 2, 1) := by decide +kernel
theorem dX7_pass_38 : decode cX7_pass 38 = .ok (.ireturn, 1) := by decide +kernel
theorem dX7_due_0 : decode cX7_due 0 = .ok (.aload_n 0, 1) := by decide +kernel
theorem dX7_due_1 : decode cX7_due 1 = .ok (.getfield 19, 3) := by decide +kernel
theorem dX7_due_4 : decode cX7_due 4 = .ok (.getfield 95, 3) := by decide +kernel
theorem dX7_due_7 : decode cX7_due 7 = .ok (.ifCond .eq 22, 3) := by decide +kernel
theorem dX7_due_10 : decode cX7_due 10 = .ok (.iload_n 1, 1) := by decide +kernel
theorem dX7_due_11 : decode cX7_due 11 = .ok (.ifCond .lt 18, 3) := by decide +kernel
theorem dX7_due_14 : decode cX7_due 14 = .ok (.iconst 0, 1) := by decide +kernel
theorem dX7_due_15 : decode cX7_due 15 = .ok (.iload_n 2, 1) := by decide +kernel
theorem dX7_due_16 : decode cX7_due 16 = .ok (.aload_n 0, 1) := by decide +kernel
theorem dX7_due_17 : decode cX7_due 17 = .ok (.getfield 19, 3) := by decide +kernel
theorem dX7_due_20 : decode cX7_due 20 = .ok (.getfield 187, 3) := by decide +kernel
theorem dX7_due_23 : decode cX7_due 23 = .ok (.invokestatic 291, 3) := by decide +kernel
theorem dX7_due_26 : decode cX7_due 26 = .ok (.ifCond .ne 6, 3) := by decide +kernel
theorem dX7_due_29 : decode cX7_due 29 = .ok (.bipush (-2), 2) := by decide +kernel
theorem dX7_due_31 : decode cX7_due 31 = .ok (.ireturn, 1) := by decide +kernel
theorem dX7_due_32 : decode cX7_due 32 = .ok (.aload_n 0, 1) := by decide +kernel
theorem dX7_due_33 : decode cX7_due 33 = .ok (.getfield 23, 3) := by decide +kernel
theorem dX7_due_36 : decode cX7_due 36 = .ok (.aload_n 0, 1) := by decide +kernel
theorem dX7_due_37 : decode cX7_due 37 = .ok (.getfield 19, 3) := by decide +kernel
theorem dX7_due_40 : decode cX7_due 40 = .ok (.invokevirtual 352, 3) := by decide +kernel
theorem dX7_due_43 : decode cX7_due 43 = .ok (.iconst 0, 1) := by decide +kernel
theorem dX7_due_44 : decode cX7_due 44 = .ok (.istore_n 3, 1) := by decide +kernel
theorem dX7_due_45 : decode cX7_due 45 = .ok (.iload_n 3, 1) := by decide +kernel
theorem dX7_due_46 : decode cX7_due 46 = .ok (.bipush 100, 2) := by decide +kernel
theorem dX7_due_48 : decode cX7_due 48 = .ok (.if_icmp .gt 50, 3) := by decide +kernel
theorem dX7_due_51 : decode cX7_due 51 = .ok (.aload_n 0, 1) := by decide +kernel
theorem dX7_due_52 : decode cX7_due 52 = .ok (.getfield 43, 3) := by decide +kernel
theorem dX7_due_55 : decode cX7_due 55 = .ok (.aload_n 0, 1) := by decide +kernel
theorem dX7_due_56 : decode cX7_due 56 = .ok (.getfield 23, 3) := by decide +kernel
theorem dX7_due_59 : decode cX7_due 59 = .ok (.iconst 0, 1) := by decide +kernel
theorem dX7_due_60 : decode cX7_due 60 = .ok (.iload_n 2, 1) := by decide +kernel
theorem dX7_due_61 : decode cX7_due 61 = .ok (.aload_n 0, 1) := by decide +kernel
theorem dX7_due_62 : decode cX7_due 62 = .ok (.getfield 23, 3) := by decide +kernel
theorem dX7_due_65 : decode cX7_due 65 = .ok (.getfield 187, 3) := by decide +kernel
theorem dX7_due_68 : decode cX7_due 68 = .ok (.invokevirtual 294, 3) := by decide +kernel
theorem dX7_due_71 : decode cX7_due 71 = .ok (.aload_n 0, 1) := by decide +kernel
theorem dX7_due_72 : decode cX7_due 72 = .ok (.getfield 43, 3) := by decide +kernel
theorem dX7_due_75 : decode cX7_due 75 = .ok (.getfield 370, 3) := by decide +kernel
theorem dX7_due_78 : decode cX7_due 78 = .ok (.iload_n 1, 1) := by decide +kernel
theorem dX7_due_79 : decode cX7_due 79 = .ok (.if_icmp .le 5, 3) := by decide +kernel
theorem dX7_due_82 : decode cX7_due 82 = .ok (.iload_n 3, 1) := by decide +kernel
theorem dX7_due_83 : decode cX7_due 83 = .ok (.ireturn, 1) := by decide +kernel
theorem dX7_due_84 : decode cX7_due 84 = .ok (.aload_n 0, 1) := by decide +kernel
theorem dX7_due_85 : decode cX7_due 85 = .ok (.getfield 23, 3) := by decide +kernel
theorem dX7_due_88 : decode cX7_due 88 = .ok (.invokevirtual 367, 3) := by decide +kernel
theorem dX7_due_91 : decode cX7_due 91 = .ok (.pop, 1) := by decide +kernel
theorem dX7_due_92 : decode cX7_due 92 = .ok (.iinc 3 1, 3) := by decide +kernel
theorem dX7_due_95 : decode cX7_due 95 = .ok (.goto (-50), 3) := by decide +kernel
theorem dX7_due_98 : decode cX7_due 98 = .ok (.iconst (-1), 1) := by decide +kernel
theorem dX7_due_99 : decode cX7_due 99 = .ok (.ireturn, 1) := by decide +kernel
theorem dX7_plan_0 : decode cX7_plan 0 = .ok (.iload_n 2, 1) := by decide +kernel
theorem dX7_plan_1 : decode cX7_plan 1 = .ok (.iconst 1, 1) := by decide +kernel
theorem dX7_plan_2 : decode cX7_plan 2 = .ok (.bipush 40, 2) := by decide +kernel
theorem dX7_plan_4 : decode cX7_plan 4 = .ok (.invokestatic 225, 3) := by decide +kernel
theorem dX7_plan_7 : decode cX7_plan 7 = .ok (.ifCond .eq 20, 3) := by decide +kernel
theorem dX7_plan_10 : decode cX7_plan 10 = .ok (.iload_n 3, 1) := by decide +kernel
theorem dX7_plan_11 : decode cX7_plan 11 = .ok (.iconst 0, 1) := by decide +kernel
theorem dX7_plan_12 : decode cX7_plan 12 = .ok (.iconst 2, 1) := by decide +kernel
theorem dX7_plan_13 : decode cX7_plan 13 = .ok (.invokestatic 225, 3) := by decide +kernel
theorem dX7_plan_16 : decode cX7_plan 16 = .ok (.ifCond .eq 11, 3) := by decide +kernel
theorem dX7_plan_19 : decode cX7_plan 19 = .ok (.aload_n 0, 1) := by decide +kernel
theorem dX7_plan_20 : decode cX7_plan 20 = .ok (.iload_n 1, 1) := by decide +kernel
theorem dX7_plan_21 : decode cX7_plan 21 = .ok (.invokevirtual 336, 3) := by decide +kernel
theorem dX7_plan_24 : decode cX7_plan 24 = .ok (.ifCond .ne 5, 3) := by decide +kernel
theorem dX7_plan_27 : decode cX7_plan 27 = .ok (.iconst (-1), 1) := by decide +kernel
theorem dX7_plan_28 : decode cX7_plan 28 = .ok (.ireturn, 1) := by decide +kernel
theorem dX7_plan_29 : decode cX7_plan 29 = .ok (.aload_n 0, 1) := by decide +kernel
theorem dX7_plan_30 : decode cX7_plan 30 = .ok (.invokevirtual 339, 3) := by decide +kernel
theorem dX7_plan_33 : decode cX7_plan 33 = .ok (.iconst 0, 1) := by decide +kernel
theorem dX7_plan_34 : decode cX7_plan 34 = .ok (.istore 4, 2) := by decide +kernel
theorem dX7_plan_36 : decode cX7_plan 36 = .ok (.iconst (-1), 1) := by decide +kernel
theorem dX7_plan_37 : decode cX7_plan 37 = .ok (.istore 5, 2) := by decide +kernel
theorem dX7_plan_39 : decode cX7_plan 39 = .ok (.iconst 0, 1) := by decide +kernel
theorem dX7_plan_40 : decode cX7_plan 40 = .ok (.istore 6, 2) := by decide +kernel
theorem dX7_plan_42 : decode cX7_plan 42 = .ok (.iconst 0, 1) := by decide +kernel
theorem dX7_plan_43 : decode cX7_plan 43 = .ok (.istore 7, 2) := by decide +kernel
theorem dX7_plan_45 : decode cX7_plan 45 = .ok (.iload 7, 2) := by decide +kernel
theorem dX7_plan_47 : decode cX7_plan 47 = .ok (.iload_n 2, 1) := by decide +kernel
theorem dX7_plan_48 : decode cX7_plan 48 = .ok (.if_icmp .ge 85, 3) := by decide +kernel
theorem dX7_plan_51 : decode cX7_plan 51 = .ok (.aload_n 0, 1) := by decide +kernel
theorem dX7_plan_52 : decode cX7_plan 52 = .ok (.getfield 43, 3) := by decide +kernel
theorem dX7_plan_55 : decode cX7_plan 55 = .ok (.aload_n 0, 1) := by decide +kernel
theorem dX7_plan_56 : decode cX7_plan 56 = .ok (.getfield 23, 3) := by decide +kernel
theorem dX7_plan_59 : decode cX7_plan 59 = .ok (.invokevirtual 345, 3) := by decide +kernel
theorem dX7_plan_62 : decode cX7_plan 62 = .ok (.ifCond .ne 57, 3) := by decide +kernel
theorem dX7_plan_65 : decode cX7_plan 65 = .ok (.iload 4, 2) := by decide +kernel
theorem dX7_plan_67 : decode cX7_plan 67 = .ok (.ifCond .ne 8, 3) := by decide +kernel
theorem dX7_plan_70 : decode cX7_plan 70 = .ok (.iload 7, 2) := by decide +kernel
theorem dX7_plan_72 : decode cX7_plan 72 = .ok (.goto 5, 3) := by decide +kernel
theorem dX7_plan_75 : decode cX7_plan 75 = .ok (.iload 5, 2) := by decide +kernel
theorem dX7_plan_77 : decode cX7_plan 77 = .ok (.istore 5, 2) := by decide +kernel
theorem dX7_plan_79 : decode cX7_plan 79 = .ok (.iinc 4 1, 3) := by decide +kernel
theorem dX7_plan_82 : decode cX7_plan 82 = .ok (.aload_n 0, 1) := by decide +kernel
theorem dX7_plan_83 : decode cX7_plan 83 = .ok (.getfield 23, 3) := by decide +kernel
theorem dX7_plan_86 : decode cX7_plan 86 = .ok (.iload_n 1, 1) := by decide +kernel
theorem dX7_plan_87 : decode cX7_plan 87 = .ok (.iconst 1, 1) := by decide +kernel
theorem dX7_plan_88 : decode cX7_plan 88 = .ok (.aload_n 0, 1) := by decide +kernel
theorem dX7_plan_89 : decode cX7_plan 89 = .ok (.getfield 37, 3) := by decide +kernel
theorem dX7_plan_92 : decode cX7_plan 92 = .ok (.invokevirtual 278, 3) := by decide +kernel
theorem dX7_plan_95 : decode cX7_plan 95 = .ok (.iload 6, 2) := by decide +kernel
theorem dX7_plan_97 : decode cX7_plan 97 = .ok (.aload_n 0, 1) := by decide +kernel
theorem dX7_plan_98 : decode cX7_plan 98 = .ok (.getfield 43, 3) := by decide +kernel
theorem dX7_plan_101 : decode cX7_plan 101 = .ok (.aload_n 0, 1) := by decide +kernel
theorem dX7_plan_102 : decode cX7_plan 102 = .ok (.getfield 23, 3) := by decide +kernel
theorem dX7_plan_105 : decode cX7_plan 105 = .ok (.invokevirtual 345, 3) := by decide +kernel
theorem dX7_plan_108 : decode cX7_plan 108 = .ok (.ifCond .eq 7, 3) := by decide +kernel
theorem dX7_plan_111 : decode cX7_plan 111 = .ok (.iconst 0, 1) := by decide +kernel
theorem dX7_plan_112 : decode cX7_plan 112 = .ok (.goto 4, 3) := by decide +kernel
theorem dX7_plan_115 : decode cX7_plan 115 = .ok (.iconst 1, 1) := by decide +kernel
theorem dX7_plan_116 : decode cX7_plan 116 = .ok (.iadd, 1) := by decide +kernel
theorem dX7_plan_117 : decode cX7_plan 117 = .ok (.istore 6, 2) := by decide +kernel
theorem dX7_plan_119 : decode cX7_plan 119 = .ok (.aload_n 0, 1) := by decide +kernel
theorem dX7_plan_120 : decode cX7_plan 120 = .ok (.getfield 23, 3) := by decide +kernel
theorem dX7_plan_123 : decode cX7_plan 123 = .ok (.invokevirtual 367, 3) := by decide +kernel
theorem dX7_plan_126 : decode cX7_plan 126 = .ok (.pop, 1) := by decide +kernel
theorem dX7_plan_127 : decode cX7_plan 127 = .ok (.iinc 7 1, 3) := by decide +kernel
theorem dX7_plan_130 : decode cX7_plan 130 = .ok (.goto (-85), 3) := by decide +kernel
theorem dX7_plan_133 : decode cX7_plan 133 = .ok (.iload_n 3, 1) := by decide +kernel
theorem dX7_plan_134 : decode cX7_plan 134 = .ok (.ifCond .ne 8, 3) := by decide +kernel
theorem dX7_plan_137 : decode cX7_plan 137 = .ok (.iload 4, 2) := by decide +kernel
theorem dX7_plan_139 : decode cX7_plan 139 = .ok (.goto 15, 3) := by decide +kernel
theorem dX7_plan_142 : decode cX7_plan 142 = .ok (.iload_n 3, 1) := by decide +kernel
theorem dX7_plan_143 : decode cX7_plan 143 = .ok (.iconst 1, 1) := by decide +kernel
theorem dX7_plan_144 : decode cX7_plan 144 = .ok (.if_icmp .ne 8, 3) := by decide +kernel
theorem dX7_plan_147 : decode cX7_plan 147 = .ok (.iload 5, 2) := by decide +kernel
theorem dX7_plan_149 : decode cX7_plan 149 = .ok (.goto 5, 3) := by decide +kernel
theorem dX7_plan_152 : decode cX7_plan 152 = .ok (.iload 6, 2) := by decide +kernel
theorem dX7_plan_154 : decode cX7_plan 154 = .ok (.ireturn, 1) := by decide +kernel
theorem dX7_see_0 : decode cX7_see 0 = .ok (.iload_n 1, 1) := by decide +kernel
theorem dX7_see_1 : decode cX7_see 1 = .ok (.invokestatic 236, 3) := by decide +kernel
theorem dX7_see_4 : decode cX7_see 4 = .ok (.ifCond .ne 6, 3) := by decide +kernel
theorem dX7_see_7 : decode cX7_see 7 = .ok (.bipush (-2), 2) := by decide +kernel
theorem dX7_see_9 : decode cX7_see 9 = .ok (.ireturn, 1) := by decide +kernel
theorem dX7_see_10 : decode cX7_see 10 = .ok (.aload_n 0, 1) := by decide +kernel
theorem dX7_see_11 : decode cX7_see 11 = .ok (.getfield 19, 3) := by decide +kernel
theorem dX7_see_14 : decode cX7_see 14 = .ok (.getfield 89, 3) := by decide +kernel
theorem dX7_see_17 : decode cX7_see 17 = .ok (.bipush 8, 2) := by decide +kernel
theorem dX7_see_19 : decode cX7_see 19 = .ok (.if_icmp .lt 5, 3) := by decide +kernel
theorem dX7_see_22 : decode cX7_see 22 = .ok (.iconst (-1), 1) := by decide +kernel
theorem dX7_see_23 : decode cX7_see 23 = .ok (.ireturn, 1) := by decide +kernel
theorem dX7_see_24 : decode cX7_see 24 = .ok (.aload_n 0, 1) := by decide +kernel
theorem dX7_see_25 : decode cX7_see 25 = .ok (.getfield 19, 3) := by decide +kernel
theorem dX7_see_28 : decode cX7_see 28 = .ok (.getfield 373, 3) := by decide +kernel
theorem dX7_see_31 : decode cX7_see 31 = .ok (.aload_n 0, 1) := by decide +kernel
theorem dX7_see_32 : decode cX7_see 32 = .ok (.getfield 19, 3) := by decide +kernel
theorem dX7_see_35 : decode cX7_see 35 = .ok (.getfield 89, 3) := by decide +kernel
theorem dX7_see_38 : decode cX7_see 38 = .ok (.iload_n 1, 1) := by decide +kernel
theorem dX7_see_39 : decode cX7_see 39 = .ok (.iastore, 1) := by decide +kernel
theorem dX7_see_40 : decode cX7_see 40 = .ok (.aload_n 0, 1) := by decide +kernel
theorem dX7_see_41 : decode cX7_see 41 = .ok (.getfield 19, 3) := by decide +kernel
theorem dX7_see_44 : decode cX7_see 44 = .ok (.getfield 376, 3) := by decide +kernel
theorem dX7_see_47 : decode cX7_see 47 = .ok (.aload_n 0, 1) := by decide +kernel
theorem dX7_see_48 : decode cX7_see 48 = .ok (.getfield 19, 3) := by decide +kernel
theorem dX7_see_51 : decode cX7_see 51 = .ok (.getfield 89, 3) := by decide +kernel
theorem dX7_see_54 : decode cX7_see 54 = .ok (.iload_n 2, 1) := by decide +kernel
theorem dX7_see_55 : decode cX7_see 55 = .ok (.iastore, 1) := by decide +kernel
theorem dX7_see_56 : decode cX7_see 56 = .ok (.aload_n 0, 1) := by decide +kernel
theorem dX7_see_57 : decode cX7_see 57 = .ok (.getfield 19, 3) := by decide +kernel
theorem dX7_see_60 : decode cX7_see 60 = .ok (.dup, 1) := by decide +kernel
theorem dX7_see_61 : decode cX7_see 61 = .ok (.getfield 89, 3) := by decide +kernel
theorem dX7_see_64 : decode cX7_see 64 = .ok (.iconst 1, 1) := by decide +kernel
theorem dX7_see_65 : decode cX7_see 65 = .ok (.iadd, 1) := by decide +kernel
theorem dX7_see_66 : decode cX7_see 66 = .ok (.putfield 89, 3) := by decide +kernel
theorem dX7_see_69 : decode cX7_see 69 = .ok (.aload_n 0, 1) := by decide +kernel
theorem dX7_see_70 : decode cX7_see 70 = .ok (.getfield 19, 3) := by decide +kernel
theorem dX7_see_73 : decode cX7_see 73 = .ok (.getfield 89, 3) := by decide +kernel
theorem dX7_see_76 : decode cX7_see 76 = .ok (.ireturn, 1) := by decide +kernel
theorem dX7_wipe_0 : decode cX7_wipe 0 = .ok (.aload_n 0, 1) := by decide +kernel
theorem dX7_wipe_1 : decode cX7_wipe 1 = .ok (.getfield 19, 3) := by decide +kernel
theorem dX7_wipe_4 : decode cX7_wipe 4 = .ok (.getfield 89, 3) := by decide +kernel
theorem dX7_wipe_7 : decode cX7_wipe 7 = .ok (.istore_n 1, 1) := by decide +kernel
theorem dX7_wipe_8 : decode cX7_wipe 8 = .ok (.aload_n 0, 1) := by decide +kernel
theorem dX7_wipe_9 : decode cX7_wipe 9 = .ok (.getfield 19, 3) := by decide +kernel
theorem dX7_wipe_12 : decode cX7_wipe 12 = .ok (.iconst 0, 1) := by decide +kernel
theorem dX7_wipe_13 : decode cX7_wipe 13 = .ok (.putfield 89, 3) := by decide +kernel
theorem dX7_wipe_16 : decode cX7_wipe 16 = .ok (.iload_n 1, 1) := by decide +kernel
theorem dX7_wipe_17 : decode cX7_wipe 17 = .ok (.ireturn, 1) := by decide +kernel
theorem dX7_faults_0 : decode cX7_faults 0 = .ok (.aload_n 0, 1) := by decide +kernel
theorem dX7_faults_1 : decode cX7_faults 1 = .ok (.getfield 19, 3) := by decide +kernel
theorem dX7_faults_4 : decode cX7_faults 4 = .ok (.getfield 95, 3) := by decide +kernel
theorem dX7_faults_7 : decode cX7_faults 7 = .ok (.ifCond .eq 21, 3) := by decide +kernel
theorem dX7_faults_10 : decode cX7_faults 10 = .ok (.iload_n 1, 1) := by decide +kernel
theorem dX7_faults_11 : decode cX7_faults 11 = .ok (.iconst 0, 1) := by decide +kernel
theorem dX7_faults_12 : decode cX7_faults 12 = .ok (.iconst 1, 1) := by decide +kernel
theorem dX7_faults_13 : decode cX7_faults 13 = .ok (.invokestatic 225, 3) := by decide +kernel
theorem dX7_faults_16 : decode cX7_faults 16 = .ok (.ifCond .eq 12, 3) := by decide +kernel
theorem dX7_faults_19 : decode cX7_faults 19 = .ok (.iload_n 2, 1) := by decide +kernel
theorem dX7_faults_20 : decode cX7_faults 20 = .ok (.iconst 0, 1) := by decide +kernel
theorem dX7_faults_21 : decode cX7_faults 21 = .ok (.iconst 2, 1) := by decide +kernel
theorem dX7_faults_22 : decode cX7_faults 22 = .ok (.invokestatic 225, 3) := by decide +kernel
theorem dX7_faults_25 : decode cX7_faults 25 = .ok (.ifCond .ne 6, 3) := by decide +kernel
theorem dX7_faults_28 : decode cX7_faults 28 = .ok (.bipush (-100), 2) := by decide +kernel
theorem dX7_faults_30 : decode cX7_faults 30 = .ok (.ireturn, 1) := by decide +kernel
theorem dX7_faults_31 : decode cX7_faults 31 = .ok (.aload_n 0, 1) := by decide +kernel
theorem dX7_faults_32 : decode cX7_faults 32 = .ok (.getfield 23, 3) := by decide +kernel
theorem dX7_faults_35 : decode cX7_faults 35 = .ok (.aload_n 0, 1) := by decide +kernel
theorem dX7_faults_36 : decode cX7_faults 36 = .ok (.getfield 19, 3) := by decide +kernel
theorem dX7_faults_39 : decode cX7_faults 39 = .ok (.invokevirtual 352, 3) := by decide +kernel
theorem dX7_faults_42 : decode cX7_faults 42 = .ok (.iconst 0, 1) := by decide +kernel
theorem dX7_faults_43 : decode cX7_faults 43 = .ok (.istore_n 3, 1) := by decide +kernel
theorem dX7_faults_44 : decode cX7_faults 44 = .ok (.bipush (-100), 2) := by decide +kernel
theorem dX7_faults_46 : decode cX7_faults 46 = .ok (.istore 4, 2) := by decide +kernel
theorem dX7_faults_48 : decode cX7_faults 48 = .ok (.bipush (-100), 2) := by decide +kernel
theorem dX7_faults_50 : decode cX7_faults 50 = .ok (.istore 5, 2) := by decide +kernel
theorem dX7_faults_52 : decode cX7_faults 52 = .ok (.iload_n 1, 1) := by decide +kernel
theorem dX7_faults_53 : decode cX7_faults 53 = .ok (.ifCond .ne 7, 3) := by decide +kernel
theorem dX7_faults_56 : decode cX7_faults 56 = .ok (.iconst 0, 1) := by decide +kernel
theorem dX7_faults_57 : decode cX7_faults 57 = .ok (.goto 5, 3) := by decide +kernel
theorem dX7_faults_60 : decode cX7_faults 60 = .ok (.bipush (-20), 2) := by decide +kernel
theorem dX7_faults_62 : decode cX7_faults 62 = .ok (.istore 6, 2) := by decide +kernel
theorem dX7_faults_64 : decode cX7_faults 64 = .ok (.iload_n 1, 1) := by decide +kernel
theorem dX7_faults_65 : decode cX7_faults 65 = .ok (.ifCond .ne 7, 3) := by decide +kernel
theorem dX7_faults_68 : decode cX7_faults 68 = .ok (.iconst 1, 1) := by decide +kernel
theorem dX7_faults_69 : decode cX7_faults 69 = .ok (.goto 5, 3) := by decide +kernel
theorem dX7_faults_72 : decode cX7_faults 72 = .ok (.bipush 20, 2) := by decide +kernel
theorem dX7_faults_74 : decode cX7_faults 74 = .ok (.istore 7, 2) := by decide +kernel
theorem dX7_faults_76 : decode cX7_faults 76 = .ok (.iconst 0, 1) := by decide +kernel
theorem dX7_faults_77 : decode cX7_faults 77 = .ok (.istore 8, 2) := by decide +kernel
theorem dX7_faults_79 : decode cX7_faults 79 = .ok (.iload 8, 2) := by decide +kernel
theorem dX7_faults_81 : decode cX7_faults 81 = .ok (.aload_n 0, 1) := by decide +kernel
theorem dX7_faults_82 : decode cX7_faults 82 = .ok (.getfield 19, 3) := by decide +kernel
theorem dX7_faults_85 : decode cX7_faults 85 = .ok (.getfield 95, 3) := by decide +kernel
theorem dX7_faults_88 : decode cX7_faults 88 = .ok (.if_icmp .ge 67, 3) := by decide +kernel
theorem dX7_faults_91 : decode cX7_faults 91 = .ok (.iload 6, 2) := by decide +kernel
theorem dX7_faults_93 : decode cX7_faults 93 = .ok (.istore 9, 2) := by decide +kernel
theorem dX7_faults_95 : decode cX7_faults 95 = .ok (.iload 9, 2) := by decide +kernel
theorem dX7_faults_97 : decode cX7_faults 97 = .ok (.iload 7, 2) := by decide +kernel
theorem dX7_faults_99 : decode cX7_faults 99 = .ok (.if_icmp .gt 50, 3) := by decide +kernel
theorem dX7_faults_102 : decode cX7_faults 102 = .ok (.aload_n 0, 1) := by decide +kernel
theorem dX7_faults_103 : decode cX7_faults 103 = .ok (.iload_n 1, 1) := by decide +kernel
theorem dX7_faults_104 : decode cX7_faults 104 = .ok (.iload 8, 2) := by decide +kernel
theorem dX7_faults_106 : decode cX7_faults 106 = .ok (.iload 9, 2) := by decide +kernel
theorem dX7_faults_108 : decode cX7_faults 108 = .ok (.invokevirtual 379, 3) := by decide +kernel
theorem dX7_faults_111 : decode cX7_faults 111 = .ok (.ifCond .eq 32, 3) := by decide +kernel
theorem dX7_faults_114 : decode cX7_faults 114 = .ok (.iload_n 3, 1) := by decide +kernel
theorem dX7_faults_115 : decode cX7_faults 115 = .ok (.ifCond .ne 8, 3) := by decide +kernel
theorem dX7_faults_118 : decode cX7_faults 118 = .ok (.iload 8, 2) := by decide +kernel
theorem dX7_faults_120 : decode cX7_faults 120 = .ok (.goto 5, 3) := by decide +kernel
theorem dX7_faults_123 : decode cX7_faults 123 = .ok (.iload 4, 2) := by decide +kernel
theorem dX7_faults_125 : decode cX7_faults 125 = .ok (.istore 4, 2) := by decide +kernel
theorem dX7_faults_127 : decode cX7_faults 127 = .ok (.iload_n 3, 1) := by decide +kernel
theorem dX7_faults_128 : decode cX7_faults 128 = .ok (.ifCond .ne 8, 3) := by decide +kernel
theorem dX7_faults_131 : decode cX7_faults 131 = .ok (.iload 9, 2) := by decide +kernel
theorem dX7_faults_133 : decode cX7_faults 133 = .ok (.goto 5, 3) := by decide +kernel
theorem dX7_faults_136 : decode cX7_faults 136 = .ok (.iload 5, 2) := by decide +kernel
theorem dX7_faults_138 : decode cX7_faults 138 = .ok (.istore 5, 2) := by decide +kernel
theorem dX7_faults_140 : decode cX7_faults 140 = .ok (.iinc 3 1, 3) := by decide +kernel
theorem dX7_faults_143 : decode cX7_faults 143 = .ok (.iinc 9 1, 3) := by decide +kernel
theorem dX7_faults_146 : decode cX7_faults 146 = .ok (.goto (-51), 3) := by decide +kernel
theorem dX7_faults_149 : decode cX7_faults 149 = .ok (.iinc 8 1, 3) := by decide +kernel
theorem dX7_faults_152 : decode cX7_faults 152 = .ok (.goto (-73), 3) := by decide +kernel
theorem dX7_faults_155 : decode cX7_faults 155 = .ok (.iload_n 2, 1) := by decide +kernel
theorem dX7_faults_156 : decode cX7_faults 156 = .ok (.ifCond .ne 7, 3) := by decide +kernel
theorem dX7_faults_159 : decode cX7_faults 159 = .ok (.iload_n 3, 1) := by decide +kernel
theorem dX7_faults_160 : decode cX7_faults 160 = .ok (.goto 15, 3) := by decide +kernel
theorem dX7_faults_163 : decode cX7_faults 163 = .ok (.iload_n 2, 1) := by decide +kernel
theorem dX7_faults_164 : decode cX7_faults 164 = .ok (.iconst 1, 1) := by decide +kernel
theorem dX7_faults_165 : decode cX7_faults 165 = .ok (.if_icmp .ne 8, 3) := by decide +kernel
theorem dX7_faults_168 : decode cX7_faults 168 = .ok (.iload 4, 2) := by decide +kernel
theorem dX7_faults_170 : decode cX7_faults 170 = .ok (.goto 5, 3) := by decide +kernel
theorem dX7_faults_173 : decode cX7_faults 173 = .ok (.iload 5, 2) := by decide +kernel
theorem dX7_faults_175 : decode cX7_faults 175 = .ok (.ireturn, 1) := by decide +kernel
theorem dX7_explains_0 : decode cX7_explains 0 = .ok (.iload_n 1, 1) := by decide +kernel
theorem dX7_explains_1 : decode cX7_explains 1 = .ok (.ifCond .ne 16, 3) := by decide +kernel
theorem dX7_explains_4 : decode cX7_explains 4 = .ok (.aload_n 0, 1) := by decide +kernel
theorem dX7_explains_5 : decode cX7_explains 5 = .ok (.getfield 23, 3) := by decide +kernel
theorem dX7_explains_8 : decode cX7_explains 8 = .ok (.getfield 216, 3) := by decide +kernel
theorem dX7_explains_11 : decode cX7_explains 11 = .ok (.iload_n 2, 1) := by decide +kernel
theorem dX7_explains_12 : decode cX7_explains 12 = .ok (.iload_n 3, 1) := by decide +kernel
theorem dX7_explains_13 : decode cX7_explains 13 = .ok (.iastore, 1) := by decide +kernel
theorem dX7_explains_14 : decode cX7_explains 14 = .ok (.goto 43, 3) := by decide +kernel
theorem dX7_explains_17 : decode cX7_explains 17 = .ok (.iload_n 3, 1) := by decide +kernel
theorem dX7_explains_18 : decode cX7_explains 18 = .ok (.ifCond .eq 17, 3) := by decide +kernel
theorem dX7_explains_21 : decode cX7_explains 21 = .ok (.aload_n 0, 1) := by decide +kernel
theorem dX7_explains_22 : decode cX7_explains 22 = .ok (.getfield 19, 3) := by decide +kernel
theorem dX7_explains_25 : decode cX7_explains 25 = .ok (.iload_n 2, 1) := by decide +kernel
theorem dX7_explains_26 : decode cX7_explains 26 = .ok (.invokevirtual 219, 3) := by decide +kernel
theorem dX7_explains_29 : decode cX7_explains 29 = .ok (.iload_n 3, 1) := by decide +kernel
theorem dX7_explains_30 : decode cX7_explains 30 = .ok (.iadd, 1) := by decide +kernel
theorem dX7_explains_31 : decode cX7_explains 31 = .ok (.iconst 1, 1) := by decide +kernel
theorem dX7_explains_32 : decode cX7_explains 32 = .ok (.if_icmp .ge 5, 3) := by decide +kernel
theorem dX7_explains_35 : decode cX7_explains 35 = .ok (.iconst 0, 1) := by decide +kernel
theorem dX7_explains_36 : decode cX7_explains 36 = .ok (.ireturn, 1) := by decide +kernel
theorem dX7_explains_37 : decode cX7_explains 37 = .ok (.aload_n 0, 1) := by decide +kernel
theorem dX7_explains_38 : decode cX7_explains 38 = .ok (.getfield 23, 3) := by decide +kernel
theorem dX7_explains_41 : decode cX7_explains 41 = .ok (.getfield 211, 3) := by decide +kernel
theorem dX7_explains_44 : decode cX7_explains 44 = .ok (.iload_n 2, 1) := by decide +kernel
theorem dX7_explains_45 : decode cX7_explains 45 = .ok (.aload_n 0, 1) := by decide +kernel
theorem dX7_explains_46 : decode cX7_explains 46 = .ok (.getfield 19, 3) := by decide +kernel
theorem dX7_explains_49 : decode cX7_explains 49 = .ok (.getfield 211, 3) := by decide +kernel
theorem dX7_explains_52 : decode cX7_explains 52 = .ok (.iload_n 2, 1) := by decide +kernel
theorem dX7_explains_53 : decode cX7_explains 53 = .ok (.iaload, 1) := by decide +kernel
theorem dX7_explains_54 : decode cX7_explains 54 = .ok (.iload_n 3, 1) := by decide +kernel
theorem dX7_explains_55 : decode cX7_explains 55 = .ok (.iadd, 1) := by decide +kernel
theorem dX7_explains_56 : decode cX7_explains 56 = .ok (.iastore, 1) := by decide +kernel
theorem dX7_explains_57 : decode cX7_explains 57 = .ok (.aload_n 0, 1) := by decide +kernel
theorem dX7_explains_58 : decode cX7_explains 58 = .ok (.getfield 23, 3) := by decide +kernel
theorem dX7_explains_61 : decode cX7_explains 61 = .ok (.invokevirtual 382, 3) := by decide +kernel
theorem dX7_explains_64 : decode cX7_explains 64 = .ok (.istore 4, 2) := by decide +kernel
theorem dX7_explains_66 : decode cX7_explains 66 = .ok (.aload_n 0, 1) := by decide +kernel
theorem dX7_explains_67 : decode cX7_explains 67 = .ok (.getfield 23, 3) := by decide +kernel
theorem dX7_explains_70 : decode cX7_explains 70 = .ok (.getfield 216, 3) := by decide +kernel
theorem dX7_explains_73 : decode cX7_explains 73 = .ok (.iload_n 2, 1) := by decide +kernel
theorem dX7_explains_74 : decode cX7_explains 74 = .ok (.aload_n 0, 1) := by decide +kernel
theorem dX7_explains_75 : decode cX7_explains 75 = .ok (.getfield 19, 3) := by decide +kernel
theorem dX7_explains_78 : decode cX7_explains 78 = .ok (.getfield 216, 3) := by decide +kernel
theorem dX7_explains_81 : decode cX7_explains 81 = .ok (.iload_n 2, 1) := by decide +kernel
theorem dX7_explains_82 : decode cX7_explains 82 = .ok (.iaload, 1) := by decide +kernel
theorem dX7_explains_83 : decode cX7_explains 83 = .ok (.iastore, 1) := by decide +kernel
theorem dX7_explains_84 : decode cX7_explains 84 = .ok (.aload_n 0, 1) := by decide +kernel
theorem dX7_explains_85 : decode cX7_explains 85 = .ok (.getfield 23, 3) := by decide +kernel
theorem dX7_explains_88 : decode cX7_explains 88 = .ok (.getfield 211, 3) := by decide +kernel
theorem dX7_explains_91 : decode cX7_explains 91 = .ok (.iload_n 2, 1) := by decide +kernel
theorem dX7_explains_92 : decode cX7_explains 92 = .ok (.aload_n 0, 1) := by decide +kernel
theorem dX7_explains_93 : decode cX7_explains 93 = .ok (.getfield 19, 3) := by decide +kernel
theorem dX7_explains_96 : decode cX7_explains 96 = .ok (.getfield 211, 3) := by decide +kernel
theorem dX7_explains_99 : decode cX7_explains 99 = .ok (.iload_n 2, 1) := by decide +kernel
theorem dX7_explains_100 : decode cX7_explains 100 = .ok (.iaload, 1) := by decide +kernel
theorem dX7_explains_101 : decode cX7_explains 101 = .ok (.iastore, 1) := by decide +kernel
theorem dX7_explains_102 : decode cX7_explains 102 = .ok (.iload 4, 2) := by decide +kernel
theorem dX7_explains_104 : decode cX7_explains 104 = .ok (.ireturn, 1) := by decide +kernel
theorem dX7_keep_0 : decode cX7_keep 0 = .ok (.iload_n 1, 1) := by decide +kernel
theorem dX7_keep_1 : decode cX7_keep 1 = .ok (.iconst 0, 1) := by decide +kernel
theorem dX7_keep_2 : decode cX7_keep 2 = .ok (.iconst 2, 1) := by decide +kernel
theorem dX7_keep_3 : decode cX7_keep 3 = .ok (.invokestatic 225, 3) := by decide +kernel
theorem dX7_keep_6 : decode cX7_keep 6 = .ok (.ifCond .ne 5, 3) := by decide +kernel
theorem dX7_keep_9 : decode cX7_keep 9 = .ok (.iconst 0, 1) := by decide +kernel
theorem dX7_keep_10 : decode cX7_keep 10 = .ok (.ireturn, 1) := by decide +kernel
theorem dX7_keep_11 : decode cX7_keep 11 = .ok (.aload_n 0, 1) := by decide +kernel
theorem dX7_keep_12 : decode cX7_keep 12 = .ok (.getfield 26, 3) := by decide +kernel
theorem dX7_keep_15 : decode cX7_keep 15 = .ok (.iload_n 1, 1) := by decide +kernel
theorem dX7_keep_16 : decode cX7_keep 16 = .ok (.aaload, 1) := by decide +kernel
theorem dX7_keep_17 : decode cX7_keep 17 = .ok (.ifnonnull 16, 3) := by decide +kernel
theorem dX7_keep_20 : decode cX7_keep 20 = .ok (.aload_n 0, 1) := by decide +kernel
theorem dX7_keep_21 : decode cX7_keep 21 = .ok (.getfield 26, 3) := by decide +kernel
theorem dX7_keep_24 : decode cX7_keep 24 = .ok (.iload_n 1, 1) := by decide +kernel
theorem dX7_keep_25 : decode cX7_keep 25 = .ok (.new 16, 3) := by decide +kernel
theorem dX7_keep_28 : decode cX7_keep 28 = .ok (.dup, 1) := by decide +kernel
theorem dX7_keep_29 : decode cX7_keep 29 = .ok (.invokespecial 18, 3) := by decide +kernel
theorem dX7_keep_32 : decode cX7_keep 32 = .ok (.aastore, 1) := by decide +kernel
theorem dX7_keep_33 : decode cX7_keep 33 = .ok (.aload_n 0, 1) := by decide +kernel
theorem dX7_keep_34 : decode cX7_keep 34 = .ok (.getfield 26, 3) := by decide +kernel
theorem dX7_keep_37 : decode cX7_keep 37 = .ok (.iload_n 1, 1) := by decide +kernel
theorem dX7_keep_38 : decode cX7_keep 38 = .ok (.aaload, 1) := by decide +kernel
theorem dX7_keep_39 : decode cX7_keep 39 = .ok (.aload_n 0, 1) := by decide +kernel
theorem dX7_keep_40 : decode cX7_keep 40 = .ok (.getfield 19, 3) := by decide +kernel
theorem dX7_keep_43 : decode cX7_keep 43 = .ok (.invokevirtual 352, 3) := by decide +kernel
theorem dX7_keep_46 : decode cX7_keep 46 = .ok (.iconst 1, 1) := by decide +kernel
theorem dX7_keep_47 : decode cX7_keep 47 = .ok (.ireturn, 1) := by decide +kernel
theorem dX7_back_0 : decode cX7_back 0 = .ok (.aload_n 0, 1) := by decide +kernel
theorem dX7_back_1 : decode cX7_back 1 = .ok (.iload_n 1, 1) := by decide +kernel
theorem dX7_back_2 : decode cX7_back 2 = .ok (.invokevirtual 325, 3) := by decide +kernel
theorem dX7_back_5 : decode cX7_back 5 = .ok (.ifCond .ne 5, 3) := by decide +kernel
theorem dX7_back_8 : decode cX7_back 8 = .ok (.iconst 0, 1) := by decide +kernel
theorem dX7_back_9 : decode cX7_back 9 = .ok (.ireturn, 1) := by decide +kernel
theorem dX7_back_10 : decode cX7_back 10 = .ok (.aload_n 0, 1) := by decide +kernel
theorem dX7_back_11 : decode cX7_back 11 = .ok (.getfield 19, 3) := by decide +kernel
theorem dX7_back_14 : decode cX7_back 14 = .ok (.aload_n 0, 1) := by decide +kernel
theorem dX7_back_15 : decode cX7_back 15 = .ok (.getfield 26, 3) := by decide +kernel
theorem dX7_back_18 : decode cX7_back 18 = .ok (.iload_n 1, 1) := by decide +kernel
theorem dX7_back_19 : decode cX7_back 19 = .ok (.aaload, 1) := by decide +kernel
theorem dX7_back_20 : decode cX7_back 20 = .ok (.invokevirtual 352, 3) := by decide +kernel
theorem dX7_back_23 : decode cX7_back 23 = .ok (.aload_n 0, 1) := by decide +kernel
theorem dX7_back_24 : decode cX7_back 24 = .ok (.getfield 33, 3) := by decide +kernel
theorem dX7_back_27 : decode cX7_back 27 = .ok (.iconst 0, 1) := by decide +kernel
theorem dX7_back_28 : decode cX7_back 28 = .ok (.putfield 92, 3) := by decide +kernel
theorem dX7_back_31 : decode cX7_back 31 = .ok (.iconst 1, 1) := by decide +kernel
theorem dX7_back_32 : decode cX7_back 32 = .ok (.ireturn, 1) := by decide +kernel
theorem dX7_isKept_0 : decode cX7_isKept 0 = .ok (.iload_n 1, 1) := by decide +kernel
theorem dX7_isKept_1 : decode cX7_isKept 1 = .ok (.iconst 0, 1) := by decide +kernel
theorem dX7_isKept_2 : decode cX7_isKept 2 = .ok (.iconst 2, 1) := by decide +kernel
theorem dX7_isKept_3 : decode cX7_isKept 3 = .ok (.invokestatic 225, 3) := by decide +kernel
theorem dX7_isKept_6 : decode cX7_isKept 6 = .ok (.ifCond .eq 16, 3) := by decide +kernel
theorem dX7_isKept_9 : decode cX7_isKept 9 = .ok (.aload_n 0, 1) := by decide +kernel
theorem dX7_isKept_10 : decode cX7_isKept 10 = .ok (.getfield 26, 3) := by decide +kernel
theorem dX7_isKept_13 : decode cX7_isKept 13 = .ok (.iload_n 1, 1) := by decide +kernel
theorem dX7_isKept_14 : decode cX7_isKept 14 = .ok (.aaload, 1) := by decide +kernel
theorem dX7_isKept_15 : decode cX7_isKept 15 = .ok (.ifnull 7, 3) := by decide +kernel
theorem dX7_isKept_18 : decode cX7_isKept 18 = .ok (.iconst 1, 1) := by decide +kernel
theorem dX7_isKept_19 : decode cX7_isKept 19 = .ok (.goto 4, 3) := by decide +kernel
theorem dX7_isKept_22 : decode cX7_isKept 22 = .ok (.iconst 0, 1) := by decide +kernel
theorem dX7_isKept_23 : decode cX7_isKept 23 = .ok (.ireturn, 1) := by decide +kernel
theorem dX7_hasBit_0 : decode cX7_hasBit 0 = .ok (.iload_n 1, 1) := by decide +kernel
theorem dX7_hasBit_1 : decode cX7_hasBit 1 = .ok (.ifCond .lt 18, 3) := by decide +kernel
theorem dX7_hasBit_4 : decode cX7_hasBit 4 = .ok (.iload_n 1, 1) := by decide +kernel
theorem dX7_hasBit_5 : decode cX7_hasBit 5 = .ok (.aload_n 0, 1) := by decide +kernel
theorem dX7_hasBit_6 : decode cX7_hasBit 6 = .ok (.getfield 19, 3) := by decide +kernel
theorem dX7_hasBit_9 : decode cX7_hasBit 9 = .ok (.getfield 95, 3) := by decide +kernel
theorem dX7_hasBit_12 : decode cX7_hasBit 12 = .ok (.if_icmp .ge 7, 3) := by decide +kernel
theorem dX7_hasBit_15 : decode cX7_hasBit 15 = .ok (.iconst 1, 1) := by decide +kernel
theorem dX7_hasBit_16 : decode cX7_hasBit 16 = .ok (.goto 4, 3) := by decide +kernel
theorem dX7_hasBit_19 : decode cX7_hasBit 19 = .ok (.iconst 0, 1) := by decide +kernel
theorem dX7_hasBit_20 : decode cX7_hasBit 20 = .ok (.ireturn, 1) := by decide +kernel
theorem dX7_within_0 : decode cX7_within 0 = .ok (.iload_n 0, 1) := by decide +kernel
theorem dX7_within_1 : decode cX7_within 1 = .ok (.iload_n 1, 1) := by decide +kernel
theorem dX7_within_2 : decode cX7_within 2 = .ok (.if_icmp .lt 12, 3) := by decide +kernel
theorem dX7_within_5 : decode cX7_within 5 = .ok (.iload_n 0, 1) := by decide +kernel
theorem dX7_within_6 : decode cX7_within 6 = .ok (.iload_n 2, 1) := by decide +kernel
theorem dX7_within_7 : decode cX7_within 7 = .ok (.if_icmp .gt 7, 3) := by decide +kernel
theorem dX7_within_10 : decode cX7_within 10 = .ok (.iconst 1, 1) := by decide +kernel
theorem dX7_within_11 : decode cX7_within 11 = .ok (.goto 4, 3) := by decide +kernel
theorem dX7_within_14 : decode cX7_within 14 = .ok (.iconst 0, 1) := by decide +kernel
theorem dX7_within_15 : decode cX7_within 15 = .ok (.ireturn, 1) := by decide +kernel
theorem dX7_isNear_0 : decode cX7_isNear 0 = .ok (.iload_n 0, 1) := by decide +kernel
theorem dX7_isNear_1 : decode cX7_isNear 1 = .ok (.ldc 204, 2) := by decide +kernel
theorem dX7_isNear_3 : decode cX7_isNear 3 = .ok (.ldc_w 385, 3) := by decide +kernel
theorem dX7_isNear_6 : decode cX7_isNear 6 = .ok (.invokestatic 225, 3) := by decide +kernel
theorem dX7_isNear_9 : decode cX7_isNear 9 = .ok (.ireturn, 1) := by decide +kernel
theorem dX7_isSpan_0 : decode cX7_isSpan 0 = .ok (.iload_n 0, 1) := by decide +kernel
theorem dX7_isSpan_1 : decode cX7_isSpan 1 = .ok (.ldc 204, 2) := by decide +kernel
theorem dX7_isSpan_3 : decode cX7_isSpan 3 = .ok (.if_icmp .lt 35, 3) := by decide +kernel
theorem dX7_isSpan_6 : decode cX7_isSpan 6 = .ok (.iload_n 1, 1) := by decide +kernel
theorem dX7_isSpan_7 : decode cX7_isSpan 7 = .ok (.ldc_w 385, 3) := by decide +kernel
theorem dX7_isSpan_10 : decode cX7_isSpan 10 = .ok (.if_icmp .gt 28, 3) := by decide +kernel
theorem dX7_isSpan_13 : decode cX7_isSpan 13 = .ok (.iload_n 0, 1) := by decide +kernel
theorem dX7_isSpan_14 : decode cX7_isSpan 14 = .ok (.iload_n 1, 1) := by decide +kernel
theorem dX7_isSpan_15 : decode cX7_isSpan 15 = .ok (.if_icmp .gt 23, 3) := by decide +kernel
theorem dX7_isSpan_18 : decode cX7_isSpan 18 = .ok (.iload_n 2, 1) := by decide +kernel
theorem dX7_isSpan_19 : decode cX7_isSpan 19 = .ok (.iconst 1, 1) := by decide +kernel
theorem dX7_isSpan_20 : decode cX7_isSpan 20 = .ok (.if_icmp .lt 18, 3) := by decide +kernel
theorem dX7_isSpan_23 : decode cX7_isSpan 23 = .ok (.iload_n 1, 1) := by decide +kernel
theorem dX7_isSpan_24 : decode cX7_isSpan 24 = .ok (.iload_n 0, 1) := by decide +kernel
theorem dX7_isSpan_25 : decode cX7_isSpan 25 = .ok (.isub, 1) := by decide +kernel
theorem dX7_isSpan_26 : decode cX7_isSpan 26 = .ok (.iload_n 2, 1) := by decide +kernel
theorem dX7_isSpan_27 : decode cX7_isSpan 27 = .ok (.idiv, 1) := by decide +kernel
theorem dX7_isSpan_28 : decode cX7_isSpan 28 = .ok (.sipush 2000, 3) := by decide +kernel
theorem dX7_isSpan_31 : decode cX7_isSpan 31 = .ok (.if_icmp .ge 7, 3) := by decide +kernel
theorem dX7_isSpan_34 : decode cX7_isSpan 34 = .ok (.iconst 1, 1) := by decide +kernel
theorem dX7_isSpan_35 : decode cX7_isSpan 35 = .ok (.goto 4, 3) := by decide +kernel
theorem dX7_isSpan_38 : decode cX7_isSpan 38 = .ok (.iconst 0, 1) := by decide +kernel
theorem dX7_isSpan_39 : decode cX7_isSpan 39 = .ok (.ireturn, 1) := by decide +kernel
theorem dX7_nearest_0 : decode cX7_nearest 0 = .ok (.iload_n 2, 1) := by decide +kernel
theorem dX7_nearest_1 : decode cX7_nearest 1 = .ok (.iconst 1, 1) := by decide +kernel
theorem dX7_nearest_2 : decode cX7_nearest 2 = .ok (.if_icmp .ge 7, 3) := by decide +kernel
theorem dX7_nearest_5 : decode cX7_nearest 5 = .ok (.iconst 0, 1) := by decide +kernel
theorem dX7_nearest_6 : decode cX7_nearest 6 = .ok (.goto 19, 3) := by decide +kernel
theorem dX7_nearest_9 : decode cX7_nearest 9 = .ok (.lload_n 0, 1) := by decide +kernel
theorem dX7_nearest_10 : decode cX7_nearest 10 = .ok (.ldc2_w 386, 3) := by decide +kernel
theorem dX7_nearest_13 : decode cX7_nearest 13 = .ok (.lmul, 1) := by decide +kernel
theorem dX7_nearest_14 : decode cX7_nearest 14 = .ok (.iload_n 2, 1) := by decide +kernel
theorem dX7_nearest_15 : decode cX7_nearest 15 = .ok (.i2l, 1) := by decide +kernel
theorem dX7_nearest_16 : decode cX7_nearest 16 = .ok (.ladd, 1) := by decide +kernel
theorem dX7_nearest_17 : decode cX7_nearest 17 = .ok (.iload_n 2, 1) := by decide +kernel
theorem dX7_nearest_18 : decode cX7_nearest 18 = .ok (.i2l, 1) := by decide +kernel
theorem dX7_nearest_19 : decode cX7_nearest 19 = .ok (.ldc2_w 386, 3) := by decide +kernel
theorem dX7_nearest_22 : decode cX7_nearest 22 = .ok (.lmul, 1) := by decide +kernel
theorem dX7_nearest_23 : decode cX7_nearest 23 = .ok (.ldiv, 1) := by decide +kernel
theorem dX7_nearest_24 : decode cX7_nearest 24 = .ok (.l2i, 1) := by decide +kernel
theorem dX7_nearest_25 : decode cX7_nearest 25 = .ok (.ireturn, 1) := by decide +kernel
theorem dX8_isIn_0 : decode cX8_isIn 0 = .ok (.iload_n 0, 1) := by decide +kernel
theorem dX8_isIn_1 : decode cX8_isIn 1 = .ok (.iload_n 1, 1) := by decide +kernel
theorem dX8_isIn_2 : decode cX8_isIn 2 = .ok (.if_icmp .lt 12, 3) := by decide +kernel
theorem dX8_isIn_5 : decode cX8_isIn 5 = .ok (.iload_n 0, 1) := by decide +kernel
theorem dX8_isIn_6 : decode cX8_isIn 6 = .ok (.iload_n 2, 1) := by decide +kernel
theorem dX8_isIn_7 : decode cX8_isIn 7 = .ok (.if_icmp .gt 7, 3) := by decide +kernel
theorem dX8_isIn_10 : decode cX8_isIn 10 = .ok (.iconst 1, 1) := by decide +kernel
theorem dX8_isIn_11 : decode cX8_isIn 11 = .ok (.goto 4, 3) := by decide +kernel
theorem dX8_isIn_14 : decode cX8_isIn 14 = .ok (.iconst 0, 1) := by decide +kernel
theorem dX8_isIn_15 : decode cX8_isIn 15 = .ok (.ireturn, 1) := by decide +kernel
theorem dX8_get_0 : decode cX8_get 0 = .ok (.aload_n 0, 1) := by decide +kernel
theorem dX8_get_1 : decode cX8_get 1 = .ok (.getfield 1, 3) := by decide +kernel
theorem dX8_get_4 : decode cX8_get 4 = .ok (.aload_n 0, 1) := by decide +kernel
theorem dX8_get_5 : decode cX8_get 5 = .ok (.getfield 7, 3) := by decide +kernel
theorem dX8_get_8 : decode cX8_get 8 = .ok (.iload_n 1, 1) := by decide +kernel
theorem dX8_get_9 : decode cX8_get 9 = .ok (.iadd, 1) := by decide +kernel
theorem dX8_get_10 : decode cX8_get 10 = .ok (.iaload, 1) := by decide +kernel
theorem dX8_get_11 : decode cX8_get 11 = .ok (.ireturn, 1) := by decide +kernel
theorem dX8_put_0 : decode cX8_put 0 = .ok (.aload_n 0, 1) := by decide +kernel
theorem dX8_put_1 : decode cX8_put 1 = .ok (.getfield 1, 3) := by decide +kernel
theorem dX8_put_4 : decode cX8_put 4 = .ok (.aload_n 0, 1) := by decide +kernel
theorem dX8_put_5 : decode cX8_put 5 = .ok (.getfield 7, 3) := by decide +kernel
theorem dX8_put_8 : decode cX8_put 8 = .ok (.iload_n 1, 1) := by decide +kernel
theorem dX8_put_9 : decode cX8_put 9 = .ok (.iadd, 1) := by decide +kernel
theorem dX8_put_10 : decode cX8_put 10 = .ok (.iload_n 2, 1) := by decide +kernel
theorem dX8_put_11 : decode cX8_put 11 = .ok (.iastore, 1) := by decide +kernel
theorem dX8_put_12 : decode cX8_put 12 = .ok (.return_, 1) := by decide +kernel
theorem dX8_copyRow_0 : decode cX8_copyRow 0 = .ok (.iconst 0, 1) := by decide +kernel
theorem dX8_copyRow_1 : decode cX8_copyRow 1 = .ok (.istore_n 3, 1) := by decide +kernel
theorem dX8_copyRow_2 : decode cX8_copyRow 2 = .ok (.iload_n 3, 1) := by decide +kernel
theorem dX8_copyRow_3 : decode cX8_copyRow 3 = .ok (.sipush 160, 3) := by decide +kernel
theorem dX8_copyRow_6 : decode cX8_copyRow 6 = .ok (.if_icmp .ge 33, 3) := by decide +kernel
theorem dX8_copyRow_9 : decode cX8_copyRow 9 = .ok (.aload_n 0, 1) := by decide +kernel
theorem dX8_copyRow_10 : decode cX8_copyRow 10 = .ok (.getfield 1, 3) := by decide +kernel
theorem dX8_copyRow_13 : decode cX8_copyRow 13 = .ok (.sipush 160, 3) := by decide +kernel
theorem dX8_copyRow_16 : decode cX8_copyRow 16 = .ok (.iload_n 2, 1) := by decide +kernel
theorem dX8_copyRow_17 : decode cX8_copyRow 17 = .ok (.imul, 1) := by decide +kernel
theorem dX8_copyRow_18 : decode cX8_copyRow 18 = .ok (.iload_n 3, 1) := by decide +kernel
theorem dX8_copyRow_19 : decode cX8_copyRow 19 = .ok (.iadd, 1) := by decide +kernel
theorem dX8_copyRow_20 : decode cX8_copyRow 20 = .ok (.aload_n 0, 1) := by decide +kernel
theorem dX8_copyRow_21 : decode cX8_copyRow 21 = .ok (.getfield 1, 3) := by decide +kernel
theorem dX8_copyRow_24 : decode cX8_copyRow 24 = .ok (.sipush 160, 3) := by decide +kernel
theorem dX8_copyRow_27 : decode cX8_copyRow 27 = .ok (.iload_n 1, 1) := by decide +kernel
theorem dX8_copyRow_28 : decode cX8_copyRow 28 = .ok (.imul, 1) := by decide +kernel
theorem dX8_copyRow_29 : decode cX8_copyRow 29 = .ok (.iload_n 3, 1) := by decide +kernel
theorem dX8_copyRow_30 : decode cX8_copyRow 30 = .ok (.iadd, 1) := by decide +kernel
theorem dX8_copyRow_31 : decode cX8_copyRow 31 = .ok (.iaload, 1) := by decide +kernel
theorem dX8_copyRow_32 : decode cX8_copyRow 32 = .ok (.iastore, 1) := by decide +kernel
theorem dX8_copyRow_33 : decode cX8_copyRow 33 = .ok (.iinc 3 1, 3) := by decide +kernel
theorem dX8_copyRow_36 : decode cX8_copyRow 36 = .ok (.goto (-34), 3) := by decide +kernel
theorem dX8_copyRow_39 : decode cX8_copyRow 39 = .ok (.return_, 1) := by decide +kernel
theorem dX8_goAside_0 : decode cX8_goAside 0 = .ok (.aload_n 0, 1) := by decide +kernel
theorem dX8_goAside_1 : decode cX8_goAside 1 = .ok (.iconst 0, 1) := by decide +kernel
theorem dX8_goAside_2 : decode cX8_goAside 2 = .ok (.iconst 4, 1) := by decide +kernel
theorem dX8_goAside_3 : decode cX8_goAside 3 = .ok (.invokevirtual 11, 3) := by decide +kernel
theorem dX8_goAside_6 : decode cX8_goAside 6 = .ok (.aload_n 0, 1) := by decide +kernel
theorem dX8_goAside_7 : decode cX8_goAside 7 = .ok (.sipush 640, 3) := by decide +kernel
theorem dX8_goAside_10 : decode cX8_goAside 10 = .ok (.putfield 7, 3) := by decide +kernel
theorem dX8_goAside_13 : decode cX8_goAside 13 = .ok (.return_, 1) := by decide +kernel
theorem dX8_comeBack_0 : decode cX8_comeBack 0 = .ok (.aload_n 0, 1) := by decide +kernel
theorem dX8_comeBack_1 : decode cX8_comeBack 1 = .ok (.iconst 0, 1) := by decide +kernel
theorem dX8_comeBack_2 : decode cX8_comeBack 2 = .ok (.putfield 7, 3) := by decide +kernel
theorem dX8_comeBack_5 : decode cX8_comeBack 5 = .ok (.return_, 1) := by decide +kernel
theorem dX8_init_0 : decode cX8_init 0 = .ok (.aload_n 0, 1) := by decide +kernel
theorem dX8_init_1 : decode cX8_init 1 = .ok (.invokespecial 15, 3) := by decide +kernel
theorem dX8_init_4 : decode cX8_init 4 = .ok (.aload_n 0, 1) := by decide +kernel
theorem dX8_init_5 : decode cX8_init 5 = .ok (.sipush 800, 3) := by decide +kernel
theorem dX8_init_8 : decode cX8_init 8 = .ok (.newarray .int, 2) := by decide +kernel
theorem dX8_init_10 : decode cX8_init 10 = .ok (.putfield 1, 3) := by decide +kernel
theorem dX8_init_13 : decode cX8_init 13 = .ok (.aload_n 0, 1) := by decide +kernel
theorem dX8_init_14 : decode cX8_init 14 = .ok (.sipush 400, 3) := by decide +kernel
theorem dX8_init_17 : decode cX8_init 17 = .ok (.newarray .byte, 2) := by decide +kernel
theorem dX8_init_19 : decode cX8_init 19 = .ok (.putfield 21, 3) := by decide +kernel
theorem dX8_init_22 : decode cX8_init 22 = .ok (.aload_n 0, 1) := by decide +kernel
theorem dX8_init_23 : decode cX8_init 23 = .ok (.iconst (-1), 1) := by decide +kernel
theorem dX8_init_24 : decode cX8_init 24 = .ok (.putfield 25, 3) := by decide +kernel
theorem dX8_init_27 : decode cX8_init 27 = .ok (.aload_n 0, 1) := by decide +kernel
theorem dX8_init_28 : decode cX8_init 28 = .ok (.iconst 5, 1) := by decide +kernel
theorem dX8_init_29 : decode cX8_init 29 = .ok (.newarray .int, 2) := by decide +kernel
theorem dX8_init_31 : decode cX8_init 31 = .ok (.dup, 1) := by decide +kernel
theorem dX8_init_32 : decode cX8_init 32 = .ok (.iconst 0, 1) := by decide +kernel
theorem dX8_init_33 : decode cX8_init 33 = .ok (.bipush (-99), 2) := by decide +kernel
theorem dX8_init_35 : decode cX8_init 35 = .ok (.iastore, 1) := by decide +kernel
theorem dX8_init_36 : decode cX8_init 36 = .ok (.dup, 1) := by decide +kernel
theorem dX8_init_37 : decode cX8_init 37 = .ok (.iconst 1, 1) := by decide +kernel
theorem dX8_init_38 : decode cX8_init 38 = .ok (.iconst 0, 1) := by decide +kernel
theorem dX8_init_39 : decode cX8_init 39 = .ok (.iastore, 1) := by decide +kernel
theorem dX8_init_40 : decode cX8_init 40 = .ok (.dup, 1) := by decide +kernel
theorem dX8_init_41 : decode cX8_init 41 = .ok (.iconst 2, 1) := by decide +kernel
theorem dX8_init_42 : decode cX8_init 42 = .ok (.iconst 0, 1) := by decide +kernel
theorem dX8_init_43 : decode cX8_init 43 = .ok (.iastore, 1) := by decide +kernel
theorem dX8_init_44 : decode cX8_init 44 = .ok (.dup, 1) := by decide +kernel
theorem dX8_init_45 : decode cX8_init 45 = .ok (.iconst 3, 1) := by decide +kernel
theorem dX8_init_46 : decode cX8_init 46 = .ok (.iconst 0, 1) := by decide +kernel
theorem dX8_init_47 : decode cX8_init 47 = .ok (.iastore, 1) := by decide +kernel
theorem dX8_init_48 : decode cX8_init 48 = .ok (.dup, 1) := by decide +kernel
theorem dX8_init_49 : decode cX8_init 49 = .ok (.iconst 4, 1) := by decide +kernel
theorem dX8_init_50 : decode cX8_init 50 = .ok (.iconst 1, 1) := by decide +kernel
theorem dX8_init_51 : decode cX8_init 51 = .ok (.iastore, 1) := by decide +kernel
theorem dX8_init_52 : decode cX8_init 52 = .ok (.putfield 28, 3) := by decide +kernel
theorem dX8_init_55 : decode cX8_init 55 = .ok (.aload_n 0, 1) := by decide +kernel
theorem dX8_init_56 : decode cX8_init 56 = .ok (.iconst 5, 1) := by decide +kernel
theorem dX8_init_57 : decode cX8_init 57 = .ok (.newarray .int, 2) := by decide +kernel
theorem dX8_init_59 : decode cX8_init 59 = .ok (.dup, 1) := by decide +kernel
theorem dX8_init_60 : decode cX8_init 60 = .ok (.iconst 0, 1) := by decide +kernel
theorem dX8_init_61 : decode cX8_init 61 = .ok (.bipush 99, 2) := by decide +kernel
theorem dX8_init_63 : decode cX8_init 63 = .ok (.iastore, 1) := by decide +kernel
theorem dX8_init_64 : decode cX8_init 64 = .ok (.dup, 1) := by decide +kernel
theorem dX8_init_65 : decode cX8_init 65 = .ok (.iconst 1, 1) := by decide +kernel
theorem dX8_init_66 : decode cX8_init 66 = .ok (.bipush 50, 2) := by decide +kernel
theorem dX8_init_68 : decode cX8_init 68 = .ok (.iastore, 1) := by decide +kernel
theorem dX8_init_69 : decode cX8_init 69 = .ok (.dup, 1) := by decide +kernel
theorem dX8_init_70 : decode cX8_init 70 = .ok (.iconst 2, 1) := by decide +kernel
theorem dX8_init_71 : decode cX8_init 71 = .ok (.iconst 3, 1) := by decide +kernel
theorem dX8_init_72 : decode cX8_init 72 = .ok (.iastore, 1) := by decide +kernel
theorem dX8_init_73 : decode cX8_init 73 = .ok (.dup, 1) := by decide +kernel
theorem dX8_init_74 : decode cX8_init 74 = .ok (.iconst 3, 1) := by decide +kernel
theorem dX8_init_75 : decode cX8_init 75 = .ok (.bipush 20, 2) := by decide +kernel
theorem dX8_init_77 : decode cX8_init 77 = .ok (.iastore, 1) := by decide +kernel
theorem dX8_init_78 : decode cX8_init 78 = .ok (.dup, 1) := by decide +kernel
theorem dX8_init_79 : decode cX8_init 79 = .ok (.iconst 4, 1) := by decide +kernel
theorem dX8_init_80 : decode cX8_init 80 = .ok (.bipush 64, 2) := by decide +kernel
theorem dX8_init_82 : decode cX8_init 82 = .ok (.iastore, 1) := by decide +kernel
theorem dX8_init_83 : decode cX8_init 83 = .ok (.putfield 31, 3) := by decide +kernel
theorem dX8_init_86 : decode cX8_init 86 = .ok (.aload_n 0, 1) := by decide +kernel
theorem dX8_init_87 : decode cX8_init 87 = .ok (.bipush 12, 2) := by decide +kernel
theorem dX8_init_89 : decode cX8_init 89 = .ok (.newarray .int, 2) := by decide +kernel
theorem dX8_init_91 : decode cX8_init 91 = .ok (.putfield 34, 3) := by decide +kernel
theorem dX8_init_94 : decode cX8_init 94 = .ok (.aload_n 0, 1) := by decide +kernel
theorem dX8_init_95 : decode cX8_init 95 = .ok (.bipush 12, 2) := by decide +kernel
theorem dX8_init_97 : decode cX8_init 97 = .ok (.newarray .int, 2) := by decide +kernel
theorem dX8_init_99 : decode cX8_init 99 = .ok (.putfield 37, 3) := by decide +kernel
theorem dX8_init_102 : decode cX8_init 102 = .ok (.aload_n 0, 1) := by decide +kernel
theorem dX8_init_103 : decode cX8_init 103 = .ok (.iconst 5, 1) := by decide +kernel
theorem dX8_init_104 : decode cX8_init 104 = .ok (.newarray .int, 2) := by decide +kernel
theorem dX8_init_106 : decode cX8_init 106 = .ok (.putfield 40, 3) := by decide +kernel
theorem dX8_init_109 : decode cX8_init 109 = .ok (.aload_n 0, 1) := by decide +kernel
theorem dX8_init_110 : decode cX8_init 110 = .ok (.bipush 84, 2) := by decide +kernel
theorem dX8_init_112 : decode cX8_init 112 = .ok (.newarray .int, 2) := by decide +kernel
theorem dX8_init_114 : decode cX8_init 114 = .ok (.putfield 43, 3) := by decide +kernel
theorem dX8_init_117 : decode cX8_init 117 = .ok (.aload_n 0, 1) := by decide +kernel
theorem dX8_init_118 : decode cX8_init 118 = .ok (.bipush 10, 2) := by decide +kernel
theorem dX8_init_120 : decode cX8_init 120 = .ok (.newarray .int, 2) := by decide +kernel
theorem dX8_init_122 : decode cX8_init 122 = .ok (.putfield 46, 3) := by decide +kernel
theorem dX8_init_125 : decode cX8_init 125 = .ok (.aload_n 0, 1) := by decide +kernel
theorem dX8_init_126 : decode cX8_init 126 = .ok (.bipush 10, 2) := by decide +kernel
theorem dX8_init_128 : decode cX8_init 128 = .ok (.newarray .int, 2) := by decide +kernel
theorem dX8_init_130 : decode cX8_init 130 = .ok (.putfield 49, 3) := by decide +kernel
theorem dX8_init_133 : decode cX8_init 133 = .ok (.aload_n 0, 1) := by decide +kernel
theorem dX8_init_134 : decode cX8_init 134 = .ok (.bipush 10, 2) := by decide +kernel
theorem dX8_init_136 : decode cX8_init 136 = .ok (.newarray .int, 2) := by decide +kernel
theorem dX8_init_138 : decode cX8_init 138 = .ok (.putfield 52, 3) := by decide +kernel
theorem dX8_init_141 : decode cX8_init 141 = .ok (.aload_n 0, 1) := by decide +kernel
theorem dX8_init_142 : decode cX8_init 142 = .ok (.bipush 10, 2) := by decide +kernel
theorem dX8_init_144 : decode cX8_init 144 = .ok (.newarray .int, 2) := by decide +kernel
theorem dX8_init_146 : decode cX8_init 146 = .ok (.putfield 55, 3) := by decide +kernel
theorem dX8_init_149 : decode cX8_init 149 = .ok (.aload_n 0, 1) := by decide +kernel
theorem dX8_init_150 : decode cX8_init 150 = .ok (.bipush 10, 2) := by decide +kernel
theorem dX8_init_152 : decode cX8_init 152 = .ok (.newarray .int, 2) := by decide +kernel
theorem dX8_init_154 : decode cX8_init 154 = .ok (.putfield 58, 3) := by decide +kernel
theorem dX8_init_157 : decode cX8_init 157 = .ok (.aload_n 0, 1) := by decide +kernel
theorem dX8_init_158 : decode cX8_init 158 = .ok (.bipush 90, 2) := by decide +kernel
theorem dX8_init_160 : decode cX8_init 160 = .ok (.newarray .int, 2) := by decide +kernel
theorem dX8_init_162 : decode cX8_init 162 = .ok (.putfield 61, 3) := by decide +kernel
theorem dX8_init_165 : decode cX8_init 165 = .ok (.aload_n 0, 1) := by decide +kernel
theorem dX8_init_166 : decode cX8_init 166 = .ok (.bipush 12, 2) := by decide +kernel
theorem dX8_init_168 : decode cX8_init 168 = .ok (.newarray .int, 2) := by decide +kernel
theorem dX8_init_170 : decode cX8_init 170 = .ok (.putfield 64, 3) := by decide +kernel
theorem dX8_init_173 : decode cX8_init 173 = .ok (.aload_n 0, 1) := by decide +kernel
theorem dX8_init_174 : decode cX8_init 174 = .ok (.bipush 12, 2) := by decide +kernel
theorem dX8_init_176 : decode cX8_init 176 = .ok (.newarray .int, 2) := by decide +kernel
theorem dX8_init_178 : decode cX8_init 178 = .ok (.putfield 67, 3) := by decide +kernel
theorem dX8_init_181 : decode cX8_init 181 = .ok (.aload_n 0, 1) := by decide +kernel
theorem dX8_init_182 : decode cX8_init 182 = .ok (.bipush 12, 2) := by decide +kernel
theorem dX8_init_184 : decode cX8_init 184 = .ok (.newarray .boolean, 2) := by decide +kernel
theorem dX8_init_186 : decode cX8_init 186 = .ok (.putfield 70, 3) := by decide +kernel
theorem dX8_init_189 : decode cX8_init 189 = .ok (.aload_n 0, 1) := by decide +kernel
theorem dX8_init_190 : decode cX8_init 190 = .ok (.bipush 12, 2) := by decide +kernel
theorem dX8_init_192 : decode cX8_init 192 = .ok (.newarray .int, 2) := by decide +kernel
theorem dX8_init_194 : decode cX8_init 194 = .ok (.putfield 74, 3) := by decide +kernel
theorem dX8_init_197 : decode cX8_init 197 = .ok (.aload_n 0, 1) := by decide +kernel
theorem dX8_init_198 : decode cX8_init 198 = .ok (.bipush 12, 2) := by decide +kernel
theorem dX8_init_200 : decode cX8_init 200 = .ok (.newarray .int, 2) := by decide +kernel
theorem dX8_init_202 : decode cX8_init 202 = .ok (.putfield 77, 3) := by decide +kernel
theorem dX8_init_205 : decode cX8_init 205 = .ok (.aload_n 0, 1) := by decide +kernel
theorem dX8_init_206 : decode cX8_init 206 = .ok (.iconst (-1), 1) := by decide +kernel
theorem dX8_init_207 : decode cX8_init 207 = .ok (.putfield 80, 3) := by decide +kernel
theorem dX8_init_210 : decode cX8_init 210 = .ok (.aload_n 0, 1) := by decide +kernel
theorem dX8_init_211 : decode cX8_init 211 = .ok (.bipush 48, 2) := by decide +kernel
theorem dX8_init_213 : decode cX8_init 213 = .ok (.newarray .int, 2) := by decide +kernel
theorem dX8_init_215 : decode cX8_init 215 = .ok (.putfield 83, 3) := by decide +kernel
theorem dX8_init_218 : decode cX8_init 218 = .ok (.aload_n 0, 1) := by decide +kernel
theorem dX8_init_219 : decode cX8_init 219 = .ok (.bipush 12, 2) := by decide +kernel
theorem dX8_init_221 : decode cX8_init 221 = .ok (.newarray .byte, 2) := by decide +kernel
theorem dX8_init_223 : decode cX8_init 223 = .ok (.putfield 86, 3) := by decide +kernel
theorem dX8_init_226 : decode cX8_init 226 = .ok (.aload_n 0, 1) := by decide +kernel
theorem dX8_init_227 : decode cX8_init 227 = .ok (.sipush 2000, 3) := by decide +kernel
theorem dX8_init_230 : decode cX8_init 230 = .ok (.newarray .int, 2) := by decide +kernel
theorem dX8_init_232 : decode cX8_init 232 = .ok (.putfield 89, 3) := by decide +kernel
theorem dX8_init_235 : decode cX8_init 235 = .ok (.aload_n 0, 1) := by decide +kernel
theorem dX8_init_236 : decode cX8_init 236 = .ok (.sipush 2000, 3) := by decide +kernel
theorem dX8_init_239 : decode cX8_init 239 = .ok (.newarray .int, 2) := by decide +kernel
theorem dX8_init_241 : decode cX8_init 241 = .ok (.putfield 92, 3) := by decide +kernel
theorem dX8_init_244 : decode cX8_init 244 = .ok (.aload_n 0, 1) := by decide +kernel
theorem dX8_init_245 : decode cX8_init 245 = .ok (.bipush 12, 2) := by decide +kernel
theorem dX8_init_247 : decode cX8_init 247 = .ok (.newarray .int, 2) := by decide +kernel
theorem dX8_init_249 : decode cX8_init 249 = .ok (.putfield 95, 3) := by decide +kernel
theorem dX8_init_252 : decode cX8_init 252 = .ok (.aload_n 0, 1) := by decide +kernel
theorem dX8_init_253 : decode cX8_init 253 = .ok (.sipush 20001, 3) := by decide +kernel
theorem dX8_init_256 : decode cX8_init 256 = .ok (.newarray .int, 2) := by decide +kernel
theorem dX8_init_258 : decode cX8_init 258 = .ok (.putfield 98, 3) := by decide +kernel
theorem dX8_init_261 : decode cX8_init 261 = .ok (.aload_n 0, 1) := by decide +kernel
theorem dX8_init_262 : decode cX8_init 262 = .ok (.iconst 3, 1) := by decide +kernel
theorem dX8_init_263 : decode cX8_init 263 = .ok (.newarray .boolean, 2) := by decide +kernel
theorem dX8_init_265 : decode cX8_init 265 = .ok (.putfield 101, 3) := by decide +kernel
theorem dX8_init_268 : decode cX8_init 268 = .ok (.aload_n 0, 1) := by decide +kernel
theorem dX8_init_269 : decode cX8_init 269 = .ok (.bipush 40, 2) := by decide +kernel
theorem dX8_init_271 : decode cX8_init 271 = .ok (.newarray .int, 2) := by decide +kernel
theorem dX8_init_273 : decode cX8_init 273 = .ok (.putfield 104, 3) := by decide +kernel
theorem dX8_init_276 : decode cX8_init 276 = .ok (.aload_n 0, 1) := by decide +kernel
theorem dX8_init_277 : decode cX8_init 277 = .ok (.bipush 40, 2) := by decide +kernel
theorem dX8_init_279 : decode cX8_init 279 = .ok (.newarray .int, 2) := by decide +kernel
theorem dX8_init_281 : decode cX8_init 281 = .ok (.putfield 107, 3) := by decide +kernel
theorem dX8_init_284 : decode cX8_init 284 = .ok (.aload_n 0, 1) := by decide +kernel
theorem dX8_init_285 : decode cX8_init 285 = .ok (.bipush 40, 2) := by decide +kernel
theorem dX8_init_287 : decode cX8_init 287 = .ok (.newarray .int, 2) := by decide +kernel
theorem dX8_init_289 : decode cX8_init 289 = .ok (.putfield 110, 3) := by decide +kernel
theorem dX8_init_292 : decode cX8_init 292 = .ok (.aload_n 0, 1) := by decide +kernel
theorem dX8_init_293 : decode cX8_init 293 = .ok (.bipush 40, 2) := by decide +kernel
theorem dX8_init_295 : decode cX8_init 295 = .ok (.newarray .int, 2) := by decide +kernel
theorem dX8_init_297 : decode cX8_init 297 = .ok (.putfield 113, 3) := by decide +kernel
theorem dX8_init_300 : decode cX8_init 300 = .ok (.aload_n 0, 1) := by decide +kernel
theorem dX8_init_301 : decode cX8_init 301 = .ok (.iconst (-1), 1) := by decide +kernel
theorem dX8_init_302 : decode cX8_init 302 = .ok (.putfield 116, 3) := by decide +kernel
theorem dX8_init_305 : decode cX8_init 305 = .ok (.aload_n 0, 1) := by decide +kernel
theorem dX8_init_306 : decode cX8_init 306 = .ok (.iconst 3, 1) := by decide +kernel
theorem dX8_init_307 : decode cX8_init 307 = .ok (.iconst 3, 1) := by decide +kernel
theorem dX8_init_308 : decode cX8_init 308 = .ok (.invokevirtual 119, 3) := by decide +kernel
theorem dX8_init_311 : decode cX8_init 311 = .ok (.aload_n 0, 1) := by decide +kernel
theorem dX8_init_312 : decode cX8_init 312 = .ok (.iconst 5, 1) := by decide +kernel
theorem dX8_init_313 : decode cX8_init 313 = .ok (.iconst 1, 1) := by decide +kernel
theorem dX8_init_314 : decode cX8_init 314 = .ok (.invokevirtual 119, 3) := by decide +kernel
theorem dX8_init_317 : decode cX8_init 317 = .ok (.aload_n 0, 1) := by decide +kernel
theorem dX8_init_318 : decode cX8_init 318 = .ok (.bipush 6, 2) := by decide +kernel
theorem dX8_init_320 : decode cX8_init 320 = .ok (.iconst 1, 1) := by decide +kernel
theorem dX8_init_321 : decode cX8_init 321 = .ok (.invokevirtual 119, 3) := by decide +kernel
theorem dX8_init_324 : decode cX8_init 324 = .ok (.return_, 1) := by decide +kernel
theorem dX8_four_0 : decode cX8_four 0 = .ok (.bipush 24, 2) := by decide +kernel
theorem dX8_four_2 : decode cX8_four 2 = .ok (.istore_n 2, 1) := by decide +kernel
theorem dX8_four_3 : decode cX8_four 3 = .ok (.iload_n 2, 1) := by decide +kernel
theorem dX8_four_4 : decode cX8_four 4 = .ok (.ifCond .lt 32, 3) := by decide +kernel
theorem dX8_four_7 : decode cX8_four 7 = .ok (.aload_n 0, 1) := by decide +kernel
theorem dX8_four_8 : decode cX8_four 8 = .ok (.getfield 21, 3) := by decide +kernel
theorem dX8_four_11 : decode cX8_four 11 = .ok (.aload_n 0, 1) := by decide +kernel
theorem dX8_four_12 : decode cX8_four 12 = .ok (.getfield 122, 3) := by decide +kernel
theorem dX8_four_15 : decode cX8_four 15 = .ok (.iload_n 1, 1) := by decide +kernel
theorem dX8_four_16 : decode cX8_four 16 = .ok (.iload_n 2, 1) := by decide +kernel
theorem dX8_four_17 : decode cX8_four 17 = .ok (.ishr, 1) := by decide +kernel
theorem dX8_four_18 : decode cX8_four 18 = .ok (.i2b, 1) := by decide +kernel
theorem dX8_four_19 : decode cX8_four 19 = .ok (.bastore, 1) := by decide +kernel
theorem dX8_four_20 : decode cX8_four 20 = .ok (.aload_n 0, 1) := by decide +kernel
theorem dX8_four_21 : decode cX8_four 21 = .ok (.dup, 1) := by decide +kernel
theorem dX8_four_22 : decode cX8_four 22 = .ok (.getfield 122, 3) := by decide +kernel
theorem dX8_four_25 : decode cX8_four 25 = .ok (.iconst 1, 1) := by decide +kernel
theorem dX8_four_26 : decode cX8_four 26 = .ok (.iadd, 1) := by decide +kernel
theorem dX8_four_27 : decode cX8_four 27 = .ok (.putfield 122, 3) := by decide +kernel
theorem dX8_four_30 : decode cX8_four 30 = .ok (.iinc 2 (-8), 3) := by decide +kernel
theorem dX8_four_33 : decode cX8_four 33 = .ok (.goto (-30), 3) := by decide +kernel
theorem dX8_four_36 : decode cX8_four 36 = .ok (.return_, 1) := by decide +kernel
theorem dX8_feed_0 : decode cX8_feed 0 = .ok (.aload_n 0, 1) := by decide +kernel
theorem dX8_feed_1 : decode cX8_feed 1 = .ok (.getfield 122, 3) := by decide +kernel
theorem dX8_feed_4 : decode cX8_feed 4 = .ok (.bipush 20, 2) := by decide +kernel
theorem dX8_feed_6 : decode cX8_feed 6 = .ok (.iadd, 1) := by decide +kernel
theorem dX8_feed_7 : decode cX8_feed 7 = .ok (.sipush 400, 3) := by decide +kernel
theorem dX8_feed_10 : decode cX8_feed 10 = .ok (.if_icmp .le 5, 3) := by decide +kernel
theorem dX8_feed_13 : decode cX8_feed 13 = .ok (.iconst (-1), 1) := by decide +kernel
theorem dX8_feed_14 : decode cX8_feed 14 = .ok (.ireturn, 1) := by decide +kernel
theorem dX8_feed_15 : decode cX8_feed 15 = .ok (.aload_n 0, 1) := by decide +kernel
theorem dX8_feed_16 : decode cX8_feed 16 = .ok (.iload_n 1, 1) := by decide +kernel
theorem dX8_feed_17 : decode cX8_feed 17 = .ok (.invokevirtual 125, 3) := by decide +kernel
theorem dX8_feed_20 : decode cX8_feed 20 = .ok (.aload_n 0, 1) := by decide +kernel
theorem dX8_feed_21 : decode cX8_feed 21 = .ok (.iload_n 2, 1) := by decide +kernel
theorem dX8_feed_22 : decode cX8_feed 22 = .ok (.invokevirtual 125, 3) := by decide +kernel
theorem dX8_feed_25 : decode cX8_feed 25 = .ok (.aload_n 0, 1) := by decide +kernel
theorem dX8_feed_26 : decode cX8_feed 26 = .ok (.iload_n 3, 1) := by decide +kernel
theorem dX8_feed_27 : decode cX8_feed 27 = .ok (.invokevirtual 125, 3) := by decide +kernel
theorem dX8_feed_30 : decode cX8_feed 30 = .ok (.aload_n 0, 1) := by decide +kernel
theorem dX8_feed_31 : decode cX8_feed 31 = .ok (.iload 4, 2) := by decide +kernel
theorem dX8_feed_33 : decode cX8_feed 33 = .ok (.invokevirtual 125, 3) := by decide +kernel
theorem dX8_feed_36 : decode cX8_feed 36 = .ok (.aload_n 0, 1) := by decide +kernel
theorem dX8_feed_37 : decode cX8_feed 37 = .ok (.iload 5, 2) := by decide +kernel
theorem dX8_feed_39 : decode cX8_feed 39 = .ok (.invokevirtual 125, 3) := by decide +kernel
theorem dX8_feed_42 : decode cX8_feed 42 = .ok (.aload_n 0, 1) := by decide +kernel
theorem dX8_feed_43 : decode cX8_feed 43 = .ok (.getfield 122, 3) := by decide +kernel
theorem dX8_feed_46 : decode cX8_feed 46 = .ok (.ireturn, 1) := by decide +kernel
theorem dX8_end_0 : decode cX8_end 0 = .ok (.iload_n 1, 1) := by decide +kernel
theorem dX8_end_1 : decode cX8_end 1 = .ok (.iconst 0, 1) := by decide +kernel
theorem dX8_end_2 : decode cX8_end 2 = .ok (.aload_n 0, 1) := by decide +kernel
theorem dX8_end_3 : decode cX8_end 3 = .ok (.getfield 122, 3) := by decide +kernel
theorem dX8_end_6 : decode cX8_end 6 = .ok (.invokestatic 129, 3) := by decide +kernel
theorem dX8_end_9 : decode cX8_end 9 = .ok (.ifCond .ne 5, 3) := by decide +kernel
theorem dX8_end_12 : decode cX8_end 12 = .ok (.iconst (-1), 1) := by decide +kernel
theorem dX8_end_13 : decode cX8_end 13 = .ok (.ireturn, 1) := by decide +kernel
theorem dX8_end_14 : decode cX8_end 14 = .ok (.aload_n 0, 1) := by decide +kernel
theorem dX8_end_15 : decode cX8_end 15 = .ok (.iload_n 1, 1) := by decide +kernel
theorem dX8_end_16 : decode cX8_end 16 = .ok (.putfield 122, 3) := by decide +kernel
theorem dX8_end_19 : decode cX8_end 19 = .ok (.iload_n 1, 1) := by decide +kernel
theorem dX8_end_20 : decode cX8_end 20 = .ok (.ireturn, 1) := by decide +kernel
theorem dX8_here_0 : decode cX8_here 0 = .ok (.aload_n 0, 1) := by decide +kernel
theorem dX8_here_1 : decode cX8_here 1 = .ok (.getfield 133, 3) := by decide +kernel
theorem dX8_here_4 : decode cX8_here 4 = .ok (.aload_n 0, 1) := by decide +kernel
theorem dX8_here_5 : decode cX8_here 5 = .ok (.getfield 122, 3) := by decide +kernel
theorem dX8_here_8 : decode cX8_here 8 = .ok (.if_icmp .ge 19, 3) := by decide +kernel
theorem dX8_here_11 : decode cX8_here 11 = .ok (.aload_n 0, 1) := by decide +kernel
theorem dX8_here_12 : decode cX8_here 12 = .ok (.getfield 21, 3) := by decide +kernel
theorem dX8_here_15 : decode cX8_here 15 = .ok (.aload_n 0, 1) := by decide +kernel
theorem dX8_here_16 : decode cX8_here 16 = .ok (.getfield 133, 3) := by decide +kernel
theorem dX8_here_19 : decode cX8_here 19 = .ok (.baload, 1) := by decide +kernel
theorem dX8_here_20 : decode cX8_here 20 = .ok (.sipush 255, 3) := by decide +kernel
theorem dX8_here_23 : decode cX8_here 23 = .ok (.iand, 1) := by decide +kernel
theorem dX8_here_24 : decode cX8_here 24 = .ok (.goto 4, 3) := by decide +kernel
theorem dX8_here_27 : decode cX8_here 27 = .ok (.iconst (-1), 1) := by decide +kernel
theorem dX8_here_28 : decode cX8_here 28 = .ok (.ireturn, 1) := by decide +kernel
theorem dX8_isFigure_0 : decode cX8_isFigure 0 = .ok (.iload_n 0, 1) := by decide +kernel
theorem dX8_isFigure_1 : decode cX8_isFigure 1 = .ok (.bipush 48, 2) := by decide +kernel
theorem dX8_isFigure_3 : decode cX8_isFigure 3 = .ok (.if_icmp .lt 13, 3) := by decide +kernel
theorem dX8_isFigure_6 : decode cX8_isFigure 6 = .ok (.iload_n 0, 1) := by decide +kernel
theorem dX8_isFigure_7 : decode cX8_isFigure 7 = .ok (.bipush 57, 2) := by decide +kernel
theorem dX8_isFigure_9 : decode cX8_isFigure 9 = .ok (.if_icmp .gt 7, 3) := by decide +kernel
theorem dX8_isFigure_12 : decode cX8_isFigure 12 = .ok (.iconst 1, 1) := by decide +kernel
theorem dX8_isFigure_13 : decode cX8_isFigure 13 = .ok (.goto 4, 3) := by decide +kernel
theorem dX8_isFigure_16 : decode cX8_isFigure 16 = .ok (.iconst 0, 1) := by decide +kernel
theorem dX8_isFigure_17 : decode cX8_isFigure 17 = .ok (.ireturn, 1) := by decide +kernel
theorem dX8_fails_0 : decode cX8_fails 0 = .ok (.aload_n 0, 1) := by decide +kernel
theorem dX8_fails_1 : decode cX8_fails 1 = .ok (.iload_n 1, 1) := by decide +kernel
theorem dX8_fails_2 : decode cX8_fails 2 = .ok (.putfield 25, 3) := by decide +kernel
theorem dX8_fails_5 : decode cX8_fails 5 = .ok (.iconst 0, 1) := by decide +kernel
theorem dX8_fails_6 : decode cX8_fails 6 = .ok (.ireturn, 1) := by decide +kernel
theorem dX8_readDigits_0 : decode cX8_readDigits 0 = .ok (.aload_n 0, 1) := by decide +kernel
theorem dX8_readDigits_1 : decode cX8_readDigits 1 = .ok (.invokevirtual 136, 3) := by decide +kernel
theorem dX8_readDigits_4 : decode cX8_readDigits 4 = .ok (.invokestatic 140, 3) := by decide +kernel
theorem dX8_readDigits_7 : decode cX8_readDigits 7 = .ok (.ifCond .ne 12, 3) := by decide +kernel
theorem dX8_readDigits_10 : decode cX8_readDigits 10 = .ok (.aload_n 0, 1) := by decide +kernel
theorem dX8_readDigits_11 : decode cX8_readDigits 11 = .ok (.aload_n 0, 1) := by decide +kernel
theorem dX8_readDigits_12 : decode cX8_readDigits 12 = .ok (.getfield 133, 3) := by decide +kernel
theorem dX8_readDigits_15 : decode cX8_readDigits 15 = .ok (.invokevirtual 144, 3) := by decide +kernel
theorem dX8_readDigits_18 : decode cX8_readDigits 18 = .ok (.ireturn, 1) := by decide +kernel
theorem dX8_readDigits_19 : decode cX8_readDigits 19 = .ok (.aload_n 0, 1) := by decide +kernel
theorem dX8_readDigits_20 : decode cX8_readDigits 20 = .ok (.iconst 0, 1) := by decide +kernel
theorem dX8_readDigits_21 : decode cX8_readDigits 21 = .ok (.putfield 147, 3) := by decide +kernel
theorem dX8_readDigits_24 : decode cX8_readDigits 24 = .ok (.aload_n 0, 1) := by decide +kernel
theorem dX8_readDigits_25 : decode cX8_readDigits 25 = .ok (.getfield 133, 3) := by decide +kernel
theorem dX8_readDigits_28 : decode cX8_readDigits 28 = .ok (.istore_n 1, 1) := by decide +kernel
theorem dX8_readDigits_29 : decode cX8_readDigits 29 = .ok (.aload_n 0, 1) := by decide +kernel
theorem dX8_readDigits_30 : decode cX8_readDigits 30 = .ok (.invokevirtual 136, 3) := by decide +kernel
theorem dX8_readDigits_33 : decode cX8_readDigits 33 = .ok (.invokestatic 140, 3) := by decide +kernel
theorem dX8_readDigits_36 : decode cX8_readDigits 36 = .ok (.ifCond .eq 45, 3) := by decide +kernel
theorem dX8_readDigits_39 : decode cX8_readDigits 39 = .ok (.aload_n 0, 1) := by decide +kernel
theorem dX8_readDigits_40 : decode cX8_readDigits 40 = .ok (.getfield 133, 3) := by decide +kernel
theorem dX8_readDigits_43 : decode cX8_readDigits 43 = .ok (.iload_n 1, 1) := by decide +kernel
theorem dX8_readDigits_44 : decode cX8_readDigits 44 = .ok (.isub, 1) := by decide +kernel
theorem dX8_readDigits_45 : decode cX8_readDigits 45 = .ok (.iconst 4, 1) := by decide +kernel
theorem dX8_readDigits_46 : decode cX8_readDigits 46 = .ok (.if_icmp .ge 35, 3) := by decide +kernel
theorem dX8_readDigits_49 : decode cX8_readDigits 49 = .ok (.aload_n 0, 1) := by decide +kernel
theorem dX8_readDigits_50 : decode cX8_readDigits 50 = .ok (.bipush 10, 2) := by decide +kernel
theorem dX8_readDigits_52 : decode cX8_readDigits 52 = .ok (.aload_n 0, 1) := by decide +kernel
theorem dX8_readDigits_53 : decode cX8_readDigits 53 = .ok (.getfield 147, 3) := by decide +kernel
theorem dX8_readDigits_56 : decode cX8_readDigits 56 = .ok (.imul, 1) := by decide +kernel
theorem dX8_readDigits_57 : decode cX8_readDigits 57 = .ok (.aload_n 0, 1) := by decide +kernel
theorem dX8_readDigits_58 : decode cX8_readDigits 58 = .ok (.invokevirtual 136, 3) := by decide +kernel
theorem dX8_readDigits_61 : decode cX8_readDigits 61 = .ok (.iadd, 1) := by decide +kernel
theorem dX8_readDigits_62 : decode cX8_readDigits 62 = .ok (.bipush 48, 2) := by decide +kernel
theorem dX8_readDigits_64 : decode cX8_readDigits 64 = .ok (.isub, 1) := by decide +kernel
theorem dX8_readDigits_65 : decode cX8_readDigits 65 = .ok (.putfield 147, 3) := by decide +kernel
theorem dX8_readDigits_68 : decode cX8_readDigits 68 = .ok (.aload_n 0, 1) := by decide +kernel
theorem dX8_readDigits_69 : decode cX8_readDigits 69 = .ok (.dup, 1) := by decide +kernel
theorem dX8_readDigits_70 : decode cX8_readDigits 70 = .ok (.getfield 133, 3) := by decide +kernel
theorem dX8_readDigits_73 : decode cX8_readDigits 73 = .ok (.iconst 1, 1) := by decide +kernel
theorem dX8_readDigits_74 : decode cX8_readDigits 74 = .ok (.iadd, 1) := by decide +kernel
theorem dX8_readDigits_75 : decode cX8_readDigits 75 = .ok (.putfield 133, 3) := by decide +kernel
theorem dX8_readDigits_78 : decode cX8_readDigits 78 = .ok (.goto (-49), 3) := by decide +kernel
theorem dX8_readDigits_81 : decode cX8_readDigits 81 = .ok (.aload_n 0, 1) := by decide +kernel
theorem dX8_readDigits_82 : decode cX8_readDigits 82 = .ok (.invokevirtual 136, 3) := by decide +kernel
theorem dX8_readDigits_85 : decode cX8_readDigits 85 = .ok (.invokestatic 140, 3) := by decide +kernel
theorem dX8_readDigits_88 : decode cX8_readDigits 88 = .ok (.ifCond .eq 14, 3) := by decide +kernel
theorem dX8_readDigits_91 : decode cX8_readDigits 91 = .ok (.aload_n 0, 1) := by decide +kernel
theorem dX8_readDigits_92 : decode cX8_readDigits 92 = .ok (.aload_n 0, 1) := by decide +kernel
theorem dX8_readDigits_93 : decode cX8_readDigits 93 = .ok (.getfield 133, 3) := by decide +kernel
theorem dX8_readDigits_96 : decode cX8_readDigits 96 = .ok (.invokevirtual 144, 3) := by decide +kernel
theorem dX8_readDigits_99 : decode cX8_readDigits 99 = .ok (.ifCond .eq 7, 3) := by decide +kernel
theorem dX8_readDigits_102 : decode cX8_readDigits 102 = .ok (.iconst 1, 1) := by decide +kernel
theorem dX8_readDigits_103 : decode cX8_readDigits 103 = .ok (.goto 4, 3) := by decide +kernel
theorem dX8_readDigits_106 : decode cX8_readDigits 106 = .ok (.iconst 0, 1) := by decide +kernel
theorem dX8_readDigits_107 : decode cX8_readDigits 107 = .ok (.ireturn, 1) := by decide +kernel
theorem dX8_readNumber_0 : decode cX8_readNumber 0 = .ok (.aload_n 0, 1) := by decide +kernel
theorem dX8_readNumber_1 : decode cX8_readNumber 1 = .ok (.getfield 133, 3) := by decide +kernel
theorem dX8_readNumber_4 : decode cX8_readNumber 4 = .ok (.istore_n 3, 1) := by decide +kernel
theorem dX8_readNumber_5 : decode cX8_readNumber 5 = .ok (.iload_n 1, 1) := by decide +kernel
theorem dX8_readNumber_6 : decode cX8_readNumber 6 = .ok (.ifCond .ge 16, 3) := by decide +kernel
theorem dX8_readNumber_9 : decode cX8_readNumber 9 = .ok (.aload_n 0, 1) := by decide +kernel
theorem dX8_readNumber_10 : decode cX8_readNumber 10 = .ok (.invokevirtual 136, 3) := by decide +kernel
theorem dX8_readNumber_13 : decode cX8_readNumber 13 = .ok (.bipush 45, 2) := by decide +kernel
theorem dX8_readNumber_15 : decode cX8_readNumber 15 = .ok (.if_icmp .ne 7, 3) := by decide +kernel
theorem dX8_readNumber_18 : decode cX8_readNumber 18 = .ok (.iconst 1, 1) := by decide +kernel
theorem dX8_readNumber_19 : decode cX8_readNumber 19 = .ok (.goto 4, 3) := by decide +kernel
theorem dX8_readNumber_22 : decode cX8_readNumber 22 = .ok (.iconst 0, 1) := by decide +kernel
theorem dX8_readNumber_23 : decode cX8_readNumber 23 = .ok (.istore 4, 2) := by decide +kernel
theorem dX8_readNumber_25 : decode cX8_readNumber 25 = .ok (.iload 4, 2) := by decide +kernel
theorem dX8_readNumber_27 : decode cX8_readNumber 27 = .ok (.ifCond .eq 13, 3) := by decide +kernel
theorem dX8_readNumber_30 : decode cX8_readNumber 30 = .ok (.aload_n 0, 1) := by decide +kernel
theorem dX8_readNumber_31 : decode cX8_readNumber 31 = .ok (.dup, 1) := by decide +kernel
theorem dX8_readNumber_32 : decode cX8_readNumber 32 = .ok (.getfield 133, 3) := by decide +kernel
theorem dX8_readNumber_35 : decode cX8_readNumber 35 = .ok (.iconst 1, 1) := by decide +kernel
theorem dX8_readNumber_36 : decode cX8_readNumber 36 = .ok (.iadd, 1) := by decide +kernel
theorem dX8_readNumber_37 : decode cX8_readNumber 37 = .ok (.putfield 133, 3) := by decide +kernel
theorem dX8_readNumber_40 : decode cX8_readNumber 40 = .ok (.aload_n 0, 1) := by decide +kernel
theorem dX8_readNumber_41 : decode cX8_readNumber 41 = .ok (.invokevirtual 150, 3) := by decide +kernel
theorem dX8_readNumber_44 : decode cX8_readNumber 44 = .ok (.ifCond .ne 5, 3) := by decide +kernel
theorem dX8_readNumber_47 : decode cX8_readNumber 47 = .ok (.iconst 0, 1) := by decide +kernel
theorem dX8_readNumber_48 : decode cX8_readNumber 48 = .ok (.ireturn, 1) := by decide +kernel
theorem dX8_readNumber_49 : decode cX8_readNumber 49 = .ok (.iload 4, 2) := by decide +kernel
theorem dX8_readNumber_51 : decode cX8_readNumber 51 = .ok (.ifCond .eq 12, 3) := by decide +kernel
theorem dX8_readNumber_54 : decode cX8_readNumber 54 = .ok (.aload_n 0, 1) := by decide +kernel
theorem dX8_readNumber_55 : decode cX8_readNumber 55 = .ok (.aload_n 0, 1) := by decide +kernel
theorem dX8_readNumber_56 : decode cX8_readNumber 56 = .ok (.getfield 147, 3) := by decide +kernel
theorem dX8_readNumber_59 : decode cX8_readNumber 59 = .ok (.ineg, 1) := by decide +kernel
theorem dX8_readNumber_60 : decode cX8_readNumber 60 = .ok (.putfield 147, 3) := by decide +kernel
theorem dX8_readNumber_63 : decode cX8_readNumber 63 = .ok (.aload_n 0, 1) := by decide +kernel
theorem dX8_readNumber_64 : decode cX8_readNumber 64 = .ok (.getfield 147, 3) := by decide +kernel
theorem dX8_readNumber_67 : decode cX8_readNumber 67 = .ok (.iload_n 1, 1) := by decide +kernel
theorem dX8_readNumber_68 : decode cX8_readNumber 68 = .ok (.iload_n 2, 1) := by decide +kernel
theorem dX8_readNumber_69 : decode cX8_readNumber 69 = .ok (.invokestatic 129, 3) := by decide +kernel
theorem dX8_readNumber_72 : decode cX8_readNumber 72 = .ok (.ifCond .ne 11, 3) := by decide +kernel
theorem dX8_readNumber_75 : decode cX8_readNumber 75 = .ok (.aload_n 0, 1) := by decide +kernel
theorem dX8_readNumber_76 : decode cX8_readNumber 76 = .ok (.iload_n 3, 1) := by decide +kernel
theorem dX8_readNumber_77 : decode cX8_readNumber 77 = .ok (.invokevirtual 144, 3) := by decide +kernel
theorem dX8_readNumber_80 : decode cX8_readNumber 80 = .ok (.ifCond .eq 7, 3) := by decide +kernel
theorem dX8_readNumber_83 : decode cX8_readNumber 83 = .ok (.iconst 1, 1) := by decide +kernel
theorem dX8_readNumber_84 : decode cX8_readNumber 84 = .ok (.goto 4, 3) := by decide +kernel
theorem dX8_readNumber_87 : decode cX8_readNumber 87 = .ok (.iconst 0, 1) := by decide +kernel
theorem dX8_readNumber_88 : decode cX8_readNumber 88 = .ok (.ireturn, 1) := by decide +kernel
theorem dX8_ruleOf_0 : decode cX8_ruleOf 0 = .ok (.iload_n 0, 1) := by decide +kernel
theorem dX8_ruleOf_1 : decode cX8_ruleOf 1 = .ok (.bipush 111, 2) := by decide +kernel
theorem dX8_ruleOf_3 : decode cX8_ruleOf 3 = .ok (.if_icmp .ne 7, 3) := by decide +kernel
theorem dX8_ruleOf_6 : decode cX8_ruleOf 6 = .ok (.iconst 0, 1) := by decide +kernel
theorem dX8_ruleOf_7 : decode cX8_ruleOf 7 = .ok (.goto 44, 3) := by decide +kernel
theorem dX8_ruleOf_10 : decode cX8_ruleOf 10 = .ok (.iload_n 0, 1) := by decide +kernel
theorem dX8_ruleOf_11 : decode cX8_ruleOf 11 = .ok (.bipush 100, 2) := by decide +kernel
theorem dX8_ruleOf_13 : decode cX8_ruleOf 13 = .ok (.if_icmp .ne 7, 3) := by decide +kernel
theorem dX8_ruleOf_16 : decode cX8_ruleOf 16 = .ok (.iconst 1, 1) := by decide +kernel
theorem dX8_ruleOf_17 : decode cX8_ruleOf 17 = .ok (.goto 34, 3) := by decide +kernel
theorem dX8_ruleOf_20 : decode cX8_ruleOf 20 = .ok (.iload_n 0, 1) := by decide +kernel
theorem dX8_ruleOf_21 : decode cX8_ruleOf 21 = .ok (.bipush 114, 2) := by decide +kernel
theorem dX8_ruleOf_23 : decode cX8_ruleOf 23 = .ok (.if_icmp .ne 7, 3) := by decide +kernel
theorem dX8_ruleOf_26 : decode cX8_ruleOf 26 = .ok (.iconst 2, 1) := by decide +kernel
theorem dX8_ruleOf_27 : decode cX8_ruleOf 27 = .ok (.goto 24, 3) := by decide +kernel
theorem dX8_ruleOf_30 : decode cX8_ruleOf 30 = .ok (.iload_n 0, 1) := by decide +kernel
theorem dX8_ruleOf_31 : decode cX8_ruleOf 31 = .ok (.bipush 110, 2) := by decide +kernel
theorem dX8_ruleOf_33 : decode cX8_ruleOf 33 = .ok (.if_icmp .ne 7, 3) := by decide +kernel
theorem dX8_ruleOf_36 : decode cX8_ruleOf 36 = .ok (.iconst 3, 1) := by decide +kernel
theorem dX8_ruleOf_37 : decode cX8_ruleOf 37 = .ok (.goto 14, 3) := by decide +kernel
theorem dX8_ruleOf_40 : decode cX8_ruleOf 40 = .ok (.iload_n 0, 1) := by decide +kernel
theorem dX8_ruleOf_41 : decode cX8_ruleOf 41 = .ok (.bipush 103, 2) := by decide +kernel
theorem dX8_ruleOf_43 : decode cX8_ruleOf 43 = .ok (.if_icmp .ne 7, 3) := by decide +kernel
theorem dX8_ruleOf_46 : decode cX8_ruleOf 46 = .ok (.iconst 4, 1) := by decide +kernel
theorem dX8_ruleOf_47 : decode cX8_ruleOf 47 = .ok (.goto 4, 3) := by decide +kernel
theorem dX8_ruleOf_50 : decode cX8_ruleOf 50 = .ok (.iconst (-1), 1) := by decide +kernel
theorem dX8_ruleOf_51 : decode cX8_ruleOf 51 = .ok (.ireturn, 1) := by decide +kernel
theorem dX8_readBit_0 : decode cX8_readBit 0 = .ok (.aload_n 0, 1) := by decide +kernel
theorem dX8_readBit_1 : decode cX8_readBit 1 = .ok (.getfield 133, 3) := by decide +kernel
theorem dX8_readBit_4 : decode cX8_readBit 4 = .ok (.istore_n 1, 1) := by decide +kernel
theorem dX8_readBit_5 : decode cX8_readBit 5 = .ok (.aload_n 0, 1) := by decide +kernel
theorem dX8_readBit_6 : decode cX8_readBit 6 = .ok (.getfield 154, 3) := by decide +kernel
theorem dX8_readBit_9 : decode cX8_readBit 9 = .ok (.bipush 12, 2) := by decide +kernel
theorem dX8_readBit_11 : decode cX8_readBit 11 = .ok (.if_icmp .ne 9, 3) := by decide +kernel
theorem dX8_readBit_14 : decode cX8_readBit 14 = .ok (.aload_n 0, 1) := by decide +kernel
theorem dX8_readBit_15 : decode cX8_readBit 15 = .ok (.iload_n 1, 1) := by decide +kernel
theorem dX8_readBit_16 : decode cX8_readBit 16 = .ok (.invokevirtual 144, 3) := by decide +kernel
theorem dX8_readBit_19 : decode cX8_readBit 19 = .ok (.ireturn, 1) := by decide +kernel
theorem dX8_readBit_20 : decode cX8_readBit 20 = .ok (.aload_n 0, 1) := by decide +kernel
theorem dX8_readBit_21 : decode cX8_readBit 21 = .ok (.dup, 1) := by decide +kernel
theorem dX8_readBit_22 : decode cX8_readBit 22 = .ok (.getfield 133, 3) := by decide +kernel
theorem dX8_readBit_25 : decode cX8_readBit 25 = .ok (.iconst 1, 1) := by decide +kernel
theorem dX8_readBit_26 : decode cX8_readBit 26 = .ok (.iadd, 1) := by decide +kernel
theorem dX8_readBit_27 : decode cX8_readBit 27 = .ok (.putfield 133, 3) := by decide +kernel
theorem dX8_readBit_30 : decode cX8_readBit 30 = .ok (.aload_n 0, 1) := by decide +kernel
theorem dX8_readBit_31 : decode cX8_readBit 31 = .ok (.iconst 1, 1) := by decide +kernel
theorem dX8_readBit_32 : decode cX8_readBit 32 = .ok (.sipush 9999, 3) := by decide +kernel
theorem dX8_readBit_35 : decode cX8_readBit 35 = .ok (.invokevirtual 157, 3) := by decide +kernel
theorem dX8_readBit_38 : decode cX8_readBit 38 = .ok (.ifCond .ne 5, 3) := by decide +kernel
theorem dX8_readBit_41 : decode cX8_readBit 41 = .ok (.iconst 0, 1) := by decide +kernel
theorem dX8_readBit_42 : decode cX8_readBit 42 = .ok (.ireturn, 1) := by decide +kernel
theorem dX8_readBit_43 : decode cX8_readBit 43 = .ok (.aload_n 0, 1) := by decide +kernel
theorem dX8_readBit_44 : decode cX8_readBit 44 = .ok (.getfield 34, 3) := by decide +kernel
theorem dX8_readBit_47 : decode cX8_readBit 47 = .ok (.aload_n 0, 1) := by decide +kernel
theorem dX8_readBit_48 : decode cX8_readBit 48 = .ok (.getfield 154, 3) := by decide +kernel
theorem dX8_readBit_51 : decode cX8_readBit 51 = .ok (.aload_n 0, 1) := by decide +kernel
theorem dX8_readBit_52 : decode cX8_readBit 52 = .ok (.getfield 147, 3) := by decide +kernel
theorem dX8_readBit_55 : decode cX8_readBit 55 = .ok (.iastore, 1) := by decide +kernel
theorem dX8_readBit_56 : decode cX8_readBit 56 = .ok (.aload_n 0, 1) := by decide +kernel
theorem dX8_readBit_57 : decode cX8_readBit 57 = .ok (.getfield 37, 3) := by decide +kernel
theorem dX8_readBit_60 : decode cX8_readBit 60 = .ok (.aload_n 0, 1) := by decide +kernel
theorem dX8_readBit_61 : decode cX8_readBit 61 = .ok (.getfield 154, 3) := by decide +kernel
theorem dX8_readBit_64 : decode cX8_readBit 64 = .ok (.iconst 0, 1) := by decide +kernel
theorem dX8_readBit_65 : decode cX8_readBit 65 = .ok (.iastore, 1) := by decide +kernel
theorem dX8_readBit_66 : decode cX8_readBit 66 = .ok (.aload_n 0, 1) := by decide +kernel
theorem dX8_readBit_67 : decode cX8_readBit 67 = .ok (.invokevirtual 136, 3) := by decide +kernel
theorem dX8_readBit_70 : decode cX8_readBit 70 = .ok (.bipush 58, 2) := by decide +kernel
theorem dX8_readBit_72 : decode cX8_readBit 72 = .ok (.if_icmp .ne 39, 3) := by decide +kernel
theorem dX8_readBit_75 : decode cX8_readBit 75 = .ok (.aload_n 0, 1) := by decide +kernel
theorem dX8_readBit_76 : decode cX8_readBit 76 = .ok (.dup, 1) := by decide +kernel
theorem dX8_readBit_77 : decode cX8_readBit 77 = .ok (.getfield 133, 3) := by decide +kernel
theorem dX8_readBit_80 : decode cX8_readBit 80 = .ok (.iconst 1, 1) := by decide +kernel
theorem dX8_readBit_81 : decode cX8_readBit 81 = .ok (.iadd, 1) := by decide +kernel
theorem dX8_readBit_82 : decode cX8_readBit 82 = .ok (.putfield 133, 3) := by decide +kernel
theorem dX8_readBit_85 : decode cX8_readBit 85 = .ok (.aload_n 0, 1) := by decide +kernel
theorem dX8_readBit_86 : decode cX8_readBit 86 = .ok (.bipush (-99), 2) := by decide +kernel
theorem dX8_readBit_88 : decode cX8_readBit 88 = .ok (.bipush 99, 2) := by decide +kernel
theorem dX8_readBit_90 : decode cX8_readBit 90 = .ok (.invokevirtual 157, 3) := by decide +kernel
theorem dX8_readBit_93 : decode cX8_readBit 93 = .ok (.ifCond .ne 5, 3) := by decide +kernel
theorem dX8_readBit_96 : decode cX8_readBit 96 = .ok (.iconst 0, 1) := by decide +kernel
theorem dX8_readBit_97 : decode cX8_readBit 97 = .ok (.ireturn, 1) := by decide +kernel
theorem dX8_readBit_98 : decode cX8_readBit 98 = .ok (.aload_n 0, 1) := by decide +kernel
theorem dX8_readBit_99 : decode cX8_readBit 99 = .ok (.getfield 37, 3) := by decide +kernel
theorem dX8_readBit_102 : decode cX8_readBit 102 = .ok (.aload_n 0, 1) := by decide +kernel
theorem dX8_readBit_103 : decode cX8_readBit 103 = .ok (.getfield 154, 3) := by decide +kernel
theorem dX8_readBit_106 : decode cX8_readBit 106 = .ok (.aload_n 0, 1) := by decide +kernel
theorem dX8_readBit_107 : decode cX8_readBit 107 = .ok (.getfield 147, 3) := by decide +kernel
theorem dX8_readBit_110 : decode cX8_readBit 110 = .ok (.iastore, 1) := by decide +kernel
theorem dX8_readBit_111 : decode cX8_readBit 111 = .ok (.aload_n 0, 1) := by decide +kernel
theorem dX8_readBit_112 : decode cX8_readBit 112 = .ok (.invokevirtual 136, 3) := by decide +kernel
theorem dX8_readBit_115 : decode cX8_readBit 115 = .ok (.bipush 59, 2) := by decide +kernel
theorem dX8_readBit_117 : decode cX8_readBit 117 = .ok (.if_icmp .ne 32, 3) := by decide +kernel
theorem dX8_readBit_120 : decode cX8_readBit 120 = .ok (.aload_n 0, 1) := by decide +kernel
theorem dX8_readBit_121 : decode cX8_readBit 121 = .ok (.getfield 34, 3) := by decide +kernel
theorem dX8_readBit_124 : decode cX8_readBit 124 = .ok (.aload_n 0, 1) := by decide +kernel
theorem dX8_readBit_125 : decode cX8_readBit 125 = .ok (.getfield 154, 3) := by decide +kernel
theorem dX8_readBit_128 : decode cX8_readBit 128 = .ok (.iaload, 1) := by decide +kernel
theorem dX8_readBit_129 : decode cX8_readBit 129 = .ok (.aload_n 0, 1) := by decide +kernel
theorem dX8_readBit_130 : decode cX8_readBit 130 = .ok (.getfield 37, 3) := by decide +kernel
theorem dX8_readBit_133 : decode cX8_readBit 133 = .ok (.aload_n 0, 1) := by decide +kernel
theorem dX8_readBit_134 : decode cX8_readBit 134 = .ok (.getfield 154, 3) := by decide +kernel
theorem dX8_readBit_137 : decode cX8_readBit 137 = .ok (.iaload, 1) := by decide +kernel
theorem dX8_readBit_138 : decode cX8_readBit 138 = .ok (.iadd, 1) := by decide +kernel
theorem dX8_readBit_139 : decode cX8_readBit 139 = .ok (.iconst 1, 1) := by decide +kernel
theorem dX8_readBit_140 : decode cX8_readBit 140 = .ok (.if_icmp .ge 9, 3) := by decide +kernel
theorem dX8_readBit_143 : decode cX8_readBit 143 = .ok (.aload_n 0, 1) := by decide +kernel
theorem dX8_readBit_144 : decode cX8_readBit 144 = .ok (.iload_n 1, 1) := by decide +kernel
theorem dX8_readBit_145 : decode cX8_readBit 145 = .ok (.invokevirtual 144, 3) := by decide +kernel
theorem dX8_readBit_148 : decode cX8_readBit 148 = .ok (.ireturn, 1) := by decide +kernel
theorem dX8_readBit_149 : decode cX8_readBit 149 = .ok (.aload_n 0, 1) := by decide +kernel
theorem dX8_readBit_150 : decode cX8_readBit 150 = .ok (.dup, 1) := by decide +kernel
theorem dX8_readBit_151 : decode cX8_readBit 151 = .ok (.getfield 154, 3) := by decide +kernel
theorem dX8_readBit_154 : decode cX8_readBit 154 = .ok (.iconst 1, 1) := by decide +kernel
theorem dX8_readBit_155 : decode cX8_readBit 155 = .ok (.iadd, 1) := by decide +kernel
theorem dX8_readBit_156 : decode cX8_readBit 156 = .ok (.putfield 154, 3) := by decide +kernel
theorem dX8_readBit_159 : decode cX8_readBit 159 = .ok (.iconst 1, 1) := by decide +kernel
theorem dX8_readBit_160 : decode cX8_readBit 160 = .ok (.ireturn, 1) := by decide +kernel
theorem dX8_readItem_0 : decode cX8_readItem 0 = .ok (.aload_n 0, 1) := by decide +kernel
theorem dX8_readItem_1 : decode cX8_readItem 1 = .ok (.invokevirtual 136, 3) := by decide +kernel
theorem dX8_readItem_4 : decode cX8_readItem 4 = .ok (.invokestatic 161, 3) := by decide +kernel
theorem dX8_readItem_7 : decode cX8_readItem 7 = .ok (.istore_n 1, 1) := by decide +kernel
theorem dX8_readItem_8 : decode cX8_readItem 8 = .ok (.aload_n 0, 1) := by decide +kernel
theorem dX8_readItem_9 : decode cX8_readItem 9 = .ok (.invokevirtual 136, 3) := by decide +kernel
theorem dX8_readItem_12 : decode cX8_readItem 12 = .ok (.bipush 98, 2) := by decide +kernel
theorem dX8_readItem_14 : decode cX8_readItem 14 = .ok (.if_icmp .ne 12, 3) := by decide +kernel
theorem dX8_readItem_17 : decode cX8_readItem 17 = .ok (.aload_n 0, 1) := by decide +kernel
theorem dX8_readItem_18 : decode cX8_readItem 18 = .ok (.invokevirtual 165, 3) := by decide +kernel
theorem dX8_readItem_21 : decode cX8_readItem 21 = .ok (.ifCond .ne 84, 3) := by decide +kernel
theorem dX8_readItem_24 : decode cX8_readItem 24 = .ok (.iconst 0, 1) := by decide +kernel
theorem dX8_readItem_25 : decode cX8_readItem 25 = .ok (.ireturn, 1) := by decide +kernel
theorem dX8_readItem_26 : decode cX8_readItem 26 = .ok (.iload_n 1, 1) := by decide +kernel
theorem dX8_readItem_27 : decode cX8_readItem 27 = .ok (.iconst (-1), 1) := by decide +kernel
theorem dX8_readItem_28 : decode cX8_readItem 28 = .ok (.if_icmp .eq 15, 3) := by decide +kernel
theorem dX8_readItem_31 : decode cX8_readItem 31 = .ok (.aload_n 0, 1) := by decide +kernel
theorem dX8_readItem_32 : decode cX8_readItem 32 = .ok (.getfield 168, 3) := by decide +kernel
theorem dX8_readItem_35 : decode cX8_readItem 35 = .ok (.iload_n 1, 1) := by decide +kernel
theorem dX8_readItem_36 : decode cX8_readItem 36 = .ok (.ishr, 1) := by decide +kernel
theorem dX8_readItem_37 : decode cX8_readItem 37 = .ok (.iconst 1, 1) := by decide +kernel
theorem dX8_readItem_38 : decode cX8_readItem 38 = .ok (.iand, 1) := by decide +kernel
theorem dX8_readItem_39 : decode cX8_readItem 39 = .ok (.iconst 1, 1) := by decide +kernel
theorem dX8_readItem_40 : decode cX8_readItem 40 = .ok (.if_icmp .ne 12, 3) := by decide +kernel
theorem dX8_readItem_43 : decode cX8_readItem 43 = .ok (.aload_n 0, 1) := by decide +kernel
theorem dX8_readItem_44 : decode cX8_readItem 44 = .ok (.aload_n 0, 1) := by decide +kernel
theorem dX8_readItem_45 : decode cX8_readItem 45 = .ok (.getfield 133, 3) := by decide +kernel
theorem dX8_readItem_48 : decode cX8_readItem 48 = .ok (.invokevirtual 144, 3) := by decide +kernel
theorem dX8_readItem_51 : decode cX8_readItem 51 = .ok (.ireturn, 1) := by decide +kernel
theorem dX8_readItem_52 : decode cX8_readItem 52 = .ok (.aload_n 0, 1) := by decide +kernel
theorem dX8_readItem_53 : decode cX8_readItem 53 = .ok (.dup, 1) := by decide +kernel
theorem dX8_readItem_54 : decode cX8_readItem 54 = .ok (.getfield 168, 3) := by decide +kernel
theorem dX8_readItem_57 : decode cX8_readItem 57 = .ok (.iconst 1, 1) := by decide +kernel
theorem dX8_readItem_58 : decode cX8_readItem 58 = .ok (.iload_n 1, 1) := by decide +kernel
theorem dX8_readItem_59 : decode cX8_readItem 59 = .ok (.ishl, 1) := by decide +kernel
theorem dX8_readItem_60 : decode cX8_readItem 60 = .ok (.ior, 1) := by decide +kernel
theorem dX8_readItem_61 : decode cX8_readItem 61 = .ok (.putfield 168, 3) := by decide +kernel
theorem dX8_readItem_64 : decode cX8_readItem 64 = .ok (.aload_n 0, 1) := by decide +kernel
theorem dX8_readItem_65 : decode cX8_readItem 65 = .ok (.dup, 1) := by decide +kernel
theorem dX8_readItem_66 : decode cX8_readItem 66 = .ok (.getfield 133, 3) := by decide +kernel
theorem dX8_readItem_69 : decode cX8_readItem 69 = .ok (.iconst 1, 1) := by decide +kernel
theorem dX8_readItem_70 : decode cX8_readItem 70 = .ok (.iadd, 1) := by decide +kernel
theorem dX8_readItem_71 : decode cX8_readItem 71 = .ok (.putfield 133, 3) := by decide +kernel
theorem dX8_readItem_74 : decode cX8_readItem 74 = .ok (.aload_n 0, 1) := by decide +kernel
theorem dX8_readItem_75 : decode cX8_readItem 75 = .ok (.aload_n 0, 1) := by decide +kernel
theorem dX8_readItem_76 : decode cX8_readItem 76 = .ok (.getfield 28, 3) := by decide +kernel
theorem dX8_readItem_79 : decode cX8_readItem 79 = .ok (.iload_n 1, 1) := by decide +kernel
theorem dX8_readItem_80 : decode cX8_readItem 80 = .ok (.iaload, 1) := by decide +kernel
theorem dX8_readItem_81 : decode cX8_readItem 81 = .ok (.aload_n 0, 1) := by decide +kernel
theorem dX8_readItem_82 : decode cX8_readItem 82 = .ok (.getfield 31, 3) := by decide +kernel
theorem dX8_readItem_85 : decode cX8_readItem 85 = .ok (.iload_n 1, 1) := by decide +kernel
theorem dX8_readItem_86 : decode cX8_readItem 86 = .ok (.iaload, 1) := by decide +kernel
theorem dX8_readItem_87 : decode cX8_readItem 87 = .ok (.invokevirtual 157, 3) := by decide +kernel
theorem dX8_readItem_90 : decode cX8_readItem 90 = .ok (.ifCond .ne 5, 3) := by decide +kernel
theorem dX8_readItem_93 : decode cX8_readItem 93 = .ok (.iconst 0, 1) := by decide +kernel
theorem dX8_readItem_94 : decode cX8_readItem 94 = .ok (.ireturn, 1) := by decide +kernel
theorem dX8_readItem_95 : decode cX8_readItem 95 = .ok (.aload_n 0, 1) := by decide +kernel
theorem dX8_readItem_96 : decode cX8_readItem 96 = .ok (.getfield 40, 3) := by decide +kernel
theorem dX8_readItem_99 : decode cX8_readItem 99 = .ok (.iload_n 1, 1) := by decide +kernel
theorem dX8_readItem_100 : decode cX8_readItem 100 = .ok (.aload_n 0, 1) := by decide +kernel
theorem dX8_readItem_101 : decode cX8_readItem 101 = .ok (.getfield 147, 3) := by decide +kernel
theorem dX8_readItem_104 : decode cX8_readItem 104 = .ok (.iastore, 1) := by decide +kernel
theorem dX8_readItem_105 : decode cX8_readItem 105 = .ok (.aload_n 0, 1) := by decide +kernel
theorem dX8_readItem_106 : decode cX8_readItem 106 = .ok (.invokevirtual 136, 3) := by decide +kernel
theorem dX8_readItem_109 : decode cX8_readItem 109 = .ok (.bipush 59, 2) := by decide +kernel
theorem dX8_readItem_111 : decode cX8_readItem 111 = .ok (.if_icmp .eq 12, 3) := by decide +kernel
theorem dX8_readItem_114 : decode cX8_readItem 114 = .ok (.aload_n 0, 1) := by decide +kernel
theorem dX8_readItem_115 : decode cX8_readItem 115 = .ok (.aload_n 0, 1) := by decide +kernel
theorem dX8_readItem_116 : decode cX8_readItem 116 = .ok (.getfield 133, 3) := by decide +kernel
theorem dX8_readItem_119 : decode cX8_readItem 119 = .ok (.invokevirtual 144, 3) := by decide +kernel
theorem dX8_readItem_122 : decode cX8_readItem 122 = .ok (.ireturn, 1) := by decide +kernel
theorem dX8_readItem_123 : decode cX8_readItem 123 = .ok (.aload_n 0, 1) := by decide +kernel
theorem dX8_readItem_124 : decode cX8_readItem 124 = .ok (.dup, 1) := by decide +kernel
theorem dX8_readItem_125 : decode cX8_readItem 125 = .ok (.getfield 133, 3) := by decide +kernel
theorem dX8_readItem_128 : decode cX8_readItem 128 = .ok (.iconst 1, 1) := by decide +kernel
theorem dX8_readItem_129 : decode cX8_readItem 129 = .ok (.iadd, 1) := by decide +kernel
theorem dX8_readItem_130 : decode cX8_readItem 130 = .ok (.putfield 133, 3) := by decide +kernel
theorem dX8_readItem_133 : decode cX8_readItem 133 = .ok (.iconst 1, 1) := by decide +kernel
theorem dX8_readItem_134 : decode cX8_readItem 134 = .ok (.ireturn, 1) := by decide +kernel
theorem dX8_readText_0 : decode cX8_readText 0 = .ok (.aload_n 0, 1) := by decide +kernel
theorem dX8_readText_1 : decode cX8_readText 1 = .ok (.iconst 0, 1) := by decide +kernel
theorem dX8_readText_2 : decode cX8_readText 2 = .ok (.putfield 133, 3) := by decide +kernel
theorem dX8_readText_5 : decode cX8_readText 5 = .ok (.aload_n 0, 1) := by decide +kernel
theorem dX8_readText_6 : decode cX8_readText 6 = .ok (.iconst (-1), 1) := by decide +kernel
theorem dX8_readText_7 : decode cX8_readText 7 = .ok (.putfield 25, 3) := by decide +kernel
theorem dX8_readText_10 : decode cX8_readText 10 = .ok (.aload_n 0, 1) := by decide +kernel
theorem dX8_readText_11 : decode cX8_readText 11 = .ok (.iconst 0, 1) := by decide +kernel
theorem dX8_readText_12 : decode cX8_readText 12 = .ok (.putfield 154, 3) := by decide +kernel
theorem dX8_readText_15 : decode cX8_readText 15 = .ok (.aload_n 0, 1) := by decide +kernel
theorem dX8_readText_16 : decode cX8_readText 16 = .ok (.iconst 0, 1) := by decide +kernel
theorem dX8_readText_17 : decode cX8_readText 17 = .ok (.putfield 168, 3) := by decide +kernel
theorem dX8_readText_20 : decode cX8_readText 20 = .ok (.iconst 0, 1) := by decide +kernel
theorem dX8_readText_21 : decode cX8_readText 21 = .ok (.istore_n 1, 1) := by decide +kernel
theorem dX8_readText_22 : decode cX8_readText 22 = .ok (.iload_n 1, 1) := by decide +kernel
theorem dX8_readText_23 : decode cX8_readText 23 = .ok (.iconst 5, 1) := by decide +kernel
theorem dX8_readText_24 : decode cX8_readText 24 = .ok (.if_icmp .ge 34, 3) := by decide +kernel
theorem dX8_readText_27 : decode cX8_readText 27 = .ok (.aload_n 0, 1) := by decide +kernel
theorem dX8_readText_28 : decode cX8_readText 28 = .ok (.getfield 40, 3) := by decide +kernel
theorem dX8_readText_31 : decode cX8_readText 31 = .ok (.iload_n 1, 1) := by decide +kernel
theorem dX8_readText_32 : decode cX8_readText 32 = .ok (.iload_n 1, 1) := by decide +kernel
theorem dX8_readText_33 : decode cX8_readText 33 = .ok (.iconst 2, 1) := by decide +kernel
theorem dX8_readText_34 : decode cX8_readText 34 = .ok (.if_icmp .ne 7, 3) := by decide +kernel
theorem dX8_readText_37 : decode cX8_readText 37 = .ok (.iconst 3, 1) := by decide +kernel
theorem dX8_readText_38 : decode cX8_readText 38 = .ok (.goto 13, 3) := by decide +kernel
theorem dX8_readText_41 : decode cX8_readText 41 = .ok (.iload_n 1, 1) := by decide +kernel
theorem dX8_readText_42 : decode cX8_readText 42 = .ok (.iconst 4, 1) := by decide +kernel
theorem dX8_readText_43 : decode cX8_readText 43 = .ok (.if_icmp .ne 7, 3) := by decide +kernel
theorem dX8_readText_46 : decode cX8_readText 46 = .ok (.iconst 1, 1) := by decide +kernel
theorem dX8_readText_47 : decode cX8_readText 47 = .ok (.goto 4, 3) := by decide +kernel
theorem dX8_readText_50 : decode cX8_readText 50 = .ok (.iconst 0, 1) := by decide +kernel
theorem dX8_readText_51 : decode cX8_readText 51 = .ok (.iastore, 1) := by decide +kernel
theorem dX8_readText_52 : decode cX8_readText 52 = .ok (.iinc 1 1, 3) := by decide +kernel
theorem dX8_readText_55 : decode cX8_readText 55 = .ok (.goto (-33), 3) := by decide +kernel
theorem dX8_readText_58 : decode cX8_readText 58 = .ok (.aload_n 0, 1) := by decide +kernel
theorem dX8_readText_59 : decode cX8_readText 59 = .ok (.getfield 133, 3) := by decide +kernel
theorem dX8_readText_62 : decode cX8_readText 62 = .ok (.aload_n 0, 1) := by decide +kernel
theorem dX8_readText_63 : decode cX8_readText 63 = .ok (.getfield 122, 3) := by decide +kernel
theorem dX8_readText_66 : decode cX8_readText 66 = .ok (.if_icmp .ge 12, 3) := by decide +kernel
theorem dX8_readText_69 : decode cX8_readText 69 = .ok (.aload_n 0, 1) := by decide +kernel
theorem dX8_readText_70 : decode cX8_readText 70 = .ok (.invokevirtual 171, 3) := by decide +kernel
theorem dX8_readText_73 : decode cX8_readText 73 = .ok (.ifCond .ne (-15), 3) := by decide +kernel
theorem dX8_readText_76 : decode cX8_readText 76 = .ok (.iconst 0, 1) := by decide +kernel
theorem dX8_readText_77 : decode cX8_readText 77 = .ok (.ireturn, 1) := by decide +kernel
theorem dX8_readText_78 : decode cX8_readText 78 = .ok (.aload_n 0, 1) := by decide +kernel
theorem dX8_readText_79 : decode cX8_readText 79 = .ok (.getfield 154, 3) := by decide +kernel
theorem dX8_readText_82 : decode cX8_readText 82 = .ok (.iconst 1, 1) := by decide +kernel
theorem dX8_readText_83 : decode cX8_readText 83 = .ok (.if_icmp .gt 14, 3) := by decide +kernel
theorem dX8_readText_86 : decode cX8_readText 86 = .ok (.aload_n 0, 1) := by decide +kernel
theorem dX8_readText_87 : decode cX8_readText 87 = .ok (.aload_n 0, 1) := by decide +kernel
theorem dX8_readText_88 : decode cX8_readText 88 = .ok (.getfield 122, 3) := by decide +kernel
theorem dX8_readText_91 : decode cX8_readText 91 = .ok (.invokevirtual 144, 3) := by decide +kernel
theorem dX8_readText_94 : decode cX8_readText 94 = .ok (.ifCond .eq 7, 3) := by decide +kernel
theorem dX8_readText_97 : decode cX8_readText 97 = .ok (.iconst 1, 1) := by decide +kernel
theorem dX8_readText_98 : decode cX8_readText 98 = .ok (.goto 4, 3) := by decide +kernel
theorem dX8_readText_101 : decode cX8_readText 101 = .ok (.iconst 0, 1) := by decide +kernel
theorem dX8_readText_102 : decode cX8_readText 102 = .ok (.ireturn, 1) := by decide +kernel
theorem dX8_text_0 : decode cX8_text 0 = .ok (.aload_n 0, 1) := by decide +kernel
theorem dX8_text_1 : decode cX8_text 1 = .ok (.invokevirtual 174, 3) := by decide +kernel
theorem dX8_text_4 : decode cX8_text 4 = .ok (.istore_n 1, 1) := by decide +kernel
theorem dX8_text_5 : decode cX8_text 5 = .ok (.aload_n 0, 1) := by decide +kernel
theorem dX8_text_6 : decode cX8_text 6 = .ok (.iconst 0, 1) := by decide +kernel
theorem dX8_text_7 : decode cX8_text 7 = .ok (.putfield 122, 3) := by decide +kernel
theorem dX8_text_10 : decode cX8_text 10 = .ok (.iload_n 1, 1) := by decide +kernel
theorem dX8_text_11 : decode cX8_text 11 = .ok (.ifCond .ne 5, 3) := by decide +kernel
theorem dX8_text_14 : decode cX8_text 14 = .ok (.iconst (-1), 1) := by decide +kernel
theorem dX8_text_15 : decode cX8_text 15 = .ok (.ireturn, 1) := by decide +kernel
theorem dX8_text_16 : decode cX8_text 16 = .ok (.aload_n 0, 1) := by decide +kernel
theorem dX8_text_17 : decode cX8_text 17 = .ok (.iconst 0, 1) := by decide +kernel
theorem dX8_text_18 : decode cX8_text 18 = .ok (.aload_n 0, 1) := by decide +kernel
theorem dX8_text_19 : decode cX8_text 19 = .ok (.getfield 154, 3) := by decide +kernel
theorem dX8_text_22 : decode cX8_text 22 = .ok (.invokevirtual 119, 3) := by decide +kernel
theorem dX8_text_25 : decode cX8_text 25 = .ok (.iconst 0, 1) := by decide +kernel
theorem dX8_text_26 : decode cX8_text 26 = .ok (.istore_n 2, 1) := by decide +kernel
theorem dX8_text_27 : decode cX8_text 27 = .ok (.iload_n 2, 1) := by decide +kernel
theorem dX8_text_28 : decode cX8_text 28 = .ok (.iconst 5, 1) := by decide +kernel
theorem dX8_text_29 : decode cX8_text 29 = .ok (.if_icmp .ge 22, 3) := by decide +kernel
theorem dX8_text_32 : decode cX8_text 32 = .ok (.aload_n 0, 1) := by decide +kernel
theorem dX8_text_33 : decode cX8_text 33 = .ok (.iconst 1, 1) := by decide +kernel
theorem dX8_text_34 : decode cX8_text 34 = .ok (.iload_n 2, 1) := by decide +kernel
theorem dX8_text_35 : decode cX8_text 35 = .ok (.iadd, 1) := by decide +kernel
theorem dX8_text_36 : decode cX8_text 36 = .ok (.aload_n 0, 1) := by decide +kernel
theorem dX8_text_37 : decode cX8_text 37 = .ok (.getfield 40, 3) := by decide +kernel
theorem dX8_text_40 : decode cX8_text 40 = .ok (.iload_n 2, 1) := by decide +kernel
theorem dX8_text_41 : decode cX8_text 41 = .ok (.iaload, 1) := by decide +kernel
theorem dX8_text_42 : decode cX8_text 42 = .ok (.invokevirtual 119, 3) := by decide +kernel
theorem dX8_text_45 : decode cX8_text 45 = .ok (.iinc 2 1, 3) := by decide +kernel
theorem dX8_text_48 : decode cX8_text 48 = .ok (.goto (-21), 3) := by decide +kernel
theorem dX8_text_51 : decode cX8_text 51 = .ok (.iconst 0, 1) := by decide +kernel
theorem dX8_text_52 : decode cX8_text 52 = .ok (.istore_n 2, 1) := by decide +kernel
theorem dX8_text_53 : decode cX8_text 53 = .ok (.iload_n 2, 1) := by decide +kernel
theorem dX8_text_54 : decode cX8_text 54 = .ok (.aload_n 0, 1) := by decide +kernel
theorem dX8_text_55 : decode cX8_text 55 = .ok (.getfield 154, 3) := by decide +kernel
theorem dX8_text_58 : decode cX8_text 58 = .ok (.if_icmp .ge 26, 3) := by decide +kernel
theorem dX8_text_61 : decode cX8_text 61 = .ok (.aload_n 0, 1) := by decide +kernel
theorem dX8_text_62 : decode cX8_text 62 = .ok (.iload_n 2, 1) := by decide +kernel
theorem dX8_text_63 : decode cX8_text 63 = .ok (.aload_n 0, 1) := by decide +kernel
theorem dX8_text_64 : decode cX8_text 64 = .ok (.getfield 34, 3) := by decide +kernel
theorem dX8_text_67 : decode cX8_text 67 = .ok (.iload_n 2, 1) := by decide +kernel
theorem dX8_text_68 : decode cX8_text 68 = .ok (.iaload, 1) := by decide +kernel
theorem dX8_text_69 : decode cX8_text 69 = .ok (.aload_n 0, 1) := by decide +kernel
theorem dX8_text_70 : decode cX8_text 70 = .ok (.getfield 37, 3) := by decide +kernel
theorem dX8_text_73 : decode cX8_text 73 = .ok (.iload_n 2, 1) := by decide +kernel
theorem dX8_text_74 : decode cX8_text 74 = .ok (.iaload, 1) := by decide +kernel
theorem dX8_text_75 : decode cX8_text 75 = .ok (.invokevirtual 177, 3) := by decide +kernel
theorem dX8_text_78 : decode cX8_text 78 = .ok (.iinc 2 1, 3) := by decide +kernel
theorem dX8_text_81 : decode cX8_text 81 = .ok (.goto (-28), 3) := by decide +kernel
theorem dX8_text_84 : decode cX8_text 84 = .ok (.aload_n 0, 1) := by decide +kernel
theorem dX8_text_85 : decode cX8_text 85 = .ok (.bipush 57, 2) := by decide +kernel
theorem dX8_text_87 : decode cX8_text 87 = .ok (.iconst 0, 1) := by decide +kernel
theorem dX8_text_88 : decode cX8_text 88 = .ok (.invokevirtual 119, 3) := by decide +kernel
theorem dX8_text_91 : decode cX8_text 91 = .ok (.aload_n 0, 1) := by decide +kernel
theorem dX8_text_92 : decode cX8_text 92 = .ok (.iconst 0, 1) := by decide +kernel
theorem dX8_text_93 : decode cX8_text 93 = .ok (.putfield 181, 3) := by decide +kernel
theorem dX8_text_96 : decode cX8_text 96 = .ok (.aload_n 0, 1) := by decide +kernel
theorem dX8_text_97 : decode cX8_text 97 = .ok (.getfield 154, 3) := by decide +kernel
theorem dX8_text_100 : decode cX8_text 100 = .ok (.ireturn, 1) := by decide +kernel
theorem dX8_layBit_0 : decode cX8_layBit 0 = .ok (.aload_n 0, 1) := by decide +kernel
theorem dX8_layBit_1 : decode cX8_layBit 1 = .ok (.bipush 9, 2) := by decide +kernel
theorem dX8_layBit_3 : decode cX8_layBit 3 = .ok (.iload_n 1, 1) := by decide +kernel
theorem dX8_layBit_4 : decode cX8_layBit 4 = .ok (.iadd, 1) := by decide +kernel
theorem dX8_layBit_5 : decode cX8_layBit 5 = .ok (.iload_n 2, 1) := by decide +kernel
theorem dX8_layBit_6 : decode cX8_layBit 6 = .ok (.invokevirtual 119, 3) := by decide +kernel
theorem dX8_layBit_9 : decode cX8_layBit 9 = .ok (.aload_n 0, 1) := by decide +kernel
theorem dX8_layBit_10 : decode cX8_layBit 10 = .ok (.bipush 21, 2) := by decide +kernel
theorem dX8_layBit_12 : decode cX8_layBit 12 = .ok (.iload_n 1, 1) := by decide +kernel
theorem dX8_layBit_13 : decode cX8_layBit 13 = .ok (.iadd, 1) := by decide +kernel
theorem dX8_layBit_14 : decode cX8_layBit 14 = .ok (.iload_n 3, 1) := by decide +kernel
theorem dX8_layBit_15 : decode cX8_layBit 15 = .ok (.invokevirtual 119, 3) := by decide +kernel
theorem dX8_layBit_18 : decode cX8_layBit 18 = .ok (.aload_n 0, 1) := by decide +kernel
theorem dX8_layBit_19 : decode cX8_layBit 19 = .ok (.bipush 33, 2) := by decide +kernel
theorem dX8_layBit_21 : decode cX8_layBit 21 = .ok (.iload_n 1, 1) := by decide +kernel
theorem dX8_layBit_22 : decode cX8_layBit 22 = .ok (.iadd, 1) := by decide +kernel
theorem dX8_layBit_23 : decode cX8_layBit 23 = .ok (.iload_n 2, 1) := by decide +kernel
theorem dX8_layBit_24 : decode cX8_layBit 24 = .ok (.invokevirtual 119, 3) := by decide +kernel
theorem dX8_layBit_27 : decode cX8_layBit 27 = .ok (.aload_n 0, 1) := by decide +kernel
theorem dX8_layBit_28 : decode cX8_layBit 28 = .ok (.bipush 45, 2) := by decide +kernel
theorem dX8_layBit_30 : decode cX8_layBit 30 = .ok (.iload_n 1, 1) := by decide +kernel
theorem dX8_layBit_31 : decode cX8_layBit 31 = .ok (.iadd, 1) := by decide +kernel
theorem dX8_layBit_32 : decode cX8_layBit 32 = .ok (.iconst (-1), 1) := by decide +kernel
theorem dX8_layBit_33 : decode cX8_layBit 33 = .ok (.invokevirtual 119, 3) := by decide +kernel
theorem dX8_layBit_36 : decode cX8_layBit 36 = .ok (.return_, 1) := by decide +kernel
theorem dX8_fault_0 : decode cX8_fault 0 = .ok (.aload_n 0, 1) := by decide +kernel
theorem dX8_fault_1 : decode cX8_fault 1 = .ok (.getfield 25, 3) := by decide +kernel
theorem dX8_fault_4 : decode cX8_fault 4 = .ok (.ireturn, 1) := by decide +kernel
theorem dX8_does_0 : decode cX8_does 0 = .ok (.aload_n 0, 1) := by decide +kernel
theorem dX8_does_1 : decode cX8_does 1 = .ok (.getfield 43, 3) := by decide +kernel
theorem dX8_does_4 : decode cX8_does 4 = .ok (.aload_n 0, 1) := by decide +kernel
theorem dX8_does_5 : decode cX8_does 5 = .ok (.getfield 185, 3) := by decide +kernel
theorem dX8_does_8 : decode cX8_does 8 = .ok (.iload_n 1, 1) := by decide +kernel
theorem dX8_does_9 : decode cX8_does 9 = .ok (.iastore, 1) := by decide +kernel
theorem dX8_does_10 : decode cX8_does 10 = .ok (.aload_n 0, 1) := by decide +kernel
theorem dX8_does_11 : decode cX8_does 11 = .ok (.dup, 1) := by decide +kernel
theorem dX8_does_12 : decode cX8_does 12 = .ok (.getfield 185, 3) := by decide +kernel
theorem dX8_does_15 : decode cX8_does 15 = .ok (.iconst 1, 1) := by decide +kernel
theorem dX8_does_16 : decode cX8_does 16 = .ok (.iadd, 1) := by decide +kernel
theorem dX8_does_17 : decode cX8_does 17 = .ok (.putfield 185, 3) := by decide +kernel
theorem dX8_does_20 : decode cX8_does 20 = .ok (.return_, 1) := by decide +kernel
theorem dX8_openOne_0 : decode cX8_openOne 0 = .ok (.aload_n 0, 1) := by decide +kernel
theorem dX8_openOne_1 : decode cX8_openOne 1 = .ok (.dup, 1) := by decide +kernel
theorem dX8_openOne_2 : decode cX8_openOne 2 = .ok (.getfield 188, 3) := by decide +kernel
theorem dX8_openOne_5 : decode cX8_openOne 5 = .ok (.iconst 1, 1) := by decide +kernel
theorem dX8_openOne_6 : decode cX8_openOne 6 = .ok (.iadd, 1) := by decide +kernel
theorem dX8_openOne_7 : decode cX8_openOne 7 = .ok (.putfield 188, 3) := by decide +kernel
theorem dX8_openOne_10 : decode cX8_openOne 10 = .ok (.aload_n 0, 1) := by decide +kernel
theorem dX8_openOne_11 : decode cX8_openOne 11 = .ok (.getfield 46, 3) := by decide +kernel
theorem dX8_openOne_14 : decode cX8_openOne 14 = .ok (.aload_n 0, 1) := by decide +kernel
theorem dX8_openOne_15 : decode cX8_openOne 15 = .ok (.getfield 188, 3) := by decide +kernel
theorem dX8_openOne_18 : decode cX8_openOne 18 = .ok (.iload_n 1, 1) := by decide +kernel
theorem dX8_openOne_19 : decode cX8_openOne 19 = .ok (.iastore, 1) := by decide +kernel
theorem dX8_openOne_20 : decode cX8_openOne 20 = .ok (.aload_n 0, 1) := by decide +kernel
theorem dX8_openOne_21 : decode cX8_openOne 21 = .ok (.getfield 49, 3) := by decide +kernel
theorem dX8_openOne_24 : decode cX8_openOne 24 = .ok (.aload_n 0, 1) := by decide +kernel
theorem dX8_openOne_25 : decode cX8_openOne 25 = .ok (.getfield 188, 3) := by decide +kernel
theorem dX8_openOne_28 : decode cX8_openOne 28 = .ok (.iconst 0, 1) := by decide +kernel
theorem dX8_openOne_29 : decode cX8_openOne 29 = .ok (.iastore, 1) := by decide +kernel
theorem dX8_openOne_30 : decode cX8_openOne 30 = .ok (.aload_n 0, 1) := by decide +kernel
theorem dX8_openOne_31 : decode cX8_openOne 31 = .ok (.getfield 55, 3) := by decide +kernel
theorem dX8_openOne_34 : decode cX8_openOne 34 = .ok (.aload_n 0, 1) := by decide +kernel
theorem dX8_openOne_35 : decode cX8_openOne 35 = .ok (.getfield 188, 3) := by decide +kernel
theorem dX8_openOne_38 : decode cX8_openOne 38 = .ok (.iconst 0, 1) := by decide +kernel
theorem dX8_openOne_39 : decode cX8_openOne 39 = .ok (.iastore, 1) := by decide +kernel
theorem dX8_openOne_40 : decode cX8_openOne 40 = .ok (.aload_n 0, 1) := by decide +kernel
theorem dX8_openOne_41 : decode cX8_openOne 41 = .ok (.getfield 58, 3) := by decide +kernel
theorem dX8_openOne_44 : decode cX8_openOne 44 = .ok (.aload_n 0, 1) := by decide +kernel
theorem dX8_openOne_45 : decode cX8_openOne 45 = .ok (.getfield 188, 3) := by decide +kernel
theorem dX8_openOne_48 : decode cX8_openOne 48 = .ok (.iconst 0, 1) := by decide +kernel
theorem dX8_openOne_49 : decode cX8_openOne 49 = .ok (.iastore, 1) := by decide +kernel
theorem dX8_openOne_50 : decode cX8_openOne 50 = .ok (.return_, 1) := by decide +kernel
theorem dX8_letterOf_0 : decode cX8_letterOf 0 = .ok (.iload_n 0, 1) := by decide +kernel
theorem dX8_letterOf_1 : decode cX8_letterOf 1 = .ok (.bipush 105, 2) := by decide +kernel
