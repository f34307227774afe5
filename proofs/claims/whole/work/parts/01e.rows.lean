theorem dX7_end_22 : decode cX7_end 22 = .ok (.putfield 65, 3) := by decide +kernel
theorem dX7_end_25 : decode cX7_end 25 = .ok (.iload_n 1, 1) := by decide +kernel
theorem dX7_end_26 : decode cX7_end 26 = .ok (.ireturn, 1) := by decide +kernel
theorem dX7_text_0 : decode cX7_text 0 = .ok (.aload_n 0, 1) := by decide +kernel
theorem dX7_text_1 : decode cX7_text 1 = .ok (.getfield 23, 3) := by decide +kernel
theorem dX7_text_4 : decode cX7_text 4 = .ok (.invokevirtual 72, 3) := by decide +kernel
theorem dX7_text_7 : decode cX7_text 7 = .ok (.aload_n 0, 1) := by decide +kernel
theorem dX7_text_8 : decode cX7_text 8 = .ok (.getfield 10, 3) := by decide +kernel
theorem dX7_text_11 : decode cX7_text 11 = .ok (.aload_n 0, 1) := by decide +kernel
theorem dX7_text_12 : decode cX7_text 12 = .ok (.getfield 23, 3) := by decide +kernel
theorem dX7_text_15 : decode cX7_text 15 = .ok (.invokestatic 75, 3) := by decide +kernel
theorem dX7_text_18 : decode cX7_text 18 = .ok (.aload_n 0, 1) := by decide +kernel
theorem dX7_text_19 : decode cX7_text 19 = .ok (.invokevirtual 81, 3) := by decide +kernel
theorem dX7_text_22 : decode cX7_text 22 = .ok (.ifCond .ne 5, 3) := by decide +kernel
theorem dX7_text_25 : decode cX7_text 25 = .ok (.iconst (-1), 1) := by decide +kernel
theorem dX7_text_26 : decode cX7_text 26 = .ok (.ireturn, 1) := by decide +kernel
theorem dX7_text_27 : decode cX7_text 27 = .ok (.aload_n 0, 1) := by decide +kernel
theorem dX7_text_28 : decode cX7_text 28 = .ok (.getfield 19, 3) := by decide +kernel
theorem dX7_text_31 : decode cX7_text 31 = .ok (.aload_n 0, 1) := by decide +kernel
theorem dX7_text_32 : decode cX7_text 32 = .ok (.getfield 23, 3) := by decide +kernel
theorem dX7_text_35 : decode cX7_text 35 = .ok (.invokevirtual 85, 3) := by decide +kernel
theorem dX7_text_38 : decode cX7_text 38 = .ok (.aload_n 0, 1) := by decide +kernel
theorem dX7_text_39 : decode cX7_text 39 = .ok (.getfield 19, 3) := by decide +kernel
theorem dX7_text_42 : decode cX7_text 42 = .ok (.iconst 0, 1) := by decide +kernel
theorem dX7_text_43 : decode cX7_text 43 = .ok (.putfield 89, 3) := by decide +kernel
theorem dX7_text_46 : decode cX7_text 46 = .ok (.aload_n 0, 1) := by decide +kernel
theorem dX7_text_47 : decode cX7_text 47 = .ok (.getfield 33, 3) := by decide +kernel
theorem dX7_text_50 : decode cX7_text 50 = .ok (.iconst 0, 1) := by decide +kernel
theorem dX7_text_51 : decode cX7_text 51 = .ok (.putfield 92, 3) := by decide +kernel
theorem dX7_text_54 : decode cX7_text 54 = .ok (.aload_n 0, 1) := by decide +kernel
theorem dX7_text_55 : decode cX7_text 55 = .ok (.getfield 19, 3) := by decide +kernel
theorem dX7_text_58 : decode cX7_text 58 = .ok (.getfield 95, 3) := by decide +kernel
theorem dX7_text_61 : decode cX7_text 61 = .ok (.ireturn, 1) := by decide +kernel
theorem dX7_drift_0 : decode cX7_drift 0 = .ok (.new 96, 3) := by decide +kernel
theorem dX7_drift_3 : decode cX7_drift 3 = .ok (.dup, 1) := by decide +kernel
theorem dX7_drift_4 : decode cX7_drift 4 = .ok (.invokespecial 98, 3) := by decide +kernel
theorem dX7_drift_7 : decode cX7_drift 7 = .ok (.astore_n 1, 1) := by decide +kernel
theorem dX7_drift_8 : decode cX7_drift 8 = .ok (.aload_n 1, 1) := by decide +kernel
theorem dX7_drift_9 : decode cX7_drift 9 = .ok (.aload_n 0, 1) := by decide +kernel
theorem dX7_drift_10 : decode cX7_drift 10 = .ok (.getfield 10, 3) := by decide +kernel
theorem dX7_drift_13 : decode cX7_drift 13 = .ok (.invokevirtual 99, 3) := by decide +kernel
theorem dX7_drift_16 : decode cX7_drift 16 = .ok (.aload_n 0, 1) := by decide +kernel
theorem dX7_drift_17 : decode cX7_drift 17 = .ok (.invokevirtual 81, 3) := by decide +kernel
theorem dX7_drift_20 : decode cX7_drift 20 = .ok (.ifCond .ne 5, 3) := by decide +kernel
theorem dX7_drift_23 : decode cX7_drift 23 = .ok (.iconst (-1), 1) := by decide +kernel
theorem dX7_drift_24 : decode cX7_drift 24 = .ok (.ireturn, 1) := by decide +kernel
theorem dX7_drift_25 : decode cX7_drift 25 = .ok (.aload_n 0, 1) := by decide +kernel
theorem dX7_drift_26 : decode cX7_drift 26 = .ok (.getfield 19, 3) := by decide +kernel
theorem dX7_drift_29 : decode cX7_drift 29 = .ok (.aload_n 1, 1) := by decide +kernel
theorem dX7_drift_30 : decode cX7_drift 30 = .ok (.putfield 102, 3) := by decide +kernel
theorem dX7_drift_33 : decode cX7_drift 33 = .ok (.aload_n 1, 1) := by decide +kernel
theorem dX7_drift_34 : decode cX7_drift 34 = .ok (.getfield 106, 3) := by decide +kernel
theorem dX7_drift_37 : decode cX7_drift 37 = .ok (.ireturn, 1) := by decide +kernel
theorem dX7_bench_0 : decode cX7_bench 0 = .ok (.aload_n 0, 1) := by decide +kernel
theorem dX7_bench_1 : decode cX7_bench 1 = .ok (.getfield 50, 3) := by decide +kernel
theorem dX7_bench_4 : decode cX7_bench 4 = .ok (.aload_n 0, 1) := by decide +kernel
theorem dX7_bench_5 : decode cX7_bench 5 = .ok (.getfield 10, 3) := by decide +kernel
theorem dX7_bench_8 : decode cX7_bench 8 = .ok (.invokevirtual 109, 3) := by decide +kernel
theorem dX7_bench_11 : decode cX7_bench 11 = .ok (.aload_n 0, 1) := by decide +kernel
theorem dX7_bench_12 : decode cX7_bench 12 = .ok (.invokevirtual 81, 3) := by decide +kernel
theorem dX7_bench_15 : decode cX7_bench 15 = .ok (.ifCond .ne 5, 3) := by decide +kernel
theorem dX7_bench_18 : decode cX7_bench 18 = .ok (.iconst (-1), 1) := by decide +kernel
theorem dX7_bench_19 : decode cX7_bench 19 = .ok (.ireturn, 1) := by decide +kernel
theorem dX7_bench_20 : decode cX7_bench 20 = .ok (.aload_n 0, 1) := by decide +kernel
theorem dX7_bench_21 : decode cX7_bench 21 = .ok (.getfield 50, 3) := by decide +kernel
theorem dX7_bench_24 : decode cX7_bench 24 = .ok (.invokevirtual 110, 3) := by decide +kernel
theorem dX7_bench_27 : decode cX7_bench 27 = .ok (.iconst (-1), 1) := by decide +kernel
theorem dX7_bench_28 : decode cX7_bench 28 = .ok (.istore_n 1, 1) := by decide +kernel
theorem dX7_bench_29 : decode cX7_bench 29 = .ok (.iconst 0, 1) := by decide +kernel
theorem dX7_bench_30 : decode cX7_bench 30 = .ok (.istore_n 2, 1) := by decide +kernel
theorem dX7_bench_31 : decode cX7_bench 31 = .ok (.iload_n 2, 1) := by decide +kernel
theorem dX7_bench_32 : decode cX7_bench 32 = .ok (.aload_n 0, 1) := by decide +kernel
theorem dX7_bench_33 : decode cX7_bench 33 = .ok (.getfield 50, 3) := by decide +kernel
theorem dX7_bench_36 : decode cX7_bench 36 = .ok (.getfield 113, 3) := by decide +kernel
theorem dX7_bench_39 : decode cX7_bench 39 = .ok (.if_icmp .ge 71, 3) := by decide +kernel
theorem dX7_bench_42 : decode cX7_bench 42 = .ok (.aload_n 0, 1) := by decide +kernel
theorem dX7_bench_43 : decode cX7_bench 43 = .ok (.aload_n 0, 1) := by decide +kernel
theorem dX7_bench_44 : decode cX7_bench 44 = .ok (.getfield 50, 3) := by decide +kernel
theorem dX7_bench_47 : decode cX7_bench 47 = .ok (.getfield 114, 3) := by decide +kernel
theorem dX7_bench_50 : decode cX7_bench 50 = .ok (.iload_n 2, 1) := by decide +kernel
theorem dX7_bench_51 : decode cX7_bench 51 = .ok (.iaload, 1) := by decide +kernel
theorem dX7_bench_52 : decode cX7_bench 52 = .ok (.aload_n 0, 1) := by decide +kernel
theorem dX7_bench_53 : decode cX7_bench 53 = .ok (.getfield 50, 3) := by decide +kernel
theorem dX7_bench_56 : decode cX7_bench 56 = .ok (.getfield 117, 3) := by decide +kernel
theorem dX7_bench_59 : decode cX7_bench 59 = .ok (.iload_n 2, 1) := by decide +kernel
theorem dX7_bench_60 : decode cX7_bench 60 = .ok (.iaload, 1) := by decide +kernel
theorem dX7_bench_61 : decode cX7_bench 61 = .ok (.aload_n 0, 1) := by decide +kernel
theorem dX7_bench_62 : decode cX7_bench 62 = .ok (.getfield 50, 3) := by decide +kernel
theorem dX7_bench_65 : decode cX7_bench 65 = .ok (.getfield 120, 3) := by decide +kernel
theorem dX7_bench_68 : decode cX7_bench 68 = .ok (.iload_n 2, 1) := by decide +kernel
theorem dX7_bench_69 : decode cX7_bench 69 = .ok (.iaload, 1) := by decide +kernel
theorem dX7_bench_70 : decode cX7_bench 70 = .ok (.iload_n 1, 1) := by decide +kernel
theorem dX7_bench_71 : decode cX7_bench 71 = .ok (.invokevirtual 123, 3) := by decide +kernel
theorem dX7_bench_74 : decode cX7_bench 74 = .ok (.istore_n 1, 1) := by decide +kernel
theorem dX7_bench_75 : decode cX7_bench 75 = .ok (.iload_n 1, 1) := by decide +kernel
theorem dX7_bench_76 : decode cX7_bench 76 = .ok (.iconst (-1), 1) := by decide +kernel
theorem dX7_bench_77 : decode cX7_bench 77 = .ok (.if_icmp .ne 19, 3) := by decide +kernel
theorem dX7_bench_80 : decode cX7_bench 80 = .ok (.aload_n 0, 1) := by decide +kernel
theorem dX7_bench_81 : decode cX7_bench 81 = .ok (.getfield 50, 3) := by decide +kernel
theorem dX7_bench_84 : decode cX7_bench 84 = .ok (.iload_n 2, 1) := by decide +kernel
theorem dX7_bench_85 : decode cX7_bench 85 = .ok (.putfield 127, 3) := by decide +kernel
theorem dX7_bench_88 : decode cX7_bench 88 = .ok (.aload_n 0, 1) := by decide +kernel
theorem dX7_bench_89 : decode cX7_bench 89 = .ok (.getfield 50, 3) := by decide +kernel
theorem dX7_bench_92 : decode cX7_bench 92 = .ok (.getfield 130, 3) := by decide +kernel
theorem dX7_bench_95 : decode cX7_bench 95 = .ok (.ireturn, 1) := by decide +kernel
theorem dX7_bench_96 : decode cX7_bench 96 = .ok (.aload_n 0, 1) := by decide +kernel
theorem dX7_bench_97 : decode cX7_bench 97 = .ok (.getfield 50, 3) := by decide +kernel
theorem dX7_bench_100 : decode cX7_bench 100 = .ok (.iload_n 1, 1) := by decide +kernel
theorem dX7_bench_101 : decode cX7_bench 101 = .ok (.invokevirtual 133, 3) := by decide +kernel
theorem dX7_bench_104 : decode cX7_bench 104 = .ok (.iinc 2 1, 3) := by decide +kernel
theorem dX7_bench_107 : decode cX7_bench 107 = .ok (.goto (-76), 3) := by decide +kernel
theorem dX7_bench_110 : decode cX7_bench 110 = .ok (.aload_n 0, 1) := by decide +kernel
theorem dX7_bench_111 : decode cX7_bench 111 = .ok (.getfield 50, 3) := by decide +kernel
theorem dX7_bench_114 : decode cX7_bench 114 = .ok (.getfield 130, 3) := by decide +kernel
theorem dX7_bench_117 : decode cX7_bench 117 = .ok (.ireturn, 1) := by decide +kernel
theorem dX7_fault_0 : decode cX7_fault 0 = .ok (.aload_n 0, 1) := by decide +kernel
theorem dX7_fault_1 : decode cX7_fault 1 = .ok (.getfield 62, 3) := by decide +kernel
theorem dX7_fault_4 : decode cX7_fault 4 = .ok (.ireturn, 1) := by decide +kernel
theorem dX7_leaveTape_0 : decode cX7_leaveTape 0 = .ok (.aload_n 0, 1) := by decide +kernel
theorem dX7_leaveTape_1 : decode cX7_leaveTape 1 = .ok (.aload_n 0, 1) := by decide +kernel
theorem dX7_leaveTape_2 : decode cX7_leaveTape 2 = .ok (.getfield 10, 3) := by decide +kernel
theorem dX7_leaveTape_5 : decode cX7_leaveTape 5 = .ok (.getfield 136, 3) := by decide +kernel
theorem dX7_leaveTape_8 : decode cX7_leaveTape 8 = .ok (.putfield 62, 3) := by decide +kernel
theorem dX7_leaveTape_11 : decode cX7_leaveTape 11 = .ok (.aload_n 0, 1) := by decide +kernel
theorem dX7_leaveTape_12 : decode cX7_leaveTape 12 = .ok (.getfield 10, 3) := by decide +kernel
theorem dX7_leaveTape_15 : decode cX7_leaveTape 15 = .ok (.iconst 0, 1) := by decide +kernel
theorem dX7_leaveTape_16 : decode cX7_leaveTape 16 = .ok (.putfield 65, 3) := by decide +kernel
theorem dX7_leaveTape_19 : decode cX7_leaveTape 19 = .ok (.aload_n 0, 1) := by decide +kernel
theorem dX7_leaveTape_20 : decode cX7_leaveTape 20 = .ok (.getfield 62, 3) := by decide +kernel
theorem dX7_leaveTape_23 : decode cX7_leaveTape 23 = .ok (.iconst (-1), 1) := by decide +kernel
theorem dX7_leaveTape_24 : decode cX7_leaveTape 24 = .ok (.if_icmp .ne 7, 3) := by decide +kernel
theorem dX7_leaveTape_27 : decode cX7_leaveTape 27 = .ok (.iconst 1, 1) := by decide +kernel
theorem dX7_leaveTape_28 : decode cX7_leaveTape 28 = .ok (.goto 4, 3) := by decide +kernel
theorem dX7_leaveTape_31 : decode cX7_leaveTape 31 = .ok (.iconst 0, 1) := by decide +kernel
theorem dX7_leaveTape_32 : decode cX7_leaveTape 32 = .ok (.ireturn, 1) := by decide +kernel
theorem dX7_perform_0 : decode cX7_perform 0 = .ok (.iload_n 1, 1) := by decide +kernel
theorem dX7_perform_1 : decode cX7_perform 1 = .ok (.lookupswitch 184 #[(61, 172), (99, 83), (102, 159), (104, 115), (108, 94), (111, 144), (112, 105), (115, 129), (120, 164)], 83) := by decide +kernel
theorem dX7_perform_84 : decode cX7_perform 84 = .ok (.aload_n 0, 1) := by decide +kernel
theorem dX7_perform_85 : decode cX7_perform 85 = .ok (.iload_n 2, 1) := by decide +kernel
theorem dX7_perform_86 : decode cX7_perform 86 = .ok (.invokevirtual 139, 3) := by decide +kernel
theorem dX7_perform_89 : decode cX7_perform 89 = .ok (.ldc 143, 2) := by decide +kernel
theorem dX7_perform_91 : decode cX7_perform 91 = .ok (.invokestatic 144, 3) := by decide +kernel
theorem dX7_perform_94 : decode cX7_perform 94 = .ok (.ireturn, 1) := by decide +kernel
theorem dX7_perform_95 : decode cX7_perform 95 = .ok (.aload_n 0, 1) := by decide +kernel
theorem dX7_perform_96 : decode cX7_perform 96 = .ok (.iload_n 2, 1) := by decide +kernel
theorem dX7_perform_97 : decode cX7_perform 97 = .ok (.iload_n 3, 1) := by decide +kernel
theorem dX7_perform_98 : decode cX7_perform 98 = .ok (.invokevirtual 148, 3) := by decide +kernel
theorem dX7_perform_101 : decode cX7_perform 101 = .ok (.iconst (-1), 1) := by decide +kernel
theorem dX7_perform_102 : decode cX7_perform 102 = .ok (.invokestatic 144, 3) := by decide +kernel
theorem dX7_perform_105 : decode cX7_perform 105 = .ok (.ireturn, 1) := by decide +kernel
theorem dX7_perform_106 : decode cX7_perform 106 = .ok (.aload_n 0, 1) := by decide +kernel
theorem dX7_perform_107 : decode cX7_perform 107 = .ok (.iload_n 2, 1) := by decide +kernel
theorem dX7_perform_108 : decode cX7_perform 108 = .ok (.invokevirtual 151, 3) := by decide +kernel
theorem dX7_perform_111 : decode cX7_perform 111 = .ok (.iconst (-1), 1) := by decide +kernel
theorem dX7_perform_112 : decode cX7_perform 112 = .ok (.invokestatic 144, 3) := by decide +kernel
theorem dX7_perform_115 : decode cX7_perform 115 = .ok (.ireturn, 1) := by decide +kernel
theorem dX7_perform_116 : decode cX7_perform 116 = .ok (.aload_n 0, 1) := by decide +kernel
theorem dX7_perform_117 : decode cX7_perform 117 = .ok (.iload_n 2, 1) := by decide +kernel
theorem dX7_perform_118 : decode cX7_perform 118 = .ok (.invokevirtual 154, 3) := by decide +kernel
theorem dX7_perform_121 : decode cX7_perform 121 = .ok (.ifCond .eq 7, 3) := by decide +kernel
theorem dX7_perform_124 : decode cX7_perform 124 = .ok (.iconst 1, 1) := by decide +kernel
theorem dX7_perform_125 : decode cX7_perform 125 = .ok (.goto 4, 3) := by decide +kernel
theorem dX7_perform_128 : decode cX7_perform 128 = .ok (.iconst (-1), 1) := by decide +kernel
theorem dX7_perform_129 : decode cX7_perform 129 = .ok (.ireturn, 1) := by decide +kernel
theorem dX7_perform_130 : decode cX7_perform 130 = .ok (.aload_n 0, 1) := by decide +kernel
theorem dX7_perform_131 : decode cX7_perform 131 = .ok (.iload_n 2, 1) := by decide +kernel
theorem dX7_perform_132 : decode cX7_perform 132 = .ok (.iload_n 3, 1) := by decide +kernel
theorem dX7_perform_133 : decode cX7_perform 133 = .ok (.invokevirtual 158, 3) := by decide +kernel
theorem dX7_perform_136 : decode cX7_perform 136 = .ok (.ifCond .eq 7, 3) := by decide +kernel
theorem dX7_perform_139 : decode cX7_perform 139 = .ok (.iconst 1, 1) := by decide +kernel
theorem dX7_perform_140 : decode cX7_perform 140 = .ok (.goto 4, 3) := by decide +kernel
theorem dX7_perform_143 : decode cX7_perform 143 = .ok (.iconst (-1), 1) := by decide +kernel
theorem dX7_perform_144 : decode cX7_perform 144 = .ok (.ireturn, 1) := by decide +kernel
theorem dX7_perform_145 : decode cX7_perform 145 = .ok (.aload_n 0, 1) := by decide +kernel
theorem dX7_perform_146 : decode cX7_perform 146 = .ok (.iload_n 2, 1) := by decide +kernel
theorem dX7_perform_147 : decode cX7_perform 147 = .ok (.iload_n 3, 1) := by decide +kernel
theorem dX7_perform_148 : decode cX7_perform 148 = .ok (.invokevirtual 162, 3) := by decide +kernel
theorem dX7_perform_151 : decode cX7_perform 151 = .ok (.ifCond .eq 7, 3) := by decide +kernel
theorem dX7_perform_154 : decode cX7_perform 154 = .ok (.iconst 1, 1) := by decide +kernel
theorem dX7_perform_155 : decode cX7_perform 155 = .ok (.goto 4, 3) := by decide +kernel
theorem dX7_perform_158 : decode cX7_perform 158 = .ok (.iconst (-1), 1) := by decide +kernel
theorem dX7_perform_159 : decode cX7_perform 159 = .ok (.ireturn, 1) := by decide +kernel
theorem dX7_perform_160 : decode cX7_perform 160 = .ok (.aload_n 0, 1) := by decide +kernel
theorem dX7_perform_161 : decode cX7_perform 161 = .ok (.invokevirtual 165, 3) := by decide +kernel
theorem dX7_perform_164 : decode cX7_perform 164 = .ok (.ireturn, 1) := by decide +kernel
theorem dX7_perform_165 : decode cX7_perform 165 = .ok (.aload_n 0, 1) := by decide +kernel
theorem dX7_perform_166 : decode cX7_perform 166 = .ok (.iload_n 2, 1) := by decide +kernel
theorem dX7_perform_167 : decode cX7_perform 167 = .ok (.invokevirtual 169, 3) := by decide +kernel
theorem dX7_perform_170 : decode cX7_perform 170 = .ok (.pop, 1) := by decide +kernel
theorem dX7_perform_171 : decode cX7_perform 171 = .ok (.iconst 1, 1) := by decide +kernel
theorem dX7_perform_172 : decode cX7_perform 172 = .ok (.ireturn, 1) := by decide +kernel
theorem dX7_perform_173 : decode cX7_perform 173 = .ok (.iload_n 2, 1) := by decide +kernel
theorem dX7_perform_174 : decode cX7_perform 174 = .ok (.iload 4, 2) := by decide +kernel
theorem dX7_perform_176 : decode cX7_perform 176 = .ok (.if_icmp .ne 7, 3) := by decide +kernel
theorem dX7_perform_179 : decode cX7_perform 179 = .ok (.iload_n 2, 1) := by decide +kernel
theorem dX7_perform_180 : decode cX7_perform 180 = .ok (.goto 4, 3) := by decide +kernel
theorem dX7_perform_183 : decode cX7_perform 183 = .ok (.iconst (-1), 1) := by decide +kernel
theorem dX7_perform_184 : decode cX7_perform 184 = .ok (.ireturn, 1) := by decide +kernel
theorem dX7_perform_185 : decode cX7_perform 185 = .ok (.iconst (-1), 1) := by decide +kernel
theorem dX7_perform_186 : decode cX7_perform 186 = .ok (.ireturn, 1) := by decide +kernel
theorem dX7_toldUnless_0 : decode cX7_toldUnless 0 = .ok (.iload_n 0, 1) := by decide +kernel
theorem dX7_toldUnless_1 : decode cX7_toldUnless 1 = .ok (.iload_n 1, 1) := by decide +kernel
theorem dX7_toldUnless_2 : decode cX7_toldUnless 2 = .ok (.if_icmp .ne 7, 3) := by decide +kernel
theorem dX7_toldUnless_5 : decode cX7_toldUnless 5 = .ok (.iconst (-1), 1) := by decide +kernel
theorem dX7_toldUnless_6 : decode cX7_toldUnless 6 = .ok (.goto 4, 3) := by decide +kernel
theorem dX7_toldUnless_9 : decode cX7_toldUnless 9 = .ok (.iload_n 0, 1) := by decide +kernel
theorem dX7_toldUnless_10 : decode cX7_toldUnless 10 = .ok (.ireturn, 1) := by decide +kernel
theorem dX7_stopped_0 : decode cX7_stopped 0 = .ok (.aload_n 0, 1) := by decide +kernel
theorem dX7_stopped_1 : decode cX7_stopped 1 = .ok (.getfield 50, 3) := by decide +kernel
theorem dX7_stopped_4 : decode cX7_stopped 4 = .ok (.getfield 127, 3) := by decide +kernel
theorem dX7_stopped_7 : decode cX7_stopped 7 = .ok (.ireturn, 1) := by decide +kernel
theorem dX7_row_0 : decode cX7_row 0 = .ok (.iload_n 1, 1) := by decide +kernel
theorem dX7_row_1 : decode cX7_row 1 = .ok (.ifCond .lt 26, 3) := by decide +kernel
theorem dX7_row_4 : decode cX7_row 4 = .ok (.iload_n 1, 1) := by decide +kernel
theorem dX7_row_5 : decode cX7_row 5 = .ok (.aload_n 0, 1) := by decide +kernel
theorem dX7_row_6 : decode cX7_row 6 = .ok (.getfield 50, 3) := by decide +kernel
theorem dX7_row_9 : decode cX7_row 9 = .ok (.getfield 130, 3) := by decide +kernel
theorem dX7_row_12 : decode cX7_row 12 = .ok (.if_icmp .ge 15, 3) := by decide +kernel
theorem dX7_row_15 : decode cX7_row 15 = .ok (.aload_n 0, 1) := by decide +kernel
theorem dX7_row_16 : decode cX7_row 16 = .ok (.getfield 50, 3) := by decide +kernel
theorem dX7_row_19 : decode cX7_row 19 = .ok (.getfield 172, 3) := by decide +kernel
theorem dX7_row_22 : decode cX7_row 22 = .ok (.iload_n 1, 1) := by decide +kernel
theorem dX7_row_23 : decode cX7_row 23 = .ok (.iaload, 1) := by decide +kernel
theorem dX7_row_24 : decode cX7_row 24 = .ok (.goto 5, 3) := by decide +kernel
theorem dX7_row_27 : decode cX7_row 27 = .ok (.ldc 143, 2) := by decide +kernel
theorem dX7_row_29 : decode cX7_row 29 = .ok (.ireturn, 1) := by decide +kernel
theorem dX7_is_0 : decode cX7_is 0 = .ok (.iload_n 1, 1) := by decide +kernel
theorem dX7_is_1 : decode cX7_is 1 = .ok (.tableswitch 178 0 12 #[67, 75, 83, 91, 99, 107, 115, 123, 131, 139, 154, 162, 170], 67) := by decide +kernel
theorem dX7_is_68 : decode cX7_is 68 = .ok (.aload_n 0, 1) := by decide +kernel
theorem dX7_is_69 : decode cX7_is 69 = .ok (.getfield 19, 3) := by decide +kernel
theorem dX7_is_72 : decode cX7_is 72 = .ok (.getfield 95, 3) := by decide +kernel
theorem dX7_is_75 : decode cX7_is 75 = .ok (.ireturn, 1) := by decide +kernel
theorem dX7_is_76 : decode cX7_is 76 = .ok (.aload_n 0, 1) := by decide +kernel
theorem dX7_is_77 : decode cX7_is 77 = .ok (.getfield 19, 3) := by decide +kernel
theorem dX7_is_80 : decode cX7_is 80 = .ok (.getfield 175, 3) := by decide +kernel
theorem dX7_is_83 : decode cX7_is 83 = .ok (.ireturn, 1) := by decide +kernel
theorem dX7_is_84 : decode cX7_is 84 = .ok (.aload_n 0, 1) := by decide +kernel
theorem dX7_is_85 : decode cX7_is 85 = .ok (.getfield 19, 3) := by decide +kernel
theorem dX7_is_88 : decode cX7_is 88 = .ok (.getfield 178, 3) := by decide +kernel
theorem dX7_is_91 : decode cX7_is 91 = .ok (.ireturn, 1) := by decide +kernel
theorem dX7_is_92 : decode cX7_is 92 = .ok (.aload_n 0, 1) := by decide +kernel
theorem dX7_is_93 : decode cX7_is 93 = .ok (.getfield 19, 3) := by decide +kernel
theorem dX7_is_96 : decode cX7_is 96 = .ok (.getfield 181, 3) := by decide +kernel
theorem dX7_is_99 : decode cX7_is 99 = .ok (.ireturn, 1) := by decide +kernel
theorem dX7_is_100 : decode cX7_is 100 = .ok (.aload_n 0, 1) := by decide +kernel
theorem dX7_is_101 : decode cX7_is 101 = .ok (.getfield 19, 3) := by decide +kernel
theorem dX7_is_104 : decode cX7_is 104 = .ok (.getfield 184, 3) := by decide +kernel
theorem dX7_is_107 : decode cX7_is 107 = .ok (.ireturn, 1) := by decide +kernel
theorem dX7_is_108 : decode cX7_is 108 = .ok (.aload_n 0, 1) := by decide +kernel
theorem dX7_is_109 : decode cX7_is 109 = .ok (.getfield 19, 3) := by decide +kernel
theorem dX7_is_112 : decode cX7_is 112 = .ok (.getfield 187, 3) := by decide +kernel
theorem dX7_is_115 : decode cX7_is 115 = .ok (.ireturn, 1) := by decide +kernel
theorem dX7_is_116 : decode cX7_is 116 = .ok (.aload_n 0, 1) := by decide +kernel
theorem dX7_is_117 : decode cX7_is 117 = .ok (.getfield 19, 3) := by decide +kernel
theorem dX7_is_120 : decode cX7_is 120 = .ok (.getfield 190, 3) := by decide +kernel
theorem dX7_is_123 : decode cX7_is 123 = .ok (.ireturn, 1) := by decide +kernel
theorem dX7_is_124 : decode cX7_is 124 = .ok (.aload_n 0, 1) := by decide +kernel
theorem dX7_is_125 : decode cX7_is 125 = .ok (.getfield 19, 3) := by decide +kernel
theorem dX7_is_128 : decode cX7_is 128 = .ok (.getfield 89, 3) := by decide +kernel
theorem dX7_is_131 : decode cX7_is 131 = .ok (.ireturn, 1) := by decide +kernel
theorem dX7_is_132 : decode cX7_is 132 = .ok (.aload_n 0, 1) := by decide +kernel
theorem dX7_is_133 : decode cX7_is 133 = .ok (.getfield 10, 3) := by decide +kernel
theorem dX7_is_136 : decode cX7_is 136 = .ok (.getfield 65, 3) := by decide +kernel
theorem dX7_is_139 : decode cX7_is 139 = .ok (.ireturn, 1) := by decide +kernel
theorem dX7_is_140 : decode cX7_is 140 = .ok (.aload_n 0, 1) := by decide +kernel
theorem dX7_is_141 : decode cX7_is 141 = .ok (.getfield 19, 3) := by decide +kernel
theorem dX7_is_144 : decode cX7_is 144 = .ok (.aload_n 0, 1) := by decide +kernel
theorem dX7_is_145 : decode cX7_is 145 = .ok (.getfield 19, 3) := by decide +kernel
theorem dX7_is_148 : decode cX7_is 148 = .ok (.getfield 95, 3) := by decide +kernel
theorem dX7_is_151 : decode cX7_is 151 = .ok (.invokevirtual 193, 3) := by decide +kernel
theorem dX7_is_154 : decode cX7_is 154 = .ok (.ireturn, 1) := by decide +kernel
theorem dX7_is_155 : decode cX7_is 155 = .ok (.aload_n 0, 1) := by decide +kernel
theorem dX7_is_156 : decode cX7_is 156 = .ok (.getfield 19, 3) := by decide +kernel
theorem dX7_is_159 : decode cX7_is 159 = .ok (.invokevirtual 196, 3) := by decide +kernel
theorem dX7_is_162 : decode cX7_is 162 = .ok (.ireturn, 1) := by decide +kernel
theorem dX7_is_163 : decode cX7_is 163 = .ok (.aload_n 0, 1) := by decide +kernel
theorem dX7_is_164 : decode cX7_is 164 = .ok (.getfield 19, 3) := by decide +kernel
theorem dX7_is_167 : decode cX7_is 167 = .ok (.getfield 199, 3) := by decide +kernel
theorem dX7_is_170 : decode cX7_is 170 = .ok (.ireturn, 1) := by decide +kernel
theorem dX7_is_171 : decode cX7_is 171 = .ok (.aload_n 0, 1) := by decide +kernel
theorem dX7_is_172 : decode cX7_is 172 = .ok (.getfield 19, 3) := by decide +kernel
theorem dX7_is_175 : decode cX7_is 175 = .ok (.getfield 201, 3) := by decide +kernel
theorem dX7_is_178 : decode cX7_is 178 = .ok (.ireturn, 1) := by decide +kernel
theorem dX7_is_179 : decode cX7_is 179 = .ok (.ldc 204, 2) := by decide +kernel
theorem dX7_is_181 : decode cX7_is 181 = .ok (.ireturn, 1) := by decide +kernel
theorem dX7_bit_0 : decode cX7_bit 0 = .ok (.aload_n 0, 1) := by decide +kernel
theorem dX7_bit_1 : decode cX7_bit 1 = .ok (.iload_n 1, 1) := by decide +kernel
theorem dX7_bit_2 : decode cX7_bit 2 = .ok (.invokevirtual 205, 3) := by decide +kernel
theorem dX7_bit_5 : decode cX7_bit 5 = .ok (.ifCond .ne 6, 3) := by decide +kernel
theorem dX7_bit_8 : decode cX7_bit 8 = .ok (.ldc 204, 2) := by decide +kernel
theorem dX7_bit_10 : decode cX7_bit 10 = .ok (.ireturn, 1) := by decide +kernel
theorem dX7_bit_11 : decode cX7_bit 11 = .ok (.iload_n 2, 1) := by decide +kernel
theorem dX7_bit_12 : decode cX7_bit 12 = .ok (.tableswitch 106 0 5 #[40, 50, 60, 70, 80, 89], 40) := by decide +kernel
theorem dX7_bit_52 : decode cX7_bit 52 = .ok (.aload_n 0, 1) := by decide +kernel
theorem dX7_bit_53 : decode cX7_bit 53 = .ok (.getfield 19, 3) := by decide +kernel
theorem dX7_bit_56 : decode cX7_bit 56 = .ok (.getfield 208, 3) := by decide +kernel
theorem dX7_bit_59 : decode cX7_bit 59 = .ok (.iload_n 1, 1) := by decide +kernel
theorem dX7_bit_60 : decode cX7_bit 60 = .ok (.iaload, 1) := by decide +kernel
theorem dX7_bit_61 : decode cX7_bit 61 = .ok (.ireturn, 1) := by decide +kernel
theorem dX7_bit_62 : decode cX7_bit 62 = .ok (.aload_n 0, 1) := by decide +kernel
theorem dX7_bit_63 : decode cX7_bit 63 = .ok (.getfield 19, 3) := by decide +kernel
theorem dX7_bit_66 : decode cX7_bit 66 = .ok (.getfield 211, 3) := by decide +kernel
theorem dX7_bit_69 : decode cX7_bit 69 = .ok (.iload_n 1, 1) := by decide +kernel
theorem dX7_bit_70 : decode cX7_bit 70 = .ok (.iaload, 1) := by decide +kernel
theorem dX7_bit_71 : decode cX7_bit 71 = .ok (.ireturn, 1) := by decide +kernel
theorem dX7_bit_72 : decode cX7_bit 72 = .ok (.aload_n 0, 1) := by decide +kernel
theorem dX7_bit_73 : decode cX7_bit 73 = .ok (.getfield 19, 3) := by decide +kernel
theorem dX7_bit_76 : decode cX7_bit 76 = .ok (.getfield 213, 3) := by decide +kernel
theorem dX7_bit_79 : decode cX7_bit 79 = .ok (.iload_n 1, 1) := by decide +kernel
theorem dX7_bit_80 : decode cX7_bit 80 = .ok (.iaload, 1) := by decide +kernel
theorem dX7_bit_81 : decode cX7_bit 81 = .ok (.ireturn, 1) := by decide +kernel
theorem dX7_bit_82 : decode cX7_bit 82 = .ok (.aload_n 0, 1) := by decide +kernel
theorem dX7_bit_83 : decode cX7_bit 83 = .ok (.getfield 19, 3) := by decide +kernel
theorem dX7_bit_86 : decode cX7_bit 86 = .ok (.getfield 216, 3) := by decide +kernel
theorem dX7_bit_89 : decode cX7_bit 89 = .ok (.iload_n 1, 1) := by decide +kernel
theorem dX7_bit_90 : decode cX7_bit 90 = .ok (.iaload, 1) := by decide +kernel
theorem dX7_bit_91 : decode cX7_bit 91 = .ok (.ireturn, 1) := by decide +kernel
theorem dX7_bit_92 : decode cX7_bit 92 = .ok (.aload_n 0, 1) := by decide +kernel
theorem dX7_bit_93 : decode cX7_bit 93 = .ok (.getfield 19, 3) := by decide +kernel
theorem dX7_bit_96 : decode cX7_bit 96 = .ok (.iload_n 1, 1) := by decide +kernel
theorem dX7_bit_97 : decode cX7_bit 97 = .ok (.invokevirtual 219, 3) := by decide +kernel
theorem dX7_bit_100 : decode cX7_bit 100 = .ok (.ireturn, 1) := by decide +kernel
theorem dX7_bit_101 : decode cX7_bit 101 = .ok (.aload_n 0, 1) := by decide +kernel
theorem dX7_bit_102 : decode cX7_bit 102 = .ok (.getfield 19, 3) := by decide +kernel
theorem dX7_bit_105 : decode cX7_bit 105 = .ok (.iload_n 1, 1) := by decide +kernel
theorem dX7_bit_106 : decode cX7_bit 106 = .ok (.invokevirtual 222, 3) := by decide +kernel
theorem dX7_bit_109 : decode cX7_bit 109 = .ok (.ifCond .eq 7, 3) := by decide +kernel
theorem dX7_bit_112 : decode cX7_bit 112 = .ok (.iconst 1, 1) := by decide +kernel
theorem dX7_bit_113 : decode cX7_bit 113 = .ok (.goto 4, 3) := by decide +kernel
theorem dX7_bit_116 : decode cX7_bit 116 = .ok (.iconst 0, 1) := by decide +kernel
theorem dX7_bit_117 : decode cX7_bit 117 = .ok (.ireturn, 1) := by decide +kernel
theorem dX7_bit_118 : decode cX7_bit 118 = .ok (.ldc 204, 2) := by decide +kernel
theorem dX7_bit_120 : decode cX7_bit 120 = .ok (.ireturn, 1) := by decide +kernel
theorem dX7_off_0 : decode cX7_off 0 = .ok (.aload_n 0, 1) := by decide +kernel
theorem dX7_off_1 : decode cX7_off 1 = .ok (.iload_n 1, 1) := by decide +kernel
theorem dX7_off_2 : decode cX7_off 2 = .ok (.invokevirtual 205, 3) := by decide +kernel
theorem dX7_off_5 : decode cX7_off 5 = .ok (.ifCond .eq 29, 3) := by decide +kernel
theorem dX7_off_8 : decode cX7_off 8 = .ok (.iload_n 2, 1) := by decide +kernel
theorem dX7_off_9 : decode cX7_off 9 = .ok (.bipush (-99), 2) := by decide +kernel
theorem dX7_off_11 : decode cX7_off 11 = .ok (.bipush 99, 2) := by decide +kernel
theorem dX7_off_13 : decode cX7_off 13 = .ok (.invokestatic 225, 3) := by decide +kernel
theorem dX7_off_16 : decode cX7_off 16 = .ok (.ifCond .eq 18, 3) := by decide +kernel
theorem dX7_off_19 : decode cX7_off 19 = .ok (.aload_n 0, 1) := by decide +kernel
theorem dX7_off_20 : decode cX7_off 20 = .ok (.getfield 19, 3) := by decide +kernel
theorem dX7_off_23 : decode cX7_off 23 = .ok (.getfield 208, 3) := by decide +kernel
theorem dX7_off_26 : decode cX7_off 26 = .ok (.iload_n 1, 1) := by decide +kernel
theorem dX7_off_27 : decode cX7_off 27 = .ok (.iaload, 1) := by decide +kernel
theorem dX7_off_28 : decode cX7_off 28 = .ok (.iload_n 2, 1) := by decide +kernel
theorem dX7_off_29 : decode cX7_off 29 = .ok (.iadd, 1) := by decide +kernel
theorem dX7_off_30 : decode cX7_off 30 = .ok (.iconst 1, 1) := by decide +kernel
theorem dX7_off_31 : decode cX7_off 31 = .ok (.if_icmp .ge 5, 3) := by decide +kernel
theorem dX7_off_34 : decode cX7_off 34 = .ok (.iconst 0, 1) := by decide +kernel
theorem dX7_off_35 : decode cX7_off 35 = .ok (.ireturn, 1) := by decide +kernel
theorem dX7_off_36 : decode cX7_off 36 = .ok (.aload_n 0, 1) := by decide +kernel
theorem dX7_off_37 : decode cX7_off 37 = .ok (.getfield 19, 3) := by decide +kernel
theorem dX7_off_40 : decode cX7_off 40 = .ok (.getfield 211, 3) := by decide +kernel
theorem dX7_off_43 : decode cX7_off 43 = .ok (.iload_n 1, 1) := by decide +kernel
theorem dX7_off_44 : decode cX7_off 44 = .ok (.iload_n 2, 1) := by decide +kernel
theorem dX7_off_45 : decode cX7_off 45 = .ok (.iastore, 1) := by decide +kernel
theorem dX7_off_46 : decode cX7_off 46 = .ok (.iconst 1, 1) := by decide +kernel
theorem dX7_off_47 : decode cX7_off 47 = .ok (.ireturn, 1) := by decide +kernel
theorem dX7_set_0 : decode cX7_set 0 = .ok (.iload_n 1, 1) := by decide +kernel
theorem dX7_set_1 : decode cX7_set 1 = .ok (.iload_n 2, 1) := by decide +kernel
theorem dX7_set_2 : decode cX7_set 2 = .ok (.invokestatic 229, 3) := by decide +kernel
theorem dX7_set_5 : decode cX7_set 5 = .ok (.ifCond .ne 5, 3) := by decide +kernel
theorem dX7_set_8 : decode cX7_set 8 = .ok (.iconst 0, 1) := by decide +kernel
theorem dX7_set_9 : decode cX7_set 9 = .ok (.ireturn, 1) := by decide +kernel
theorem dX7_set_10 : decode cX7_set 10 = .ok (.aload_n 0, 1) := by decide +kernel
theorem dX7_set_11 : decode cX7_set 11 = .ok (.getfield 19, 3) := by decide +kernel
theorem dX7_set_14 : decode cX7_set 14 = .ok (.iload_n 1, 1) := by decide +kernel
theorem dX7_set_15 : decode cX7_set 15 = .ok (.iload_n 2, 1) := by decide +kernel
theorem dX7_set_16 : decode cX7_set 16 = .ok (.invokevirtual 232, 3) := by decide +kernel
theorem dX7_set_19 : decode cX7_set 19 = .ok (.iconst 1, 1) := by decide +kernel
theorem dX7_set_20 : decode cX7_set 20 = .ok (.ireturn, 1) := by decide +kernel
theorem dX7_stick_0 : decode cX7_stick 0 = .ok (.aload_n 0, 1) := by decide +kernel
theorem dX7_stick_1 : decode cX7_stick 1 = .ok (.iload_n 1, 1) := by decide +kernel
theorem dX7_stick_2 : decode cX7_stick 2 = .ok (.invokevirtual 205, 3) := by decide +kernel
theorem dX7_stick_5 : decode cX7_stick 5 = .ok (.ifCond .eq 12, 3) := by decide +kernel
theorem dX7_stick_8 : decode cX7_stick 8 = .ok (.iload_n 2, 1) := by decide +kernel
theorem dX7_stick_9 : decode cX7_stick 9 = .ok (.iconst (-1), 1) := by decide +kernel
theorem dX7_stick_10 : decode cX7_stick 10 = .ok (.iconst 1, 1) := by decide +kernel
theorem dX7_stick_11 : decode cX7_stick 11 = .ok (.invokestatic 225, 3) := by decide +kernel
theorem dX7_stick_14 : decode cX7_stick 14 = .ok (.ifCond .ne 5, 3) := by decide +kernel
theorem dX7_stick_17 : decode cX7_stick 17 = .ok (.iconst 0, 1) := by decide +kernel
theorem dX7_stick_18 : decode cX7_stick 18 = .ok (.ireturn, 1) := by decide +kernel
theorem dX7_stick_19 : decode cX7_stick 19 = .ok (.aload_n 0, 1) := by decide +kernel
theorem dX7_stick_20 : decode cX7_stick 20 = .ok (.getfield 19, 3) := by decide +kernel
theorem dX7_stick_23 : decode cX7_stick 23 = .ok (.getfield 216, 3) := by decide +kernel
theorem dX7_stick_26 : decode cX7_stick 26 = .ok (.iload_n 1, 1) := by decide +kernel
theorem dX7_stick_27 : decode cX7_stick 27 = .ok (.iload_n 2, 1) := by decide +kernel
theorem dX7_stick_28 : decode cX7_stick 28 = .ok (.iastore, 1) := by decide +kernel
theorem dX7_stick_29 : decode cX7_stick 29 = .ok (.iconst 1, 1) := by decide +kernel
theorem dX7_stick_30 : decode cX7_stick 30 = .ok (.ireturn, 1) := by decide +kernel
theorem dX7_seed_0 : decode cX7_seed 0 = .ok (.aload_n 0, 1) := by decide +kernel
theorem dX7_seed_1 : decode cX7_seed 1 = .ok (.getfield 19, 3) := by decide +kernel
theorem dX7_seed_4 : decode cX7_seed 4 = .ok (.getfield 190, 3) := by decide +kernel
theorem dX7_seed_7 : decode cX7_seed 7 = .ok (.istore_n 2, 1) := by decide +kernel
theorem dX7_seed_8 : decode cX7_seed 8 = .ok (.aload_n 0, 1) := by decide +kernel
theorem dX7_seed_9 : decode cX7_seed 9 = .ok (.getfield 19, 3) := by decide +kernel
theorem dX7_seed_12 : decode cX7_seed 12 = .ok (.iload_n 1, 1) := by decide +kernel
theorem dX7_seed_13 : decode cX7_seed 13 = .ok (.putfield 190, 3) := by decide +kernel
theorem dX7_seed_16 : decode cX7_seed 16 = .ok (.iload_n 2, 1) := by decide +kernel
theorem dX7_seed_17 : decode cX7_seed 17 = .ok (.ireturn, 1) := by decide +kernel
theorem dX7_heat_0 : decode cX7_heat 0 = .ok (.iload_n 1, 1) := by decide +kernel
theorem dX7_heat_1 : decode cX7_heat 1 = .ok (.iconst 0, 1) := by decide +kernel
theorem dX7_heat_2 : decode cX7_heat 2 = .ok (.bipush 99, 2) := by decide +kernel
theorem dX7_heat_4 : decode cX7_heat 4 = .ok (.invokestatic 225, 3) := by decide +kernel
theorem dX7_heat_7 : decode cX7_heat 7 = .ok (.ifCond .ne 5, 3) := by decide +kernel
theorem dX7_heat_10 : decode cX7_heat 10 = .ok (.iconst 0, 1) := by decide +kernel
theorem dX7_heat_11 : decode cX7_heat 11 = .ok (.ireturn, 1) := by decide +kernel
theorem dX7_heat_12 : decode cX7_heat 12 = .ok (.aload_n 0, 1) := by decide +kernel
theorem dX7_heat_13 : decode cX7_heat 13 = .ok (.getfield 19, 3) := by decide +kernel
theorem dX7_heat_16 : decode cX7_heat 16 = .ok (.iload_n 1, 1) := by decide +kernel
theorem dX7_heat_17 : decode cX7_heat 17 = .ok (.putfield 199, 3) := by decide +kernel
theorem dX7_heat_20 : decode cX7_heat 20 = .ok (.iconst 1, 1) := by decide +kernel
theorem dX7_heat_21 : decode cX7_heat 21 = .ok (.ireturn, 1) := by decide +kernel
theorem dX7_convert_0 : decode cX7_convert 0 = .ok (.aload_n 0, 1) := by decide +kernel
theorem dX7_convert_1 : decode cX7_convert 1 = .ok (.getfield 19, 3) := by decide +kernel
theorem dX7_convert_4 : decode cX7_convert 4 = .ok (.getfield 95, 3) := by decide +kernel
theorem dX7_convert_7 : decode cX7_convert 7 = .ok (.ifCond .eq 10, 3) := by decide +kernel
theorem dX7_convert_10 : decode cX7_convert 10 = .ok (.iload_n 1, 1) := by decide +kernel
theorem dX7_convert_11 : decode cX7_convert 11 = .ok (.invokestatic 236, 3) := by decide +kernel
theorem dX7_convert_14 : decode cX7_convert 14 = .ok (.ifCond .ne 6, 3) := by decide +kernel
theorem dX7_convert_17 : decode cX7_convert 17 = .ok (.ldc 143, 2) := by decide +kernel
theorem dX7_convert_19 : decode cX7_convert 19 = .ok (.ireturn, 1) := by decide +kernel
theorem dX7_convert_20 : decode cX7_convert 20 = .ok (.aload_n 0, 1) := by decide +kernel
theorem dX7_convert_21 : decode cX7_convert 21 = .ok (.getfield 19, 3) := by decide +kernel
theorem dX7_convert_24 : decode cX7_convert 24 = .ok (.iload_n 1, 1) := by decide +kernel
theorem dX7_convert_25 : decode cX7_convert 25 = .ok (.aload_n 0, 1) := by decide +kernel
theorem dX7_convert_26 : decode cX7_convert 26 = .ok (.getfield 19, 3) := by decide +kernel
theorem dX7_convert_29 : decode cX7_convert 29 = .ok (.getfield 175, 3) := by decide +kernel
theorem dX7_convert_32 : decode cX7_convert 32 = .ok (.aload_n 0, 1) := by decide +kernel
theorem dX7_convert_33 : decode cX7_convert 33 = .ok (.getfield 19, 3) := by decide +kernel
theorem dX7_convert_36 : decode cX7_convert 36 = .ok (.getfield 95, 3) := by decide +kernel
theorem dX7_convert_39 : decode cX7_convert 39 = .ok (.aload_n 0, 1) := by decide +kernel
theorem dX7_convert_40 : decode cX7_convert 40 = .ok (.getfield 33, 3) := by decide +kernel
theorem dX7_convert_43 : decode cX7_convert 43 = .ok (.invokevirtual 239, 3) := by decide +kernel
theorem dX7_convert_46 : decode cX7_convert 46 = .ok (.aload_n 0, 1) := by decide +kernel
theorem dX7_convert_47 : decode cX7_convert 47 = .ok (.getfield 33, 3) := by decide +kernel
theorem dX7_convert_50 : decode cX7_convert 50 = .ok (.getfield 243, 3) := by decide +kernel
theorem dX7_convert_53 : decode cX7_convert 53 = .ok (.ireturn, 1) := by decide +kernel
theorem dX7_decision_0 : decode cX7_decision 0 = .ok (.iload_n 1, 1) := by decide +kernel
theorem dX7_decision_1 : decode cX7_decision 1 = .ok (.ifCond .lt 14, 3) := by decide +kernel
theorem dX7_decision_4 : decode cX7_decision 4 = .ok (.iload_n 1, 1) := by decide +kernel
theorem dX7_decision_5 : decode cX7_decision 5 = .ok (.aload_n 0, 1) := by decide +kernel
theorem dX7_decision_6 : decode cX7_decision 6 = .ok (.getfield 33, 3) := by decide +kernel
theorem dX7_decision_9 : decode cX7_decision 9 = .ok (.getfield 92, 3) := by decide +kernel
theorem dX7_decision_12 : decode cX7_decision 12 = .ok (.if_icmp .lt 6, 3) := by decide +kernel
theorem dX7_decision_15 : decode cX7_decision 15 = .ok (.ldc 143, 2) := by decide +kernel
theorem dX7_decision_17 : decode cX7_decision 17 = .ok (.ireturn, 1) := by decide +kernel
theorem dX7_decision_18 : decode cX7_decision 18 = .ok (.iload_n 2, 1) := by decide +kernel
theorem dX7_decision_19 : decode cX7_decision 19 = .ok (.tableswitch 69 0 3 #[29, 39, 49, 59], 29) := by decide +kernel
theorem dX7_decision_48 : decode cX7_decision 48 = .ok (.aload_n 0, 1) := by decide +kernel
theorem dX7_decision_49 : decode cX7_decision 49 = .ok (.getfield 33, 3) := by decide +kernel
theorem dX7_decision_52 : decode cX7_decision 52 = .ok (.getfield 246, 3) := by decide +kernel
theorem dX7_decision_55 : decode cX7_decision 55 = .ok (.iload_n 1, 1) := by decide +kernel
theorem dX7_decision_56 : decode cX7_decision 56 = .ok (.iaload, 1) := by decide +kernel
theorem dX7_decision_57 : decode cX7_decision 57 = .ok (.ireturn, 1) := by decide +kernel
theorem dX7_decision_58 : decode cX7_decision 58 = .ok (.aload_n 0, 1) := by decide +kernel
theorem dX7_decision_59 : decode cX7_decision 59 = .ok (.getfield 33, 3) := by decide +kernel
theorem dX7_decision_62 : decode cX7_decision 62 = .ok (.getfield 247, 3) := by decide +kernel
theorem dX7_decision_65 : decode cX7_decision 65 = .ok (.iload_n 1, 1) := by decide +kernel
theorem dX7_decision_66 : decode cX7_decision 66 = .ok (.iaload, 1) := by decide +kernel
theorem dX7_decision_67 : decode cX7_decision 67 = .ok (.ireturn, 1) := by decide +kernel
theorem dX7_decision_68 : decode cX7_decision 68 = .ok (.aload_n 0, 1) := by decide +kernel
theorem dX7_decision_69 : decode cX7_decision 69 = .ok (.getfield 33, 3) := by decide +kernel
theorem dX7_decision_72 : decode cX7_decision 72 = .ok (.getfield 250, 3) := by decide +kernel
theorem dX7_decision_75 : decode cX7_decision 75 = .ok (.iload_n 1, 1) := by decide +kernel
theorem dX7_decision_76 : decode cX7_decision 76 = .ok (.iaload, 1) := by decide +kernel
theorem dX7_decision_77 : decode cX7_decision 77 = .ok (.ireturn, 1) := by decide +kernel
theorem dX7_decision_78 : decode cX7_decision 78 = .ok (.aload_n 0, 1) := by decide +kernel
theorem dX7_decision_79 : decode cX7_decision 79 = .ok (.getfield 33, 3) := by decide +kernel
theorem dX7_decision_82 : decode cX7_decision 82 = .ok (.getfield 253, 3) := by decide +kernel
theorem dX7_decision_85 : decode cX7_decision 85 = .ok (.iload_n 1, 1) := by decide +kernel
theorem dX7_decision_86 : decode cX7_decision 86 = .ok (.iaload, 1) := by decide +kernel
theorem dX7_decision_87 : decode cX7_decision 87 = .ok (.ireturn, 1) := by decide +kernel
theorem dX7_decision_88 : decode cX7_decision 88 = .ok (.ldc 143, 2) := by decide +kernel
theorem dX7_decision_90 : decode cX7_decision 90 = .ok (.ireturn, 1) := by decide +kernel
theorem dX7_converted_0 : decode cX7_converted 0 = .ok (.aload_n 0, 1) := by decide +kernel
theorem dX7_converted_1 : decode cX7_converted 1 = .ok (.getfield 33, 3) := by decide +kernel
theorem dX7_converted_4 : decode cX7_converted 4 = .ok (.getfield 92, 3) := by decide +kernel
theorem dX7_converted_7 : decode cX7_converted 7 = .ok (.ifCond .ne 6, 3) := by decide +kernel
theorem dX7_converted_10 : decode cX7_converted 10 = .ok (.ldc 143, 2) := by decide +kernel
theorem dX7_converted_12 : decode cX7_converted 12 = .ok (.ireturn, 1) := by decide +kernel
theorem dX7_converted_13 : decode cX7_converted 13 = .ok (.iload_n 1, 1) := by decide +kernel
theorem dX7_converted_14 : decode cX7_converted 14 = .ok (.tableswitch 86 0 5 #[38, 46, 54, 62, 70, 78], 38) := by decide +kernel
theorem dX7_converted_52 : decode cX7_converted 52 = .ok (.aload_n 0, 1) := by decide +kernel
theorem dX7_converted_53 : decode cX7_converted 53 = .ok (.getfield 33, 3) := by decide +kernel
theorem dX7_converted_56 : decode cX7_converted 56 = .ok (.getfield 256, 3) := by decide +kernel
theorem dX7_converted_59 : decode cX7_converted 59 = .ok (.ireturn, 1) := by decide +kernel
theorem dX7_converted_60 : decode cX7_converted 60 = .ok (.aload_n 0, 1) := by decide +kernel
theorem dX7_converted_61 : decode cX7_converted 61 = .ok (.getfield 33, 3) := by decide +kernel
theorem dX7_converted_64 : decode cX7_converted 64 = .ok (.getfield 259, 3) := by decide +kernel
theorem dX7_converted_67 : decode cX7_converted 67 = .ok (.ireturn, 1) := by decide +kernel
theorem dX7_converted_68 : decode cX7_converted 68 = .ok (.aload_n 0, 1) := by decide +kernel
theorem dX7_converted_69 : decode cX7_converted 69 = .ok (.getfield 33, 3) := by decide +kernel
theorem dX7_converted_72 : decode cX7_converted 72 = .ok (.getfield 262, 3) := by decide +kernel
theorem dX7_converted_75 : decode cX7_converted 75 = .ok (.ireturn, 1) := by decide +kernel
theorem dX7_converted_76 : decode cX7_converted 76 = .ok (.aload_n 0, 1) := by decide +kernel
theorem dX7_converted_77 : decode cX7_converted 77 = .ok (.getfield 33, 3) := by decide +kernel
theorem dX7_converted_80 : decode cX7_converted 80 = .ok (.getfield 265, 3) := by decide +kernel
theorem dX7_converted_83 : decode cX7_converted 83 = .ok (.ireturn, 1) := by decide +kernel
theorem dX7_converted_84 : decode cX7_converted 84 = .ok (.aload_n 0, 1) := by decide +kernel
theorem dX7_converted_85 : decode cX7_converted 85 = .ok (.getfield 33, 3) := by decide +kernel
theorem dX7_converted_88 : decode cX7_converted 88 = .ok (.getfield 268, 3) := by decide +kernel
theorem dX7_converted_91 : decode cX7_converted 91 = .ok (.ireturn, 1) := by decide +kernel
theorem dX7_converted_92 : decode cX7_converted 92 = .ok (.aload_n 0, 1) := by decide +kernel
theorem dX7_converted_93 : decode cX7_converted 93 = .ok (.getfield 33, 3) := by decide +kernel
theorem dX7_converted_96 : decode cX7_converted 96 = .ok (.getfield 243, 3) := by decide +kernel
theorem dX7_converted_99 : decode cX7_converted 99 = .ok (.ireturn, 1) := by decide +kernel
theorem dX7_converted_100 : decode cX7_converted 100 = .ok (.ldc 143, 2) := by decide +kernel
theorem dX7_converted_102 : decode cX7_converted 102 = .ok (.ireturn, 1) := by decide +kernel
theorem dX7_write_0 : decode cX7_write 0 = .ok (.aload_n 0, 1) := by decide +kernel
theorem dX7_write_1 : decode cX7_write 1 = .ok (.getfield 33, 3) := by decide +kernel
theorem dX7_write_4 : decode cX7_write 4 = .ok (.getfield 92, 3) := by decide +kernel
theorem dX7_write_7 : decode cX7_write 7 = .ok (.ifCond .ne 5, 3) := by decide +kernel
theorem dX7_write_10 : decode cX7_write 10 = .ok (.iconst (-1), 1) := by decide +kernel
theorem dX7_write_11 : decode cX7_write 11 = .ok (.ireturn, 1) := by decide +kernel
theorem dX7_write_12 : decode cX7_write 12 = .ok (.aload_n 0, 1) := by decide +kernel
theorem dX7_write_13 : decode cX7_write 13 = .ok (.iconst 0, 1) := by decide +kernel
theorem dX7_write_14 : decode cX7_write 14 = .ok (.putfield 58, 3) := by decide +kernel
theorem dX7_write_17 : decode cX7_write 17 = .ok (.aload_n 0, 1) := by decide +kernel
theorem dX7_write_18 : decode cX7_write 18 = .ok (.getfield 33, 3) := by decide +kernel
theorem dX7_write_21 : decode cX7_write 21 = .ok (.getfield 92, 3) := by decide +kernel
theorem dX7_write_24 : decode cX7_write 24 = .ok (.iconst 1, 1) := by decide +kernel
theorem dX7_write_25 : decode cX7_write 25 = .ok (.isub, 1) := by decide +kernel
theorem dX7_write_26 : decode cX7_write 26 = .ok (.istore_n 1, 1) := by decide +kernel
theorem dX7_write_27 : decode cX7_write 27 = .ok (.iload_n 1, 1) := by decide +kernel
theorem dX7_write_28 : decode cX7_write 28 = .ok (.ifCond .lt 36, 3) := by decide +kernel
theorem dX7_write_31 : decode cX7_write 31 = .ok (.aload_n 0, 1) := by decide +kernel
theorem dX7_write_32 : decode cX7_write 32 = .ok (.getfield 54, 3) := by decide +kernel
theorem dX7_write_35 : decode cX7_write 35 = .ok (.aload_n 0, 1) := by decide +kernel
theorem dX7_write_36 : decode cX7_write 36 = .ok (.getfield 58, 3) := by decide +kernel
theorem dX7_write_39 : decode cX7_write 39 = .ok (.aload_n 0, 1) := by decide +kernel
theorem dX7_write_40 : decode cX7_write 40 = .ok (.getfield 33, 3) := by decide +kernel
theorem dX7_write_43 : decode cX7_write 43 = .ok (.iload_n 1, 1) := by decide +kernel
theorem dX7_write_44 : decode cX7_write 44 = .ok (.invokevirtual 271, 3) := by decide +kernel
theorem dX7_write_47 : decode cX7_write 47 = .ok (.iastore, 1) := by decide +kernel
theorem dX7_write_48 : decode cX7_write 48 = .ok (.aload_n 0, 1) := by decide +kernel
theorem dX7_write_49 : decode cX7_write 49 = .ok (.dup, 1) := by decide +kernel
theorem dX7_write_50 : decode cX7_write 50 = .ok (.getfield 58, 3) := by decide +kernel
theorem dX7_write_53 : decode cX7_write 53 = .ok (.iconst 1, 1) := by decide +kernel
theorem dX7_write_54 : decode cX7_write 54 = .ok (.iadd, 1) := by decide +kernel
theorem dX7_write_55 : decode cX7_write 55 = .ok (.putfield 58, 3) := by decide +kernel
theorem dX7_write_58 : decode cX7_write 58 = .ok (.iinc 1 (-1), 3) := by decide +kernel
theorem dX7_write_61 : decode cX7_write 61 = .ok (.goto (-34), 3) := by decide +kernel
theorem dX7_write_64 : decode cX7_write 64 = .ok (.aload_n 0, 1) := by decide +kernel
theorem dX7_write_65 : decode cX7_write 65 = .ok (.getfield 58, 3) := by decide +kernel
theorem dX7_write_68 : decode cX7_write 68 = .ok (.ireturn, 1) := by decide +kernel
theorem dX7_octet_0 : decode cX7_octet 0 = .ok (.iload_n 1, 1) := by decide +kernel
theorem dX7_octet_1 : decode cX7_octet 1 = .ok (.ifCond .lt 20, 3) := by decide +kernel
theorem dX7_octet_4 : decode cX7_octet 4 = .ok (.iload_n 1, 1) := by decide +kernel
theorem dX7_octet_5 : decode cX7_octet 5 = .ok (.aload_n 0, 1) := by decide +kernel
theorem dX7_octet_6 : decode cX7_octet 6 = .ok (.getfield 58, 3) := by decide +kernel
theorem dX7_octet_9 : decode cX7_octet 9 = .ok (.if_icmp .ge 12, 3) := by decide +kernel
theorem dX7_octet_12 : decode cX7_octet 12 = .ok (.aload_n 0, 1) := by decide +kernel
theorem dX7_octet_13 : decode cX7_octet 13 = .ok (.getfield 54, 3) := by decide +kernel
theorem dX7_octet_16 : decode cX7_octet 16 = .ok (.iload_n 1, 1) := by decide +kernel
theorem dX7_octet_17 : decode cX7_octet 17 = .ok (.iaload, 1) := by decide +kernel
theorem dX7_octet_18 : decode cX7_octet 18 = .ok (.goto 4, 3) := by decide +kernel
theorem dX7_octet_21 : decode cX7_octet 21 = .ok (.iconst (-1), 1) := by decide +kernel
theorem dX7_octet_22 : decode cX7_octet 22 = .ok (.ireturn, 1) := by decide +kernel
theorem dX7_mean_0 : decode cX7_mean 0 = .ok (.aload_n 0, 1) := by decide +kernel
theorem dX7_mean_1 : decode cX7_mean 1 = .ok (.getfield 19, 3) := by decide +kernel
theorem dX7_mean_4 : decode cX7_mean 4 = .ok (.getfield 95, 3) := by decide +kernel
theorem dX7_mean_7 : decode cX7_mean 7 = .ok (.ifCond .eq 20, 3) := by decide +kernel
theorem dX7_mean_10 : decode cX7_mean 10 = .ok (.iload_n 1, 1) := by decide +kernel
theorem dX7_mean_11 : decode cX7_mean 11 = .ok (.invokestatic 236, 3) := by decide +kernel
theorem dX7_mean_14 : decode cX7_mean 14 = .ok (.ifCond .eq 13, 3) := by decide +kernel
theorem dX7_mean_17 : decode cX7_mean 17 = .ok (.iload_n 2, 1) := by decide +kernel
theorem dX7_mean_18 : decode cX7_mean 18 = .ok (.iconst 1, 1) := by decide +kernel
theorem dX7_mean_19 : decode cX7_mean 19 = .ok (.bipush 100, 2) := by decide +kernel
theorem dX7_mean_21 : decode cX7_mean 21 = .ok (.invokestatic 225, 3) := by decide +kernel
theorem dX7_mean_24 : decode cX7_mean 24 = .ok (.ifCond .ne 6, 3) := by decide +kernel
theorem dX7_mean_27 : decode cX7_mean 27 = .ok (.ldc 143, 2) := by decide +kernel
theorem dX7_mean_29 : decode cX7_mean 29 = .ok (.ireturn, 1) := by decide +kernel
theorem dX7_mean_30 : decode cX7_mean 30 = .ok (.lconst 0, 1) := by decide +kernel
theorem dX7_mean_31 : decode cX7_mean 31 = .ok (.lstore_n 3, 1) := by decide +kernel
theorem dX7_mean_32 : decode cX7_mean 32 = .ok (.iconst 0, 1) := by decide +kernel
theorem dX7_mean_33 : decode cX7_mean 33 = .ok (.istore 5, 2) := by decide +kernel
theorem dX7_mean_35 : decode cX7_mean 35 = .ok (.iload 5, 2) := by decide +kernel
theorem dX7_mean_37 : decode cX7_mean 37 = .ok (.iload_n 2, 1) := by decide +kernel
theorem dX7_mean_38 : decode cX7_mean 38 = .ok (.if_icmp .ge 46, 3) := by decide +kernel
theorem dX7_mean_41 : decode cX7_mean 41 = .ok (.aload_n 0, 1) := by decide +kernel
theorem dX7_mean_42 : decode cX7_mean 42 = .ok (.getfield 19, 3) := by decide +kernel
theorem dX7_mean_45 : decode cX7_mean 45 = .ok (.iload_n 1, 1) := by decide +kernel
theorem dX7_mean_46 : decode cX7_mean 46 = .ok (.aload_n 0, 1) := by decide +kernel
theorem dX7_mean_47 : decode cX7_mean 47 = .ok (.getfield 19, 3) := by decide +kernel
theorem dX7_mean_50 : decode cX7_mean 50 = .ok (.getfield 175, 3) := by decide +kernel
theorem dX7_mean_53 : decode cX7_mean 53 = .ok (.aload_n 0, 1) := by decide +kernel
theorem dX7_mean_54 : decode cX7_mean 54 = .ok (.getfield 19, 3) := by decide +kernel
theorem dX7_mean_57 : decode cX7_mean 57 = .ok (.getfield 95, 3) := by decide +kernel
theorem dX7_mean_60 : decode cX7_mean 60 = .ok (.aload_n 0, 1) := by decide +kernel
theorem dX7_mean_61 : decode cX7_mean 61 = .ok (.getfield 37, 3) := by decide +kernel
theorem dX7_mean_64 : decode cX7_mean 64 = .ok (.invokevirtual 239, 3) := by decide +kernel
theorem dX7_mean_67 : decode cX7_mean 67 = .ok (.lload_n 3, 1) := by decide +kernel
theorem dX7_mean_68 : decode cX7_mean 68 = .ok (.aload_n 0, 1) := by decide +kernel
theorem dX7_mean_69 : decode cX7_mean 69 = .ok (.getfield 37, 3) := by decide +kernel
theorem dX7_mean_72 : decode cX7_mean 72 = .ok (.getfield 243, 3) := by decide +kernel
theorem dX7_mean_75 : decode cX7_mean 75 = .ok (.i2l, 1) := by decide +kernel
theorem dX7_mean_76 : decode cX7_mean 76 = .ok (.ladd, 1) := by decide +kernel
theorem dX7_mean_77 : decode cX7_mean 77 = .ok (.lstore_n 3, 1) := by decide +kernel
theorem dX7_mean_78 : decode cX7_mean 78 = .ok (.iinc 5 1, 3) := by decide +kernel
theorem dX7_mean_81 : decode cX7_mean 81 = .ok (.goto (-46), 3) := by decide +kernel
theorem dX7_mean_84 : decode cX7_mean 84 = .ok (.lload_n 3, 1) := by decide +kernel
theorem dX7_mean_85 : decode cX7_mean 85 = .ok (.iload_n 2, 1) := by decide +kernel
theorem dX7_mean_86 : decode cX7_mean 86 = .ok (.invokestatic 274, 3) := by decide +kernel
theorem dX7_mean_89 : decode cX7_mean 89 = .ok (.ireturn, 1) := by decide +kernel
theorem dX7_learn_0 : decode cX7_learn 0 = .ok (.iload_n 1, 1) := by decide +kernel
theorem dX7_learn_1 : decode cX7_learn 1 = .ok (.iconst 1, 1) := by decide +kernel
theorem dX7_learn_2 : decode cX7_learn 2 = .ok (.aload_n 0, 1) := by decide +kernel
theorem dX7_learn_3 : decode cX7_learn 3 = .ok (.getfield 19, 3) := by decide +kernel
theorem dX7_learn_6 : decode cX7_learn 6 = .ok (.getfield 95, 3) := by decide +kernel
theorem dX7_learn_9 : decode cX7_learn 9 = .ok (.invokestatic 225, 3) := by decide +kernel
theorem dX7_learn_12 : decode cX7_learn 12 = .ok (.ifCond .eq 13, 3) := by decide +kernel
theorem dX7_learn_15 : decode cX7_learn 15 = .ok (.iload_n 2, 1) := by decide +kernel
theorem dX7_learn_16 : decode cX7_learn 16 = .ok (.iconst 1, 1) := by decide +kernel
theorem dX7_learn_17 : decode cX7_learn 17 = .ok (.bipush 8, 2) := by decide +kernel
theorem dX7_learn_19 : decode cX7_learn 19 = .ok (.invokestatic 225, 3) := by decide +kernel
theorem dX7_learn_22 : decode cX7_learn 22 = .ok (.ifCond .ne 5, 3) := by decide +kernel
theorem dX7_learn_25 : decode cX7_learn 25 = .ok (.iconst (-1), 1) := by decide +kernel
theorem dX7_learn_26 : decode cX7_learn 26 = .ok (.ireturn, 1) := by decide +kernel
theorem dX7_learn_27 : decode cX7_learn 27 = .ok (.aload_n 0, 1) := by decide +kernel
theorem dX7_learn_28 : decode cX7_learn 28 = .ok (.getfield 19, 3) := by decide +kernel
theorem dX7_learn_31 : decode cX7_learn 31 = .ok (.iload_n 1, 1) := by decide +kernel
theorem dX7_learn_32 : decode cX7_learn 32 = .ok (.iload_n 2, 1) := by decide +kernel
theorem dX7_learn_33 : decode cX7_learn 33 = .ok (.aload_n 0, 1) := by decide +kernel
theorem dX7_learn_34 : decode cX7_learn 34 = .ok (.getfield 37, 3) := by decide +kernel
theorem dX7_learn_37 : decode cX7_learn 37 = .ok (.invokevirtual 278, 3) := by decide +kernel
theorem dX7_learn_40 : decode cX7_learn 40 = .ok (.iconst 0, 1) := by decide +kernel
theorem dX7_learn_41 : decode cX7_learn 41 = .ok (.istore_n 3, 1) := by decide +kernel
theorem dX7_learn_42 : decode cX7_learn 42 = .ok (.iload_n 1, 1) := by decide +kernel
theorem dX7_learn_43 : decode cX7_learn 43 = .ok (.istore 4, 2) := by decide +kernel
theorem dX7_learn_45 : decode cX7_learn 45 = .ok (.iload 4, 2) := by decide +kernel
theorem dX7_learn_47 : decode cX7_learn 47 = .ok (.aload_n 0, 1) := by decide +kernel
theorem dX7_learn_48 : decode cX7_learn 48 = .ok (.getfield 19, 3) := by decide +kernel
theorem dX7_learn_51 : decode cX7_learn 51 = .ok (.getfield 95, 3) := by decide +kernel
theorem dX7_learn_54 : decode cX7_learn 54 = .ok (.if_icmp .ge 24, 3) := by decide +kernel
theorem dX7_learn_57 : decode cX7_learn 57 = .ok (.aload_n 0, 1) := by decide +kernel
theorem dX7_learn_58 : decode cX7_learn 58 = .ok (.getfield 19, 3) := by decide +kernel
theorem dX7_learn_61 : decode cX7_learn 61 = .ok (.iload 4, 2) := by decide +kernel
theorem dX7_learn_63 : decode cX7_learn 63 = .ok (.invokevirtual 222, 3) := by decide +kernel
theorem dX7_learn_66 : decode cX7_learn 66 = .ok (.ifCond .eq 6, 3) := by decide +kernel
theorem dX7_learn_69 : decode cX7_learn 69 = .ok (.iinc 3 1, 3) := by decide +kernel
theorem dX7_learn_72 : decode cX7_learn 72 = .ok (.iinc 4 1, 3) := by decide +kernel
theorem dX7_learn_75 : decode cX7_learn 75 = .ok (.goto (-30), 3) := by decide +kernel
theorem dX7_learn_78 : decode cX7_learn 78 = .ok (.iload_n 3, 1) := by decide +kernel
theorem dX7_learn_79 : decode cX7_learn 79 = .ok (.ireturn, 1) := by decide +kernel
theorem dX7_forget_0 : decode cX7_forget 0 = .ok (.iconst 0, 1) := by decide +kernel
theorem dX7_forget_1 : decode cX7_forget 1 = .ok (.istore_n 1, 1) := by decide +kernel
theorem dX7_forget_2 : decode cX7_forget 2 = .ok (.iconst 0, 1) := by decide +kernel
theorem dX7_forget_3 : decode cX7_forget 3 = .ok (.istore_n 2, 1) := by decide +kernel
theorem dX7_forget_4 : decode cX7_forget 4 = .ok (.iload_n 2, 1) := by decide +kernel
theorem dX7_forget_5 : decode cX7_forget 5 = .ok (.aload_n 0, 1) := by decide +kernel
theorem dX7_forget_6 : decode cX7_forget 6 = .ok (.getfield 19, 3) := by decide +kernel
theorem dX7_forget_9 : decode cX7_forget 9 = .ok (.getfield 95, 3) := by decide +kernel
theorem dX7_forget_12 : decode cX7_forget 12 = .ok (.if_icmp .ge 51, 3) := by decide +kernel
theorem dX7_forget_15 : decode cX7_forget 15 = .ok (.aload_n 0, 1) := by decide +kernel
theorem dX7_forget_16 : decode cX7_forget 16 = .ok (.getfield 19, 3) := by decide +kernel
theorem dX7_forget_19 : decode cX7_forget 19 = .ok (.getfield 213, 3) := by decide +kernel
theorem dX7_forget_22 : decode cX7_forget 22 = .ok (.iload_n 2, 1) := by decide +kernel
theorem dX7_forget_23 : decode cX7_forget 23 = .ok (.iaload, 1) := by decide +kernel
theorem dX7_forget_24 : decode cX7_forget 24 = .ok (.aload_n 0, 1) := by decide +kernel
theorem dX7_forget_25 : decode cX7_forget 25 = .ok (.getfield 19, 3) := by decide +kernel
theorem dX7_forget_28 : decode cX7_forget 28 = .ok (.getfield 208, 3) := by decide +kernel
theorem dX7_forget_31 : decode cX7_forget 31 = .ok (.iload_n 2, 1) := by decide +kernel
theorem dX7_forget_32 : decode cX7_forget 32 = .ok (.iaload, 1) := by decide +kernel
theorem dX7_forget_33 : decode cX7_forget 33 = .ok (.if_icmp .eq 6, 3) := by decide +kernel
theorem dX7_forget_36 : decode cX7_forget 36 = .ok (.iinc 1 1, 3) := by decide +kernel
theorem dX7_forget_39 : decode cX7_forget 39 = .ok (.aload_n 0, 1) := by decide +kernel
theorem dX7_forget_40 : decode cX7_forget 40 = .ok (.getfield 19, 3) := by decide +kernel
theorem dX7_forget_43 : decode cX7_forget 43 = .ok (.getfield 213, 3) := by decide +kernel
theorem dX7_forget_46 : decode cX7_forget 46 = .ok (.iload_n 2, 1) := by decide +kernel
theorem dX7_forget_47 : decode cX7_forget 47 = .ok (.aload_n 0, 1) := by decide +kernel
theorem dX7_forget_48 : decode cX7_forget 48 = .ok (.getfield 19, 3) := by decide +kernel
theorem dX7_forget_51 : decode cX7_forget 51 = .ok (.getfield 208, 3) := by decide +kernel
theorem dX7_forget_54 : decode cX7_forget 54 = .ok (.iload_n 2, 1) := by decide +kernel
theorem dX7_forget_55 : decode cX7_forget 55 = .ok (.iaload, 1) := by decide +kernel
theorem dX7_forget_56 : decode cX7_forget 56 = .ok (.iastore, 1) := by decide +kernel
theorem dX7_forget_57 : decode cX7_forget 57 = .ok (.iinc 2 1, 3) := by decide +kernel
theorem dX7_forget_60 : decode cX7_forget 60 = .ok (.goto (-56), 3) := by decide +kernel
theorem dX7_forget_63 : decode cX7_forget 63 = .ok (.iload_n 1, 1) := by decide +kernel
theorem dX7_forget_64 : decode cX7_forget 64 = .ok (.ireturn, 1) := by decide +kernel
theorem dX7_code_0 : decode cX7_code 0 = .ok (.aload_n 0, 1) := by decide +kernel
theorem dX7_code_1 : decode cX7_code 1 = .ok (.getfield 19, 3) := by decide +kernel
theorem dX7_code_4 : decode cX7_code 4 = .ok (.getfield 95, 3) := by decide +kernel
theorem dX7_code_7 : decode cX7_code 7 = .ok (.ifCond .eq 10, 3) := by decide +kernel
theorem dX7_code_10 : decode cX7_code 10 = .ok (.iload_n 1, 1) := by decide +kernel
theorem dX7_code_11 : decode cX7_code 11 = .ok (.invokestatic 236, 3) := by decide +kernel
theorem dX7_code_14 : decode cX7_code 14 = .ok (.ifCond .ne 8, 3) := by decide +kernel
theorem dX7_code_17 : decode cX7_code 17 = .ok (.ldc 143, 2) := by decide +kernel
theorem dX7_code_19 : decode cX7_code 19 = .ok (.goto 11, 3) := by decide +kernel
theorem dX7_code_22 : decode cX7_code 22 = .ok (.aload_n 0, 1) := by decide +kernel
theorem dX7_code_23 : decode cX7_code 23 = .ok (.getfield 19, 3) := by decide +kernel
theorem dX7_code_26 : decode cX7_code 26 = .ok (.iload_n 1, 1) := by decide +kernel
theorem dX7_code_27 : decode cX7_code 27 = .ok (.invokevirtual 282, 3) := by decide +kernel
theorem dX7_code_30 : decode cX7_code 30 = .ok (.ireturn, 1) := by decide +kernel
theorem dX7_forgiven_0 : decode cX7_forgiven 0 = .ok (.aload_n 0, 1) := by decide +kernel
theorem dX7_forgiven_1 : decode cX7_forgiven 1 = .ok (.iload_n 2, 1) := by decide +kernel
theorem dX7_forgiven_2 : decode cX7_forgiven 2 = .ok (.invokevirtual 205, 3) := by decide +kernel
theorem dX7_forgiven_5 : decode cX7_forgiven 5 = .ok (.ifCond .eq 10, 3) := by decide +kernel
theorem dX7_forgiven_8 : decode cX7_forgiven 8 = .ok (.iload_n 1, 1) := by decide +kernel
theorem dX7_forgiven_9 : decode cX7_forgiven 9 = .ok (.invokestatic 236, 3) := by decide +kernel
theorem dX7_forgiven_12 : decode cX7_forgiven 12 = .ok (.ifCond .ne 5, 3) := by decide +kernel
theorem dX7_forgiven_15 : decode cX7_forgiven 15 = .ok (.iconst (-1), 1) := by decide +kernel
theorem dX7_forgiven_16 : decode cX7_forgiven 16 = .ok (.ireturn, 1) := by decide +kernel
theorem dX7_forgiven_17 : decode cX7_forgiven 17 = .ok (.aload_n 0, 1) := by decide +kernel
theorem dX7_forgiven_18 : decode cX7_forgiven 18 = .ok (.getfield 19, 3) := by decide +kernel
theorem dX7_forgiven_21 : decode cX7_forgiven 21 = .ok (.iload_n 1, 1) := by decide +kernel
theorem dX7_forgiven_22 : decode cX7_forgiven 22 = .ok (.iload_n 2, 1) := by decide +kernel
theorem dX7_forgiven_23 : decode cX7_forgiven 23 = .ok (.invokevirtual 285, 3) := by decide +kernel
theorem dX7_forgiven_26 : decode cX7_forgiven 26 = .ok (.ifCond .eq 7, 3) := by decide +kernel
theorem dX7_forgiven_29 : decode cX7_forgiven 29 = .ok (.iconst 1, 1) := by decide +kernel
theorem dX7_forgiven_30 : decode cX7_forgiven 30 = .ok (.goto 4, 3) := by decide +kernel
theorem dX7_forgiven_33 : decode cX7_forgiven 33 = .ok (.iconst 0, 1) := by decide +kernel
theorem dX7_forgiven_34 : decode cX7_forgiven 34 = .ok (.ireturn, 1) := by decide +kernel
theorem dX7_slack_0 : decode cX7_slack 0 = .ok (.aload_n 0, 1) := by decide +kernel
theorem dX7_slack_1 : decode cX7_slack 1 = .ok (.iload_n 1, 1) := by decide +kernel
theorem dX7_slack_2 : decode cX7_slack 2 = .ok (.invokevirtual 205, 3) := by decide +kernel
theorem dX7_slack_5 : decode cX7_slack 5 = .ok (.ifCond .eq 14, 3) := by decide +kernel
theorem dX7_slack_8 : decode cX7_slack 8 = .ok (.aload_n 0, 1) := by decide +kernel
theorem dX7_slack_9 : decode cX7_slack 9 = .ok (.getfield 19, 3) := by decide +kernel
theorem dX7_slack_12 : decode cX7_slack 12 = .ok (.iload_n 1, 1) := by decide +kernel
theorem dX7_slack_13 : decode cX7_slack 13 = .ok (.invokevirtual 288, 3) := by decide +kernel
theorem dX7_slack_16 : decode cX7_slack 16 = .ok (.goto 5, 3) := by decide +kernel
theorem dX7_slack_19 : decode cX7_slack 19 = .ok (.bipush (-2), 2) := by decide +kernel
theorem dX7_slack_21 : decode cX7_slack 21 = .ok (.ireturn, 1) := by decide +kernel
theorem dX7_tightest_0 : decode cX7_tightest 0 = .ok (.aload_n 0, 1) := by decide +kernel
theorem dX7_tightest_1 : decode cX7_tightest 1 = .ok (.getfield 19, 3) := by decide +kernel
theorem dX7_tightest_4 : decode cX7_tightest 4 = .ok (.getfield 95, 3) := by decide +kernel
theorem dX7_tightest_7 : decode cX7_tightest 7 = .ok (.iconst 2, 1) := by decide +kernel
theorem dX7_tightest_8 : decode cX7_tightest 8 = .ok (.if_icmp .lt 12, 3) := by decide +kernel
theorem dX7_tightest_11 : decode cX7_tightest 11 = .ok (.iload_n 1, 1) := by decide +kernel
theorem dX7_tightest_12 : decode cX7_tightest 12 = .ok (.iconst 0, 1) := by decide +kernel
theorem dX7_tightest_13 : decode cX7_tightest 13 = .ok (.iconst 1, 1) := by decide +kernel
theorem dX7_tightest_14 : decode cX7_tightest 14 = .ok (.invokestatic 225, 3) := by decide +kernel
theorem dX7_tightest_17 : decode cX7_tightest 17 = .ok (.ifCond .ne 6, 3) := by decide +kernel
theorem dX7_tightest_20 : decode cX7_tightest 20 = .ok (.bipush (-2), 2) := by decide +kernel
theorem dX7_tightest_22 : decode cX7_tightest 22 = .ok (.ireturn, 1) := by decide +kernel
theorem dX7_tightest_23 : decode cX7_tightest 23 = .ok (.iconst 1, 1) := by decide +kernel
theorem dX7_tightest_24 : decode cX7_tightest 24 = .ok (.istore_n 2, 1) := by decide +kernel
theorem dX7_tightest_25 : decode cX7_tightest 25 = .ok (.aload_n 0, 1) := by decide +kernel
theorem dX7_tightest_26 : decode cX7_tightest 26 = .ok (.getfield 19, 3) := by decide +kernel
theorem dX7_tightest_29 : decode cX7_tightest 29 = .ok (.iconst 1, 1) := by decide +kernel
theorem dX7_tightest_30 : decode cX7_tightest 30 = .ok (.invokevirtual 288, 3) := by decide +kernel
theorem dX7_tightest_33 : decode cX7_tightest 33 = .ok (.istore_n 3, 1) := by decide +kernel
theorem dX7_tightest_34 : decode cX7_tightest 34 = .ok (.iconst 2, 1) := by decide +kernel
theorem dX7_tightest_35 : decode cX7_tightest 35 = .ok (.istore 4, 2) := by decide +kernel
theorem dX7_tightest_37 : decode cX7_tightest 37 = .ok (.iload 4, 2) := by decide +kernel
theorem dX7_tightest_39 : decode cX7_tightest 39 = .ok (.aload_n 0, 1) := by decide +kernel
theorem dX7_tightest_40 : decode cX7_tightest 40 = .ok (.getfield 19, 3) := by decide +kernel
theorem dX7_tightest_43 : decode cX7_tightest 43 = .ok (.getfield 95, 3) := by decide +kernel
theorem dX7_tightest_46 : decode cX7_tightest 46 = .ok (.if_icmp .ge 32, 3) := by decide +kernel
theorem dX7_tightest_49 : decode cX7_tightest 49 = .ok (.aload_n 0, 1) := by decide +kernel
theorem dX7_tightest_50 : decode cX7_tightest 50 = .ok (.getfield 19, 3) := by decide +kernel
theorem dX7_tightest_53 : decode cX7_tightest 53 = .ok (.iload 4, 2) := by decide +kernel
theorem dX7_tightest_55 : decode cX7_tightest 55 = .ok (.invokevirtual 288, 3) := by decide +kernel
theorem dX7_tightest_58 : decode cX7_tightest 58 = .ok (.istore 5, 2) := by decide +kernel
theorem dX7_tightest_60 : decode cX7_tightest 60 = .ok (.iload 5, 2) := by decide +kernel
theorem dX7_tightest_62 : decode cX7_tightest 62 = .ok (.iload_n 3, 1) := by decide +kernel
theorem dX7_tightest_63 : decode cX7_tightest 63 = .ok (.if_icmp .ge 9, 3) := by decide +kernel
theorem dX7_tightest_66 : decode cX7_tightest 66 = .ok (.iload 5, 2) := by decide +kernel
theorem dX7_tightest_68 : decode cX7_tightest 68 = .ok (.istore_n 3, 1) := by decide +kernel
theorem dX7_tightest_69 : decode cX7_tightest 69 = .ok (.iload 4, 2) := by decide +kernel
theorem dX7_tightest_71 : decode cX7_tightest 71 = .ok (.istore_n 2, 1) := by decide +kernel
theorem dX7_tightest_72 : decode cX7_tightest 72 = .ok (.iinc 4 1, 3) := by decide +kernel
theorem dX7_tightest_75 : decode cX7_tightest 75 = .ok (.goto (-38), 3) := by decide +kernel
theorem dX7_tightest_78 : decode cX7_tightest 78 = .ok (.iload_n 1, 1) := by decide +kernel
theorem dX7_tightest_79 : decode cX7_tightest 79 = .ok (.ifCond .ne 7, 3) := by decide +kernel
theorem dX7_tightest_82 : decode cX7_tightest 82 = .ok (.iload_n 2, 1) := by decide +kernel
theorem dX7_tightest_83 : decode cX7_tightest 83 = .ok (.goto 4, 3) := by decide +kernel
theorem dX7_tightest_86 : decode cX7_tightest 86 = .ok (.iload_n 3, 1) := by decide +kernel
theorem dX7_tightest_87 : decode cX7_tightest 87 = .ok (.ireturn, 1) := by decide +kernel
theorem dX7_gap_0 : decode cX7_gap 0 = .ok (.aload_n 0, 1) := by decide +kernel
theorem dX7_gap_1 : decode cX7_gap 1 = .ok (.getfield 19, 3) := by decide +kernel
theorem dX7_gap_4 : decode cX7_gap 4 = .ok (.getfield 95, 3) := by decide +kernel
theorem dX7_gap_7 : decode cX7_gap 7 = .ok (.ifCond .eq 12, 3) := by decide +kernel
theorem dX7_gap_10 : decode cX7_gap 10 = .ok (.iload_n 1, 1) := by decide +kernel
theorem dX7_gap_11 : decode cX7_gap 11 = .ok (.iconst 0, 1) := by decide +kernel
theorem dX7_gap_12 : decode cX7_gap 12 = .ok (.iconst 1, 1) := by decide +kernel
theorem dX7_gap_13 : decode cX7_gap 13 = .ok (.invokestatic 225, 3) := by decide +kernel
theorem dX7_gap_16 : decode cX7_gap 16 = .ok (.ifCond .ne 6, 3) := by decide +kernel
theorem dX7_gap_19 : decode cX7_gap 19 = .ok (.bipush (-2), 2) := by decide +kernel
theorem dX7_gap_21 : decode cX7_gap 21 = .ok (.ireturn, 1) := by decide +kernel
theorem dX7_gap_22 : decode cX7_gap 22 = .ok (.iconst (-1), 1) := by decide +kernel
theorem dX7_gap_23 : decode cX7_gap 23 = .ok (.istore_n 2, 1) := by decide +kernel
theorem dX7_gap_24 : decode cX7_gap 24 = .ok (.iconst 0, 1) := by decide +kernel
theorem dX7_gap_25 : decode cX7_gap 25 = .ok (.istore_n 3, 1) := by decide +kernel
theorem dX7_gap_26 : decode cX7_gap 26 = .ok (.iconst 0, 1) := by decide +kernel
theorem dX7_gap_27 : decode cX7_gap 27 = .ok (.istore 4, 2) := by decide +kernel
theorem dX7_gap_29 : decode cX7_gap 29 = .ok (.iload 4, 2) := by decide +kernel
theorem dX7_gap_31 : decode cX7_gap 31 = .ok (.aload_n 0, 1) := by decide +kernel
theorem dX7_gap_32 : decode cX7_gap 32 = .ok (.getfield 19, 3) := by decide +kernel
theorem dX7_gap_35 : decode cX7_gap 35 = .ok (.getfield 95, 3) := by decide +kernel
theorem dX7_gap_38 : decode cX7_gap 38 = .ok (.if_icmp .ge 44, 3) := by decide +kernel
theorem dX7_gap_41 : decode cX7_gap 41 = .ok (.aload_n 0, 1) := by decide +kernel
theorem dX7_gap_42 : decode cX7_gap 42 = .ok (.getfield 19, 3) := by decide +kernel
theorem dX7_gap_45 : decode cX7_gap 45 = .ok (.iload 4, 2) := by decide +kernel
theorem dX7_gap_47 : decode cX7_gap 47 = .ok (.invokevirtual 219, 3) := by decide +kernel
theorem dX7_gap_50 : decode cX7_gap 50 = .ok (.aload_n 0, 1) := by decide +kernel
theorem dX7_gap_51 : decode cX7_gap 51 = .ok (.getfield 19, 3) := by decide +kernel
theorem dX7_gap_54 : decode cX7_gap 54 = .ok (.iload 4, 2) := by decide +kernel
theorem dX7_gap_56 : decode cX7_gap 56 = .ok (.invokevirtual 193, 3) := by decide +kernel
theorem dX7_gap_59 : decode cX7_gap 59 = .ok (.isub, 1) := by decide +kernel
theorem dX7_gap_60 : decode cX7_gap 60 = .ok (.iconst 1, 1) := by decide +kernel
theorem dX7_gap_61 : decode cX7_gap 61 = .ok (.isub, 1) := by decide +kernel
theorem dX7_gap_62 : decode cX7_gap 62 = .ok (.istore 5, 2) := by decide +kernel
theorem dX7_gap_64 : decode cX7_gap 64 = .ok (.iload 5, 2) := by decide +kernel
theorem dX7_gap_66 : decode cX7_gap 66 = .ok (.iload_n 3, 1) := by decide +kernel
theorem dX7_gap_67 : decode cX7_gap 67 = .ok (.if_icmp .le 9, 3) := by decide +kernel
theorem dX7_gap_70 : decode cX7_gap 70 = .ok (.iload 5, 2) := by decide +kernel
theorem dX7_gap_72 : decode cX7_gap 72 = .ok (.istore_n 3, 1) := by decide +kernel
theorem dX7_gap_73 : decode cX7_gap 73 = .ok (.iload 4, 2) := by decide +kernel
theorem dX7_gap_75 : decode cX7_gap 75 = .ok (.istore_n 2, 1) := by decide +kernel
theorem dX7_gap_76 : decode cX7_gap 76 = .ok (.iinc 4 1, 3) := by decide +kernel
theorem dX7_gap_79 : decode cX7_gap 79 = .ok (.goto (-50), 3) := by decide +kernel
theorem dX7_gap_82 : decode cX7_gap 82 = .ok (.iload_n 1, 1) := by decide +kernel
theorem dX7_gap_83 : decode cX7_gap 83 = .ok (.ifCond .ne 7, 3) := by decide +kernel
theorem dX7_gap_86 : decode cX7_gap 86 = .ok (.iload_n 3, 1) := by decide +kernel
theorem dX7_gap_87 : decode cX7_gap 87 = .ok (.goto 4, 3) := by decide +kernel
theorem dX7_gap_90 : decode cX7_gap 90 = .ok (.iload_n 2, 1) := by decide +kernel
theorem dX7_gap_91 : decode cX7_gap 91 = .ok (.ireturn, 1) := by decide +kernel
theorem dX7_histogram_0 : decode cX7_histogram 0 = .ok (.aload_n 0, 1) := by decide +kernel
theorem dX7_histogram_1 : decode cX7_histogram 1 = .ok (.getfield 19, 3) := by decide +kernel
theorem dX7_histogram_4 : decode cX7_histogram 4 = .ok (.getfield 95, 3) := by decide +kernel
theorem dX7_histogram_7 : decode cX7_histogram 7 = .ok (.ifCond .eq 23, 3) := by decide +kernel
theorem dX7_histogram_10 : decode cX7_histogram 10 = .ok (.iload_n 1, 1) := by decide +kernel
theorem dX7_histogram_11 : decode cX7_histogram 11 = .ok (.iload_n 2, 1) := by decide +kernel
theorem dX7_histogram_12 : decode cX7_histogram 12 = .ok (.iload_n 3, 1) := by decide +kernel
theorem dX7_histogram_13 : decode cX7_histogram 13 = .ok (.invokestatic 291, 3) := by decide +kernel
theorem dX7_histogram_16 : decode cX7_histogram 16 = .ok (.ifCond .eq 14, 3) := by decide +kernel
theorem dX7_histogram_19 : decode cX7_histogram 19 = .ok (.iload 4, 2) := by decide +kernel
theorem dX7_histogram_21 : decode cX7_histogram 21 = .ok (.iconst 0, 1) := by decide +kernel
theorem dX7_histogram_22 : decode cX7_histogram 22 = .ok (.bipush 9, 2) := by decide +kernel
theorem dX7_histogram_24 : decode cX7_histogram 24 = .ok (.invokestatic 225, 3) := by decide +kernel
theorem dX7_histogram_27 : decode cX7_histogram 27 = .ok (.ifCond .ne 6, 3) := by decide +kernel
theorem dX7_histogram_30 : decode cX7_histogram 30 = .ok (.ldc 143, 2) := by decide +kernel
theorem dX7_histogram_32 : decode cX7_histogram 32 = .ok (.ireturn, 1) := by decide +kernel
theorem dX7_histogram_33 : decode cX7_histogram 33 = .ok (.aload_n 0, 1) := by decide +kernel
theorem dX7_histogram_34 : decode cX7_histogram 34 = .ok (.getfield 43, 3) := by decide +kernel
theorem dX7_histogram_37 : decode cX7_histogram 37 = .ok (.aload_n 0, 1) := by decide +kernel
theorem dX7_histogram_38 : decode cX7_histogram 38 = .ok (.getfield 19, 3) := by decide +kernel
theorem dX7_histogram_41 : decode cX7_histogram 41 = .ok (.iload_n 1, 1) := by decide +kernel
theorem dX7_histogram_42 : decode cX7_histogram 42 = .ok (.iload_n 2, 1) := by decide +kernel
theorem dX7_histogram_43 : decode cX7_histogram 43 = .ok (.iload_n 3, 1) := by decide +kernel
theorem dX7_histogram_44 : decode cX7_histogram 44 = .ok (.invokevirtual 294, 3) := by decide +kernel
theorem dX7_histogram_47 : decode cX7_histogram 47 = .ok (.aload_n 0, 1) := by decide +kernel
theorem dX7_histogram_48 : decode cX7_histogram 48 = .ok (.getfield 43, 3) := by decide +kernel
theorem dX7_histogram_51 : decode cX7_histogram 51 = .ok (.invokevirtual 298, 3) := by decide +kernel
theorem dX7_histogram_54 : decode cX7_histogram 54 = .ok (.aload_n 0, 1) := by decide +kernel
theorem dX7_histogram_55 : decode cX7_histogram 55 = .ok (.getfield 43, 3) := by decide +kernel
theorem dX7_histogram_58 : decode cX7_histogram 58 = .ok (.iload 4, 2) := by decide +kernel
theorem dX7_histogram_60 : decode cX7_histogram 60 = .ok (.invokevirtual 301, 3) := by decide +kernel
theorem dX7_histogram_63 : decode cX7_histogram 63 = .ok (.ireturn, 1) := by decide +kernel
theorem dX7_often_0 : decode cX7_often 0 = .ok (.aload_n 0, 1) := by decide +kernel
theorem dX7_often_1 : decode cX7_often 1 = .ok (.getfield 19, 3) := by decide +kernel
theorem dX7_often_4 : decode cX7_often 4 = .ok (.getfield 95, 3) := by decide +kernel
theorem dX7_often_7 : decode cX7_often 7 = .ok (.ifCond .eq 12, 3) := by decide +kernel
theorem dX7_often_10 : decode cX7_often 10 = .ok (.iload_n 1, 1) := by decide +kernel
theorem dX7_often_11 : decode cX7_often 11 = .ok (.iload_n 2, 1) := by decide +kernel
theorem dX7_often_12 : decode cX7_often 12 = .ok (.iload_n 3, 1) := by decide +kernel
theorem dX7_often_13 : decode cX7_often 13 = .ok (.invokestatic 291, 3) := by decide +kernel
theorem dX7_often_16 : decode cX7_often 16 = .ok (.ifCond .ne 5, 3) := by decide +kernel
theorem dX7_often_19 : decode cX7_often 19 = .ok (.iconst (-1), 1) := by decide +kernel
theorem dX7_often_20 : decode cX7_often 20 = .ok (.ireturn, 1) := by decide +kernel
theorem dX7_often_21 : decode cX7_often 21 = .ok (.aload_n 0, 1) := by decide +kernel
theorem dX7_often_22 : decode cX7_often 22 = .ok (.getfield 43, 3) := by decide +kernel
theorem dX7_often_25 : decode cX7_often 25 = .ok (.aload_n 0, 1) := by decide +kernel
theorem dX7_often_26 : decode cX7_often 26 = .ok (.getfield 19, 3) := by decide +kernel
theorem dX7_often_29 : decode cX7_often 29 = .ok (.iload_n 1, 1) := by decide +kernel
theorem dX7_often_30 : decode cX7_often 30 = .ok (.iload_n 2, 1) := by decide +kernel
theorem dX7_often_31 : decode cX7_often 31 = .ok (.iload_n 3, 1) := by decide +kernel
theorem dX7_often_32 : decode cX7_often 32 = .ok (.invokevirtual 294, 3) := by decide +kernel
theorem dX7_often_35 : decode cX7_often 35 = .ok (.aload_n 0, 1) := by decide +kernel
theorem dX7_often_36 : decode cX7_often 36 = .ok (.getfield 43, 3) := by decide +kernel
theorem dX7_often_39 : decode cX7_often 39 = .ok (.iload 4, 2) := by decide +kernel
theorem dX7_often_41 : decode cX7_often 41 = .ok (.invokevirtual 304, 3) := by decide +kernel
theorem dX7_often_44 : decode cX7_often 44 = .ok (.ireturn, 1) := by decide +kernel
theorem dX7_first_0 : decode cX7_first 0 = .ok (.aload_n 0, 1) := by decide +kernel
theorem dX7_first_1 : decode cX7_first 1 = .ok (.getfield 19, 3) := by decide +kernel
theorem dX7_first_4 : decode cX7_first 4 = .ok (.getfield 95, 3) := by decide +kernel
theorem dX7_first_7 : decode cX7_first 7 = .ok (.ifCond .eq 12, 3) := by decide +kernel
theorem dX7_first_10 : decode cX7_first 10 = .ok (.iload_n 1, 1) := by decide +kernel
theorem dX7_first_11 : decode cX7_first 11 = .ok (.iload_n 2, 1) := by decide +kernel
theorem dX7_first_12 : decode cX7_first 12 = .ok (.iconst 1, 1) := by decide +kernel
theorem dX7_first_13 : decode cX7_first 13 = .ok (.invokestatic 291, 3) := by decide +kernel
theorem dX7_first_16 : decode cX7_first 16 = .ok (.ifCond .ne 6, 3) := by decide +kernel
theorem dX7_first_19 : decode cX7_first 19 = .ok (.ldc 143, 2) := by decide +kernel
theorem dX7_first_21 : decode cX7_first 21 = .ok (.ireturn, 1) := by decide +kernel
theorem dX7_first_22 : decode cX7_first 22 = .ok (.iload_n 1, 1) := by decide +kernel
theorem dX7_first_23 : decode cX7_first 23 = .ok (.istore 4, 2) := by decide +kernel
theorem dX7_first_25 : decode cX7_first 25 = .ok (.iload 4, 2) := by decide +kernel
theorem dX7_first_27 : decode cX7_first 27 = .ok (.iload_n 2, 1) := by decide +kernel
theorem dX7_first_28 : decode cX7_first 28 = .ok (.if_icmp .gt 25, 3) := by decide +kernel
theorem dX7_first_31 : decode cX7_first 31 = .ok (.aload_n 0, 1) := by decide +kernel
theorem dX7_first_32 : decode cX7_first 32 = .ok (.getfield 19, 3) := by decide +kernel
theorem dX7_first_35 : decode cX7_first 35 = .ok (.iload 4, 2) := by decide +kernel
theorem dX7_first_37 : decode cX7_first 37 = .ok (.invokevirtual 282, 3) := by decide +kernel
theorem dX7_first_40 : decode cX7_first 40 = .ok (.iload_n 3, 1) := by decide +kernel
theorem dX7_first_41 : decode cX7_first 41 = .ok (.if_icmp .lt 6, 3) := by decide +kernel
theorem dX7_first_44 : decode cX7_first 44 = .ok (.iload 4, 2) := by decide +kernel
theorem dX7_first_46 : decode cX7_first 46 = .ok (.ireturn, 1) := by decide +kernel
theorem dX7_first_47 : decode cX7_first 47 = .ok (.iinc 4 1, 3) := by decide +kernel
theorem dX7_first_50 : decode cX7_first 50 = .ok (.goto (-25), 3) := by decide +kernel
theorem dX7_first_53 : decode cX7_first 53 = .ok (.ldc 143, 2) := by decide +kernel
theorem dX7_first_55 : decode cX7_first 55 = .ok (.ireturn, 1) := by decide +kernel
theorem dX7_ways_0 : decode cX7_ways 0 = .ok (.aload_n 0, 1) := by decide +kernel
theorem dX7_ways_1 : decode cX7_ways 1 = .ok (.invokevirtual 307, 3) := by decide +kernel
theorem dX7_ways_4 : decode cX7_ways 4 = .ok (.ifCond .ne 5, 3) := by decide +kernel
theorem dX7_ways_7 : decode cX7_ways 7 = .ok (.iconst (-1), 1) := by decide +kernel
theorem dX7_ways_8 : decode cX7_ways 8 = .ok (.ireturn, 1) := by decide +kernel
theorem dX7_ways_9 : decode cX7_ways 9 = .ok (.aload_n 0, 1) := by decide +kernel
theorem dX7_ways_10 : decode cX7_ways 10 = .ok (.getfield 43, 3) := by decide +kernel
theorem dX7_ways_13 : decode cX7_ways 13 = .ok (.aload_n 0, 1) := by decide +kernel
theorem dX7_ways_14 : decode cX7_ways 14 = .ok (.getfield 19, 3) := by decide +kernel
theorem dX7_ways_17 : decode cX7_ways 17 = .ok (.invokevirtual 310, 3) := by decide +kernel
theorem dX7_ways_20 : decode cX7_ways 20 = .ok (.aload_n 0, 1) := by decide +kernel
theorem dX7_ways_21 : decode cX7_ways 21 = .ok (.getfield 43, 3) := by decide +kernel
theorem dX7_ways_24 : decode cX7_ways 24 = .ok (.iload_n 1, 1) := by decide +kernel
theorem dX7_ways_25 : decode cX7_ways 25 = .ok (.invokevirtual 304, 3) := by decide +kernel
theorem dX7_ways_28 : decode cX7_ways 28 = .ok (.ireturn, 1) := by decide +kernel
theorem dX7_sums_0 : decode cX7_sums 0 = .ok (.aload_n 0, 1) := by decide +kernel
theorem dX7_sums_1 : decode cX7_sums 1 = .ok (.invokevirtual 307, 3) := by decide +kernel
theorem dX7_sums_4 : decode cX7_sums 4 = .ok (.ifCond .ne 5, 3) := by decide +kernel
theorem dX7_sums_7 : decode cX7_sums 7 = .ok (.iconst (-1), 1) := by decide +kernel
theorem dX7_sums_8 : decode cX7_sums 8 = .ok (.ireturn, 1) := by decide +kernel
theorem dX7_sums_9 : decode cX7_sums 9 = .ok (.aload_n 0, 1) := by decide +kernel
theorem dX7_sums_10 : decode cX7_sums 10 = .ok (.getfield 43, 3) := by decide +kernel
theorem dX7_sums_13 : decode cX7_sums 13 = .ok (.aload_n 0, 1) := by decide +kernel
theorem dX7_sums_14 : decode cX7_sums 14 = .ok (.getfield 19, 3) := by decide +kernel
theorem dX7_sums_17 : decode cX7_sums 17 = .ok (.invokevirtual 310, 3) := by decide +kernel
theorem dX7_sums_20 : decode cX7_sums 20 = .ok (.aload_n 0, 1) := by decide +kernel
theorem dX7_sums_21 : decode cX7_sums 21 = .ok (.getfield 43, 3) := by decide +kernel
theorem dX7_sums_24 : decode cX7_sums 24 = .ok (.invokevirtual 298, 3) := by decide +kernel
theorem dX7_sums_27 : decode cX7_sums 27 = .ok (.iload_n 1, 1) := by decide +kernel
theorem dX7_sums_28 : decode cX7_sums 28 = .ok (.tableswitch 64 0 3 #[32, 40, 48, 56], 32) := by decide +kernel
theorem dX7_sums_60 : decode cX7_sums 60 = .ok (.aload_n 0, 1) := by decide +kernel
theorem dX7_sums_61 : decode cX7_sums 61 = .ok (.getfield 43, 3) := by decide +kernel
theorem dX7_sums_64 : decode cX7_sums 64 = .ok (.getfield 313, 3) := by decide +kernel
theorem dX7_sums_67 : decode cX7_sums 67 = .ok (.ireturn, 1) := by decide +kernel
theorem dX7_sums_68 : decode cX7_sums 68 = .ok (.aload_n 0, 1) := by decide +kernel
theorem dX7_sums_69 : decode cX7_sums 69 = .ok (.getfield 43, 3) := by decide +kernel
theorem dX7_sums_72 : decode cX7_sums 72 = .ok (.getfield 316, 3) := by decide +kernel
theorem dX7_sums_75 : decode cX7_sums 75 = .ok (.ireturn, 1) := by decide +kernel
theorem dX7_sums_76 : decode cX7_sums 76 = .ok (.aload_n 0, 1) := by decide +kernel
theorem dX7_sums_77 : decode cX7_sums 77 = .ok (.getfield 43, 3) := by decide +kernel
theorem dX7_sums_80 : decode cX7_sums 80 = .ok (.getfield 319, 3) := by decide +kernel
theorem dX7_sums_83 : decode cX7_sums 83 = .ok (.ireturn, 1) := by decide +kernel
theorem dX7_sums_84 : decode cX7_sums 84 = .ok (.aload_n 0, 1) := by decide +kernel
theorem dX7_sums_85 : decode cX7_sums 85 = .ok (.getfield 43, 3) := by decide +kernel
theorem dX7_sums_88 : decode cX7_sums 88 = .ok (.getfield 322, 3) := by decide +kernel
theorem dX7_sums_91 : decode cX7_sums 91 = .ok (.ireturn, 1) := by decide +kernel
theorem dX7_sums_92 : decode cX7_sums 92 = .ok (.iconst (-1), 1) := by decide +kernel
theorem dX7_sums_93 : decode cX7_sums 93 = .ok (.ireturn, 1) := by decide +kernel
theorem dX7_canSum_0 : decode cX7_canSum 0 = .ok (.aload_n 0, 1) := by decide +kernel
theorem dX7_canSum_1 : decode cX7_canSum 1 = .ok (.getfield 19, 3) := by decide +kernel
theorem dX7_canSum_4 : decode cX7_canSum 4 = .ok (.getfield 95, 3) := by decide +kernel
theorem dX7_canSum_7 : decode cX7_canSum 7 = .ok (.ifCond .le 20, 3) := by decide +kernel
theorem dX7_canSum_10 : decode cX7_canSum 10 = .ok (.aload_n 0, 1) := by decide +kernel
theorem dX7_canSum_11 : decode cX7_canSum 11 = .ok (.getfield 19, 3) := by decide +kernel
theorem dX7_canSum_14 : decode cX7_canSum 14 = .ok (.invokevirtual 196, 3) := by decide +kernel
theorem dX7_canSum_17 : decode cX7_canSum 17 = .ok (.sipush 20000, 3) := by decide +kernel
theorem dX7_canSum_20 : decode cX7_canSum 20 = .ok (.if_icmp .gt 7, 3) := by decide +kernel
theorem dX7_canSum_23 : decode cX7_canSum 23 = .ok (.iconst 1, 1) := by decide +kernel
theorem dX7_canSum_24 : decode cX7_canSum 24 = .ok (.goto 4, 3) := by decide +kernel
theorem dX7_canSum_27 : decode cX7_canSum 27 = .ok (.iconst 0, 1) := by decide +kernel
theorem dX7_canSum_28 : decode cX7_canSum 28 = .ok (.ireturn, 1) := by decide +kernel
theorem dX7_apart_0 : decode cX7_apart 0 = .ok (.aload_n 0, 1) := by decide +kernel
theorem dX7_apart_1 : decode cX7_apart 1 = .ok (.getfield 19, 3) := by decide +kernel
theorem dX7_apart_4 : decode cX7_apart 4 = .ok (.getfield 95, 3) := by decide +kernel
theorem dX7_apart_7 : decode cX7_apart 7 = .ok (.ifCond .eq 22, 3) := by decide +kernel
theorem dX7_apart_10 : decode cX7_apart 10 = .ok (.iload_n 2, 1) := by decide +kernel
theorem dX7_apart_11 : decode cX7_apart 11 = .ok (.iload_n 3, 1) := by decide +kernel
theorem dX7_apart_12 : decode cX7_apart 12 = .ok (.iconst 1, 1) := by decide +kernel
theorem dX7_apart_13 : decode cX7_apart 13 = .ok (.invokestatic 291, 3) := by decide +kernel
theorem dX7_apart_16 : decode cX7_apart 16 = .ok (.ifCond .eq 13, 3) := by decide +kernel
theorem dX7_apart_19 : decode cX7_apart 19 = .ok (.iload 4, 2) := by decide +kernel
theorem dX7_apart_21 : decode cX7_apart 21 = .ok (.iconst 0, 1) := by decide +kernel
theorem dX7_apart_22 : decode cX7_apart 22 = .ok (.iconst 2, 1) := by decide +kernel
theorem dX7_apart_23 : decode cX7_apart 23 = .ok (.invokestatic 225, 3) := by decide +kernel
theorem dX7_apart_26 : decode cX7_apart 26 = .ok (.ifCond .ne 6, 3) := by decide +kernel
theorem dX7_apart_29 : decode cX7_apart 29 = .ok (.ldc 143, 2) := by decide +kernel
theorem dX7_apart_31 : decode cX7_apart 31 = .ok (.ireturn, 1) := by decide +kernel
theorem dX7_apart_32 : decode cX7_apart 32 = .ok (.aload_n 0, 1) := by decide +kernel
theorem dX7_apart_33 : decode cX7_apart 33 = .ok (.iload_n 1, 1) := by decide +kernel
theorem dX7_apart_34 : decode cX7_apart 34 = .ok (.invokevirtual 325, 3) := by decide +kernel
theorem dX7_apart_37 : decode cX7_apart 37 = .ok (.ifCond .eq 15, 3) := by decide +kernel
theorem dX7_apart_40 : decode cX7_apart 40 = .ok (.aload_n 0, 1) := by decide +kernel
theorem dX7_apart_41 : decode cX7_apart 41 = .ok (.getfield 26, 3) := by decide +kernel
theorem dX7_apart_44 : decode cX7_apart 44 = .ok (.iload_n 1, 1) := by decide +kernel
theorem dX7_apart_45 : decode cX7_apart 45 = .ok (.aaload, 1) := by decide +kernel
theorem dX7_apart_46 : decode cX7_apart 46 = .ok (.getfield 95, 3) := by decide +kernel
theorem dX7_apart_49 : decode cX7_apart 49 = .ok (.ifCond .ne 6, 3) := by decide +kernel
theorem dX7_apart_52 : decode cX7_apart 52 = .ok (.ldc 143, 2) := by decide +kernel
theorem dX7_apart_54 : decode cX7_apart 54 = .ok (.ireturn, 1) := by decide +kernel
theorem dX7_apart_55 : decode cX7_apart 55 = .ok (.iconst 0, 1) := by decide +kernel
theorem dX7_apart_56 : decode cX7_apart 56 = .ok (.istore 5, 2) := by decide +kernel
theorem dX7_apart_58 : decode cX7_apart 58 = .ok (.ldc 143, 2) := by decide +kernel
theorem dX7_apart_60 : decode cX7_apart 60 = .ok (.istore 6, 2) := by decide +kernel
theorem dX7_apart_62 : decode cX7_apart 62 = .ok (.iconst 0, 1) := by decide +kernel
theorem dX7_apart_63 : decode cX7_apart 63 = .ok (.istore 7, 2) := by decide +kernel
theorem dX7_apart_65 : decode cX7_apart 65 = .ok (.iload_n 2, 1) := by decide +kernel
theorem dX7_apart_66 : decode cX7_apart 66 = .ok (.istore 8, 2) := by decide +kernel
theorem dX7_apart_68 : decode cX7_apart 68 = .ok (.iload 8, 2) := by decide +kernel
theorem dX7_apart_70 : decode cX7_apart 70 = .ok (.iload_n 3, 1) := by decide +kernel
theorem dX7_apart_71 : decode cX7_apart 71 = .ok (.if_icmp .gt 66, 3) := by decide +kernel
theorem dX7_apart_74 : decode cX7_apart 74 = .ok (.aload_n 0, 1) := by decide +kernel
theorem dX7_apart_75 : decode cX7_apart 75 = .ok (.getfield 19, 3) := by decide +kernel
theorem dX7_apart_78 : decode cX7_apart 78 = .ok (.iload 8, 2) := by decide +kernel
theorem dX7_apart_80 : decode cX7_apart 80 = .ok (.invokevirtual 282, 3) := by decide +kernel
theorem dX7_apart_83 : decode cX7_apart 83 = .ok (.aload_n 0, 1) := by decide +kernel
theorem dX7_apart_84 : decode cX7_apart 84 = .ok (.getfield 26, 3) := by decide +kernel
theorem dX7_apart_87 : decode cX7_apart 87 = .ok (.iload_n 1, 1) := by decide +kernel
theorem dX7_apart_88 : decode cX7_apart 88 = .ok (.aaload, 1) := by decide +kernel
theorem dX7_apart_89 : decode cX7_apart 89 = .ok (.iload 8, 2) := by decide +kernel
theorem dX7_apart_91 : decode cX7_apart 91 = .ok (.invokevirtual 282, 3) := by decide +kernel
theorem dX7_apart_94 : decode cX7_apart 94 = .ok (.isub, 1) := by decide +kernel
theorem dX7_apart_95 : decode cX7_apart 95 = .ok (.invokestatic 328, 3) := by decide +kernel
theorem dX7_apart_98 : decode cX7_apart 98 = .ok (.istore 9, 2) := by decide +kernel
theorem dX7_apart_100 : decode cX7_apart 100 = .ok (.iload 9, 2) := by decide +kernel
theorem dX7_apart_102 : decode cX7_apart 102 = .ok (.ifCond .eq 12, 3) := by decide +kernel
theorem dX7_apart_105 : decode cX7_apart 105 = .ok (.iload 5, 2) := by decide +kernel
theorem dX7_apart_107 : decode cX7_apart 107 = .ok (.ifCond .ne 7, 3) := by decide +kernel
theorem dX7_apart_110 : decode cX7_apart 110 = .ok (.iload 8, 2) := by decide +kernel
theorem dX7_apart_112 : decode cX7_apart 112 = .ok (.istore 6, 2) := by decide +kernel
theorem dX7_apart_114 : decode cX7_apart 114 = .ok (.iload 9, 2) := by decide +kernel
theorem dX7_apart_116 : decode cX7_apart 116 = .ok (.ifCond .eq 6, 3) := by decide +kernel
theorem dX7_apart_119 : decode cX7_apart 119 = .ok (.iinc 5 1, 3) := by decide +kernel
theorem dX7_apart_122 : decode cX7_apart 122 = .ok (.iload 7, 2) := by decide +kernel
theorem dX7_apart_124 : decode cX7_apart 124 = .ok (.iload 9, 2) := by decide +kernel
theorem dX7_apart_126 : decode cX7_apart 126 = .ok (.invokestatic 333, 3) := by decide +kernel
theorem dX7_apart_129 : decode cX7_apart 129 = .ok (.istore 7, 2) := by decide +kernel
theorem dX7_apart_131 : decode cX7_apart 131 = .ok (.iinc 8 1, 3) := by decide +kernel
theorem dX7_apart_134 : decode cX7_apart 134 = .ok (.goto (-66), 3) := by decide +kernel
theorem dX7_apart_137 : decode cX7_apart 137 = .ok (.iload 4, 2) := by decide +kernel
theorem dX7_apart_139 : decode cX7_apart 139 = .ok (.ifCond .ne 8, 3) := by decide +kernel
theorem dX7_apart_142 : decode cX7_apart 142 = .ok (.iload 5, 2) := by decide +kernel
theorem dX7_apart_144 : decode cX7_apart 144 = .ok (.goto 16, 3) := by decide +kernel
theorem dX7_apart_147 : decode cX7_apart 147 = .ok (.iload 4, 2) := by decide +kernel
theorem dX7_apart_149 : decode cX7_apart 149 = .ok (.iconst 1, 1) := by decide +kernel
theorem dX7_apart_150 : decode cX7_apart 150 = .ok (.if_icmp .ne 8, 3) := by decide +kernel
theorem dX7_apart_153 : decode cX7_apart 153 = .ok (.iload 6, 2) := by decide +kernel
theorem dX7_apart_155 : decode cX7_apart 155 = .ok (.goto 5, 3) := by decide +kernel
theorem dX7_apart_158 : decode cX7_apart 158 = .ok (.iload 7, 2) := by decide +kernel
theorem dX7_apart_160 : decode cX7_apart 160 = .ok (.ireturn, 1) := by decide +kernel
theorem dX7_crowd_0 : decode cX7_crowd 0 = .ok (.iload_n 2, 1) := by decide +kernel
theorem dX7_crowd_1 : decode cX7_crowd 1 = .ok (.iconst 1, 1) := by decide +kernel
theorem dX7_crowd_2 : decode cX7_crowd 2 = .ok (.bipush 20, 2) := by decide +kernel
theorem dX7_crowd_4 : decode cX7_crowd 4 = .ok (.invokestatic 225, 3) := by decide +kernel
theorem dX7_crowd_7 : decode cX7_crowd 7 = .ok (.ifCond .eq 32, 3) := by decide +kernel
theorem dX7_crowd_10 : decode cX7_crowd 10 = .ok (.iload_n 3, 1) := by decide +kernel
theorem dX7_crowd_11 : decode cX7_crowd 11 = .ok (.iconst 0, 1) := by decide +kernel
theorem dX7_crowd_12 : decode cX7_crowd 12 = .ok (.bipush 99, 2) := by decide +kernel
theorem dX7_crowd_14 : decode cX7_crowd 14 = .ok (.invokestatic 225, 3) := by decide +kernel
theorem dX7_crowd_17 : decode cX7_crowd 17 = .ok (.ifCond .eq 22, 3) := by decide +kernel
theorem dX7_crowd_20 : decode cX7_crowd 20 = .ok (.iload 5, 2) := by decide +kernel
theorem dX7_crowd_22 : decode cX7_crowd 22 = .ok (.iconst 0, 1) := by decide +kernel
theorem dX7_crowd_23 : decode cX7_crowd 23 = .ok (.iconst 2, 1) := by decide +kernel
theorem dX7_crowd_24 : decode cX7_crowd 24 = .ok (.invokestatic 225, 3) := by decide +kernel
theorem dX7_crowd_27 : decode cX7_crowd 27 = .ok (.ifCond .eq 12, 3) := by decide +kernel
theorem dX7_crowd_30 : decode cX7_crowd 30 = .ok (.aload_n 0, 1) := by decide +kernel
theorem dX7_crowd_31 : decode cX7_crowd 31 = .ok (.iload 4, 2) := by decide +kernel
theorem dX7_crowd_33 : decode cX7_crowd 33 = .ok (.invokevirtual 336, 3) := by decide +kernel
theorem dX7_crowd_36 : decode cX7_crowd 36 = .ok (.ifCond .ne 5, 3) := by decide +kernel
theorem dX7_crowd_39 : decode cX7_crowd 39 = .ok (.iconst (-1), 1) := by decide +kernel
theorem dX7_crowd_40 : decode cX7_crowd 40 = .ok (.ireturn, 1) := by decide +kernel
theorem dX7_crowd_41 : decode cX7_crowd 41 = .ok (.aload_n 0, 1) := by decide +kernel
theorem dX7_crowd_42 : decode cX7_crowd 42 = .ok (.invokevirtual 339, 3) := by decide +kernel
theorem dX7_crowd_45 : decode cX7_crowd 45 = .ok (.aload_n 0, 1) := by decide +kernel
theorem dX7_crowd_46 : decode cX7_crowd 46 = .ok (.getfield 23, 3) := by decide +kernel
theorem dX7_crowd_49 : decode cX7_crowd 49 = .ok (.iload_n 1, 1) := by decide +kernel
theorem dX7_crowd_50 : decode cX7_crowd 50 = .ok (.putfield 190, 3) := by decide +kernel
theorem dX7_crowd_53 : decode cX7_crowd 53 = .ok (.iconst 0, 1) := by decide +kernel
theorem dX7_crowd_54 : decode cX7_crowd 54 = .ok (.istore 6, 2) := by decide +kernel
theorem dX7_crowd_56 : decode cX7_crowd 56 = .ok (.iconst 0, 1) := by decide +kernel
theorem dX7_crowd_57 : decode cX7_crowd 57 = .ok (.istore 7, 2) := by decide +kernel
theorem dX7_crowd_59 : decode cX7_crowd 59 = .ok (.iload 7, 2) := by decide +kernel
theorem dX7_crowd_61 : decode cX7_crowd 61 = .ok (.iload_n 2, 1) := by decide +kernel
theorem dX7_crowd_62 : decode cX7_crowd 62 = .ok (.if_icmp .ge 97, 3) := by decide +kernel
theorem dX7_crowd_65 : decode cX7_crowd 65 = .ok (.aload_n 0, 1) := by decide +kernel
theorem dX7_crowd_66 : decode cX7_crowd 66 = .ok (.getfield 23, 3) := by decide +kernel
theorem dX7_crowd_69 : decode cX7_crowd 69 = .ok (.iload_n 3, 1) := by decide +kernel
theorem dX7_crowd_70 : decode cX7_crowd 70 = .ok (.invokevirtual 342, 3) := by decide +kernel
theorem dX7_crowd_73 : decode cX7_crowd 73 = .ok (.aload_n 0, 1) := by decide +kernel
theorem dX7_crowd_74 : decode cX7_crowd 74 = .ok (.getfield 43, 3) := by decide +kernel
theorem dX7_crowd_77 : decode cX7_crowd 77 = .ok (.aload_n 0, 1) := by decide +kernel
theorem dX7_crowd_78 : decode cX7_crowd 78 = .ok (.getfield 23, 3) := by decide +kernel
theorem dX7_crowd_81 : decode cX7_crowd 81 = .ok (.invokevirtual 345, 3) := by decide +kernel
theorem dX7_crowd_84 : decode cX7_crowd 84 = .ok (.istore 8, 2) := by decide +kernel
theorem dX7_crowd_86 : decode cX7_crowd 86 = .ok (.aload_n 0, 1) := by decide +kernel
theorem dX7_crowd_87 : decode cX7_crowd 87 = .ok (.getfield 23, 3) := by decide +kernel
theorem dX7_crowd_90 : decode cX7_crowd 90 = .ok (.iload 4, 2) := by decide +kernel
theorem dX7_crowd_92 : decode cX7_crowd 92 = .ok (.iconst 1, 1) := by decide +kernel
theorem dX7_crowd_93 : decode cX7_crowd 93 = .ok (.aload_n 0, 1) := by decide +kernel
theorem dX7_crowd_94 : decode cX7_crowd 94 = .ok (.getfield 37, 3) := by decide +kernel
theorem dX7_crowd_97 : decode cX7_crowd 97 = .ok (.invokevirtual 278, 3) := by decide +kernel
theorem dX7_crowd_100 : decode cX7_crowd 100 = .ok (.aload_n 0, 1) := by decide +kernel
theorem dX7_crowd_101 : decode cX7_crowd 101 = .ok (.getfield 43, 3) := by decide +kernel
theorem dX7_crowd_104 : decode cX7_crowd 104 = .ok (.aload_n 0, 1) := by decide +kernel
theorem dX7_crowd_105 : decode cX7_crowd 105 = .ok (.getfield 23, 3) := by decide +kernel
theorem dX7_crowd_108 : decode cX7_crowd 108 = .ok (.invokevirtual 345, 3) := by decide +kernel
theorem dX7_crowd_111 : decode cX7_crowd 111 = .ok (.istore 9, 2) := by decide +kernel
theorem dX7_crowd_113 : decode cX7_crowd 113 = .ok (.iload 5, 2) := by decide +kernel
theorem dX7_crowd_115 : decode cX7_crowd 115 = .ok (.ifCond .ne 11, 3) := by decide +kernel
theorem dX7_crowd_118 : decode cX7_crowd 118 = .ok (.iload 8, 2) := by decide +kernel
theorem dX7_crowd_120 : decode cX7_crowd 120 = .ok (.ifCond .eq 33, 3) := by decide +kernel
theorem dX7_crowd_123 : decode cX7_crowd 123 = .ok (.goto 27, 3) := by decide +kernel
theorem dX7_crowd_126 : decode cX7_crowd 126 = .ok (.iload 5, 2) := by decide +kernel
theorem dX7_crowd_128 : decode cX7_crowd 128 = .ok (.iconst 1, 1) := by decide +kernel
theorem dX7_crowd_129 : decode cX7_crowd 129 = .ok (.if_icmp .ne 11, 3) := by decide +kernel
theorem dX7_crowd_132 : decode cX7_crowd 132 = .ok (.iload 9, 2) := by decide +kernel
theorem dX7_crowd_134 : decode cX7_crowd 134 = .ok (.ifCond .eq 19, 3) := by decide +kernel
theorem dX7_crowd_137 : decode cX7_crowd 137 = .ok (.goto 13, 3) := by decide +kernel
theorem dX7_crowd_140 : decode cX7_crowd 140 = .ok (.iload 9, 2) := by decide +kernel
theorem dX7_crowd_142 : decode cX7_crowd 142 = .ok (.ifCond .eq 11, 3) := by decide +kernel
theorem dX7_crowd_145 : decode cX7_crowd 145 = .ok (.iload 8, 2) := by decide +kernel
theorem dX7_crowd_147 : decode cX7_crowd 147 = .ok (.ifCond .ne 6, 3) := by decide +kernel
theorem dX7_crowd_150 : decode cX7_crowd 150 = .ok (.iinc 6 1, 3) := by decide +kernel
theorem dX7_crowd_153 : decode cX7_crowd 153 = .ok (.iinc 7 1, 3) := by decide +kernel
theorem dX7_crowd_156 : decode cX7_crowd 156 = .ok (.goto (-97), 3) := by decide +kernel
theorem dX7_crowd_159 : decode cX7_crowd 159 = .ok (.iload 6, 2) := by decide +kernel
theorem dX7_crowd_161 : decode cX7_crowd 161 = .ok (.ireturn, 1) := by decide +kernel
theorem dX7_canLearnByCodes_0 : decode cX7_canLearnByCodes 0 = .ok (.iload_n 1, 1) := by decide +kernel
theorem dX7_canLearnByCodes_1 : decode cX7_canLearnByCodes 1 = .ok (.iconst 1, 1) := by decide +kernel
theorem dX7_canLearnByCodes_2 : decode cX7_canLearnByCodes 2 = .ok (.aload_n 0, 1) := by decide +kernel
theorem dX7_canLearnByCodes_3 : decode cX7_canLearnByCodes 3 = .ok (.getfield 19, 3) := by decide +kernel
theorem dX7_canLearnByCodes_6 : decode cX7_canLearnByCodes 6 = .ok (.getfield 95, 3) := by decide +kernel
theorem dX7_canLearnByCodes_9 : decode cX7_canLearnByCodes 9 = .ok (.invokestatic 225, 3) := by decide +kernel
theorem dX7_canLearnByCodes_12 : decode cX7_canLearnByCodes 12 = .ok (.ifCond .eq 38, 3) := by decide +kernel
theorem dX7_canLearnByCodes_15 : decode cX7_canLearnByCodes 15 = .ok (.aload_n 0, 1) := by decide +kernel
theorem dX7_canLearnByCodes_16 : decode cX7_canLearnByCodes 16 = .ok (.getfield 19, 3) := by decide +kernel
theorem dX7_canLearnByCodes_19 : decode cX7_canLearnByCodes 19 = .ok (.getfield 187, 3) := by decide +kernel
theorem dX7_canLearnByCodes_22 : decode cX7_canLearnByCodes 22 = .ok (.ifCond .le 28, 3) := by decide +kernel
theorem dX7_canLearnByCodes_25 : decode cX7_canLearnByCodes 25 = .ok (.aload_n 0, 1) := by decide +kernel
theorem dX7_canLearnByCodes_26 : decode cX7_canLearnByCodes 26 = .ok (.getfield 19, 3) := by decide +kernel
theorem dX7_canLearnByCodes_29 : decode cX7_canLearnByCodes 29 = .ok (.invokevirtual 349, 3) := by decide +kernel
theorem dX7_canLearnByCodes_32 : decode cX7_canLearnByCodes 32 = .ok (.aload_n 0, 1) := by decide +kernel
theorem dX7_canLearnByCodes_33 : decode cX7_canLearnByCodes 33 = .ok (.getfield 19, 3) := by decide +kernel
theorem dX7_canLearnByCodes_36 : decode cX7_canLearnByCodes 36 = .ok (.getfield 187, 3) := by decide +kernel
theorem dX7_canLearnByCodes_39 : decode cX7_canLearnByCodes 39 = .ok (.idiv, 1) := by decide +kernel
theorem dX7_canLearnByCodes_40 : decode cX7_canLearnByCodes 40 = .ok (.sipush 2000, 3) := by decide +kernel
theorem dX7_canLearnByCodes_43 : decode cX7_canLearnByCodes 43 = .ok (.if_icmp .ge 7, 3) := by decide +kernel
theorem dX7_canLearnByCodes_46 : decode cX7_canLearnByCodes 46 = .ok (.iconst 1, 1) := by decide +kernel
theorem dX7_canLearnByCodes_47 : decode cX7_canLearnByCodes 47 = .ok (.goto 4, 3) := by decide +kernel
theorem dX7_canLearnByCodes_50 : decode cX7_canLearnByCodes 50 = .ok (.iconst 0, 1) := by decide +kernel
theorem dX7_canLearnByCodes_51 : decode cX7_canLearnByCodes 51 = .ok (.ireturn, 1) := by decide +kernel
theorem dX7_setAsideOnPaper_0 : decode cX7_setAsideOnPaper 0 = .ok (.aload_n 0, 1) := by decide +kernel
theorem dX7_setAsideOnPaper_1 : decode cX7_setAsideOnPaper 1 = .ok (.getfield 23, 3) := by decide +kernel
theorem dX7_setAsideOnPaper_4 : decode cX7_setAsideOnPaper 4 = .ok (.aload_n 0, 1) := by decide +kernel
theorem dX7_setAsideOnPaper_5 : decode cX7_setAsideOnPaper 5 = .ok (.getfield 19, 3) := by decide +kernel
theorem dX7_setAsideOnPaper_8 : decode cX7_setAsideOnPaper 8 = .ok (.invokevirtual 352, 3) := by decide +kernel
theorem dX7_setAsideOnPaper_11 : decode cX7_setAsideOnPaper 11 = .ok (.aload_n 0, 1) := by decide +kernel
theorem dX7_setAsideOnPaper_12 : decode cX7_setAsideOnPaper 12 = .ok (.getfield 23, 3) := by decide +kernel
theorem dX7_setAsideOnPaper_15 : decode cX7_setAsideOnPaper 15 = .ok (.iconst 0, 1) := by decide +kernel
theorem dX7_setAsideOnPaper_16 : decode cX7_setAsideOnPaper 16 = .ok (.putfield 184, 3) := by decide +kernel
theorem dX7_setAsideOnPaper_19 : decode cX7_setAsideOnPaper 19 = .ok (.aload_n 0, 1) := by decide +kernel
theorem dX7_setAsideOnPaper_20 : decode cX7_setAsideOnPaper 20 = .ok (.getfield 23, 3) := by decide +kernel
theorem dX7_setAsideOnPaper_23 : decode cX7_setAsideOnPaper 23 = .ok (.iconst 3, 1) := by decide +kernel
theorem dX7_setAsideOnPaper_24 : decode cX7_setAsideOnPaper 24 = .ok (.putfield 181, 3) := by decide +kernel
theorem dX7_setAsideOnPaper_27 : decode cX7_setAsideOnPaper 27 = .ok (.return_, 1) := by decide +kernel
theorem dX7_drawn_0 : decode cX7_drawn 0 = .ok (.iload_n 1, 1) := by decide +kernel
theorem dX7_drawn_1 : decode cX7_drawn 1 = .ok (.iload_n 2, 1) := by decide +kernel
theorem dX7_drawn_2 : decode cX7_drawn 2 = .ok (.invokestatic 355, 3) := by decide +kernel
theorem dX7_drawn_5 : decode cX7_drawn 5 = .ok (.ifCond .eq 13, 3) := by decide +kernel
theorem dX7_drawn_8 : decode cX7_drawn 8 = .ok (.iload 4, 2) := by decide +kernel
theorem dX7_drawn_10 : decode cX7_drawn 10 = .ok (.iconst 0, 1) := by decide +kernel
theorem dX7_drawn_11 : decode cX7_drawn 11 = .ok (.iconst 1, 1) := by decide +kernel
theorem dX7_drawn_12 : decode cX7_drawn 12 = .ok (.invokestatic 225, 3) := by decide +kernel
theorem dX7_drawn_15 : decode cX7_drawn 15 = .ok (.ifCond .ne 5, 3) := by decide +kernel
theorem dX7_drawn_18 : decode cX7_drawn 18 = .ok (.iconst (-1), 1) := by decide +kernel
theorem dX7_drawn_19 : decode cX7_drawn 19 = .ok (.ireturn, 1) := by decide +kernel
theorem dX7_drawn_20 : decode cX7_drawn 20 = .ok (.aload_n 0, 1) := by decide +kernel
theorem dX7_drawn_21 : decode cX7_drawn 21 = .ok (.getfield 23, 3) := by decide +kernel
theorem dX7_drawn_24 : decode cX7_drawn 24 = .ok (.iload_n 1, 1) := by decide +kernel
theorem dX7_drawn_25 : decode cX7_drawn 25 = .ok (.iload_n 2, 1) := by decide +kernel
theorem dX7_drawn_26 : decode cX7_drawn 26 = .ok (.invokevirtual 358, 3) := by decide +kernel
theorem dX7_drawn_29 : decode cX7_drawn 29 = .ok (.iload 4, 2) := by decide +kernel
theorem dX7_drawn_31 : decode cX7_drawn 31 = .ok (.iconst 1, 1) := by decide +kernel
theorem dX7_drawn_32 : decode cX7_drawn 32 = .ok (.if_icmp .ne 12, 3) := by decide +kernel
theorem dX7_drawn_35 : decode cX7_drawn 35 = .ok (.aload_n 0, 1) := by decide +kernel
theorem dX7_drawn_36 : decode cX7_drawn 36 = .ok (.getfield 23, 3) := by decide +kernel
theorem dX7_drawn_39 : decode cX7_drawn 39 = .ok (.iload_n 1, 1) := by decide +kernel
theorem dX7_drawn_40 : decode cX7_drawn 40 = .ok (.invokevirtual 193, 3) := by decide +kernel
theorem dX7_drawn_43 : decode cX7_drawn 43 = .ok (.ireturn, 1) := by decide +kernel
theorem dX7_drawn_44 : decode cX7_drawn 44 = .ok (.iload_n 3, 1) := by decide +kernel
theorem dX7_drawn_45 : decode cX7_drawn 45 = .ok (.iconst 0, 1) := by decide +kernel
theorem dX7_drawn_46 : decode cX7_drawn 46 = .ok (.iload_n 1, 1) := by decide +kernel
theorem dX7_drawn_47 : decode cX7_drawn 47 = .ok (.iconst 1, 1) := by decide +kernel
theorem dX7_drawn_48 : decode cX7_drawn 48 = .ok (.isub, 1) := by decide +kernel
theorem dX7_drawn_49 : decode cX7_drawn 49 = .ok (.invokestatic 225, 3) := by decide +kernel
theorem dX7_drawn_52 : decode cX7_drawn 52 = .ok (.ifCond .eq 15, 3) := by decide +kernel
theorem dX7_drawn_55 : decode cX7_drawn 55 = .ok (.aload_n 0, 1) := by decide +kernel
theorem dX7_drawn_56 : decode cX7_drawn 56 = .ok (.getfield 23, 3) := by decide +kernel
theorem dX7_drawn_59 : decode cX7_drawn 59 = .ok (.getfield 208, 3) := by decide +kernel
theorem dX7_drawn_62 : decode cX7_drawn 62 = .ok (.iload_n 3, 1) := by decide +kernel
theorem dX7_drawn_63 : decode cX7_drawn 63 = .ok (.iaload, 1) := by decide +kernel
theorem dX7_drawn_64 : decode cX7_drawn 64 = .ok (.goto 4, 3) := by decide +kernel
theorem dX7_drawn_67 : decode cX7_drawn 67 = .ok (.iconst (-1), 1) := by decide +kernel
theorem dX7_drawn_68 : decode cX7_drawn 68 = .ok (.ireturn, 1) := by decide +kernel
theorem dX7_fewest_0 : decode cX7_fewest 0 = .ok (.iload_n 2, 1) := by decide +kernel
theorem dX7_fewest_1 : decode cX7_fewest 1 = .ok (.invokestatic 361, 3) := by decide +kernel
theorem dX7_fewest_4 : decode cX7_fewest 4 = .ok (.ifCond .ne 5, 3) := by decide +kernel
theorem dX7_fewest_7 : decode cX7_fewest 7 = .ok (.iconst (-1), 1) := by decide +kernel
theorem dX7_fewest_8 : decode cX7_fewest 8 = .ok (.ireturn, 1) := by decide +kernel
theorem dX7_fewest_9 : decode cX7_fewest 9 = .ok (.iconst 2, 1) := by decide +kernel
theorem dX7_fewest_10 : decode cX7_fewest 10 = .ok (.istore_n 3, 1) := by decide +kernel
theorem dX7_fewest_11 : decode cX7_fewest 11 = .ok (.iload_n 3, 1) := by decide +kernel
theorem dX7_fewest_12 : decode cX7_fewest 12 = .ok (.bipush 12, 2) := by decide +kernel
theorem dX7_fewest_14 : decode cX7_fewest 14 = .ok (.if_icmp .gt 21, 3) := by decide +kernel
theorem dX7_fewest_17 : decode cX7_fewest 17 = .ok (.aload_n 0, 1) := by decide +kernel
theorem dX7_fewest_18 : decode cX7_fewest 18 = .ok (.iload_n 3, 1) := by decide +kernel
theorem dX7_fewest_19 : decode cX7_fewest 19 = .ok (.iload_n 1, 1) := by decide +kernel
theorem dX7_fewest_20 : decode cX7_fewest 20 = .ok (.invokevirtual 364, 3) := by decide +kernel
theorem dX7_fewest_23 : decode cX7_fewest 23 = .ok (.iload_n 2, 1) := by decide +kernel
theorem dX7_fewest_24 : decode cX7_fewest 24 = .ok (.if_icmp .lt 5, 3) := by decide +kernel
theorem dX7_fewest_27 : decode cX7_fewest 27 = .ok (.iload_n 3, 1) := by decide +kernel
theorem dX7_fewest_28 : decode cX7_fewest 28 = .ok (.ireturn, 1) := by decide +kernel
theorem dX7_fewest_29 : decode cX7_fewest 29 = .ok (.iinc 3 1, 3) := by decide +kernel
theorem dX7_fewest_32 : decode cX7_fewest 32 = .ok (.goto (-21), 3) := by decide +kernel
theorem dX7_fewest_35 : decode cX7_fewest 35 = .ok (.iconst (-1), 1) := by decide +kernel
theorem dX7_fewest_36 : decode cX7_fewest 36 = .ok (.ireturn, 1) := by decide +kernel
theorem dX7_loosest_0 : decode cX7_loosest 0 = .ok (.iload_n 2, 1) := by decide +kernel
theorem dX7_loosest_1 : decode cX7_loosest 1 = .ok (.invokestatic 361, 3) := by decide +kernel
theorem dX7_loosest_4 : decode cX7_loosest 4 = .ok (.ifCond .ne 5, 3) := by decide +kernel
theorem dX7_loosest_7 : decode cX7_loosest 7 = .ok (.iconst (-1), 1) := by decide +kernel
theorem dX7_loosest_8 : decode cX7_loosest 8 = .ok (.ireturn, 1) := by decide +kernel
theorem dX7_loosest_9 : decode cX7_loosest 9 = .ok (.iconst 0, 1) := by decide +kernel
theorem dX7_loosest_10 : decode cX7_loosest 10 = .ok (.istore_n 3, 1) := by decide +kernel
theorem dX7_loosest_11 : decode cX7_loosest 11 = .ok (.iload_n 3, 1) := by decide +kernel
theorem dX7_loosest_12 : decode cX7_loosest 12 = .ok (.bipush 100, 2) := by decide +kernel
theorem dX7_loosest_14 : decode cX7_loosest 14 = .ok (.if_icmp .gt 21, 3) := by decide +kernel
theorem dX7_loosest_17 : decode cX7_loosest 17 = .ok (.aload_n 0, 1) := by decide +kernel
theorem dX7_loosest_18 : decode cX7_loosest 18 = .ok (.iload_n 1, 1) := by decide +kernel
theorem dX7_loosest_19 : decode cX7_loosest 19 = .ok (.iload_n 3, 1) := by decide +kernel
theorem dX7_loosest_20 : decode cX7_loosest 20 = .ok (.invokevirtual 364, 3) := by decide +kernel
theorem dX7_loosest_23 : decode cX7_loosest 23 = .ok (.iload_n 2, 1) := by decide +kernel
theorem dX7_loosest_24 : decode cX7_loosest 24 = .ok (.if_icmp .lt 5, 3) := by decide +kernel
theorem dX7_loosest_27 : decode cX7_loosest 27 = .ok (.iload_n 3, 1) := by decide +kernel
theorem dX7_loosest_28 : decode cX7_loosest 28 = .ok (.ireturn, 1) := by decide +kernel
theorem dX7_loosest_29 : decode cX7_loosest 29 = .ok (.iinc 3 1, 3) := by decide +kernel
theorem dX7_loosest_32 : decode cX7_loosest 32 = .ok (.goto (-21), 3) := by decide +kernel
theorem dX7_loosest_35 : decode cX7_loosest 35 = .ok (.iconst (-1), 1) := by decide +kernel
theorem dX7_loosest_36 : decode cX7_loosest 36 = .ok (.ireturn, 1) := by decide +kernel
theorem dX7_draw_0 : decode cX7_draw 0 = .ok (.iload_n 1, 1) := by decide +kernel
theorem dX7_draw_1 : decode cX7_draw 1 = .ok (.iload_n 2, 1) := by decide +kernel
theorem dX7_draw_2 : decode cX7_draw 2 = .ok (.invokestatic 355, 3) := by decide +kernel
theorem dX7_draw_5 : decode cX7_draw 5 = .ok (.ifCond .ne 5, 3) := by decide +kernel
theorem dX7_draw_8 : decode cX7_draw 8 = .ok (.iconst 0, 1) := by decide +kernel
theorem dX7_draw_9 : decode cX7_draw 9 = .ok (.ireturn, 1) := by decide +kernel
theorem dX7_draw_10 : decode cX7_draw 10 = .ok (.aload_n 0, 1) := by decide +kernel
theorem dX7_draw_11 : decode cX7_draw 11 = .ok (.getfield 19, 3) := by decide +kernel
theorem dX7_draw_14 : decode cX7_draw 14 = .ok (.iload_n 1, 1) := by decide +kernel
theorem dX7_draw_15 : decode cX7_draw 15 = .ok (.iload_n 2, 1) := by decide +kernel
theorem dX7_draw_16 : decode cX7_draw 16 = .ok (.invokevirtual 358, 3) := by decide +kernel
theorem dX7_draw_19 : decode cX7_draw 19 = .ok (.aload_n 0, 1) := by decide +kernel
theorem dX7_draw_20 : decode cX7_draw 20 = .ok (.getfield 19, 3) := by decide +kernel
theorem dX7_draw_23 : decode cX7_draw 23 = .ok (.iconst 0, 1) := by decide +kernel
theorem dX7_draw_24 : decode cX7_draw 24 = .ok (.putfield 89, 3) := by decide +kernel
theorem dX7_draw_27 : decode cX7_draw 27 = .ok (.aload_n 0, 1) := by decide +kernel
theorem dX7_draw_28 : decode cX7_draw 28 = .ok (.getfield 33, 3) := by decide +kernel
theorem dX7_draw_31 : decode cX7_draw 31 = .ok (.iconst 0, 1) := by decide +kernel
theorem dX7_draw_32 : decode cX7_draw 32 = .ok (.putfield 92, 3) := by decide +kernel
theorem dX7_draw_35 : decode cX7_draw 35 = .ok (.iconst 1, 1) := by decide +kernel
theorem dX7_draw_36 : decode cX7_draw 36 = .ok (.ireturn, 1) := by decide +kernel
theorem dX7_reachDrawn_0 : decode cX7_reachDrawn 0 = .ok (.iload_n 1, 1) := by decide +kernel
theorem dX7_reachDrawn_1 : decode cX7_reachDrawn 1 = .ok (.iload_n 2, 1) := by decide +kernel
theorem dX7_reachDrawn_2 : decode cX7_reachDrawn 2 = .ok (.invokestatic 355, 3) := by decide +kernel
theorem dX7_reachDrawn_5 : decode cX7_reachDrawn 5 = .ok (.ifCond .ne 5, 3) := by decide +kernel
theorem dX7_reachDrawn_8 : decode cX7_reachDrawn 8 = .ok (.iconst (-1), 1) := by decide +kernel
theorem dX7_reachDrawn_9 : decode cX7_reachDrawn 9 = .ok (.ireturn, 1) := by decide +kernel
theorem dX7_reachDrawn_10 : decode cX7_reachDrawn 10 = .ok (.aload_n 0, 1) := by decide +kernel
theorem dX7_reachDrawn_11 : decode cX7_reachDrawn 11 = .ok (.getfield 23, 3) := by decide +kernel
theorem dX7_reachDrawn_14 : decode cX7_reachDrawn 14 = .ok (.iload_n 1, 1) := by decide +kernel
theorem dX7_reachDrawn_15 : decode cX7_reachDrawn 15 = .ok (.iload_n 2, 1) := by decide +kernel
theorem dX7_reachDrawn_16 : decode cX7_reachDrawn 16 = .ok (.invokevirtual 358, 3) := by decide +kernel
theorem dX7_reachDrawn_19 : decode cX7_reachDrawn 19 = .ok (.aload_n 0, 1) := by decide +kernel
theorem dX7_reachDrawn_20 : decode cX7_reachDrawn 20 = .ok (.getfield 23, 3) := by decide +kernel
theorem dX7_reachDrawn_23 : decode cX7_reachDrawn 23 = .ok (.iload_n 1, 1) := by decide +kernel
theorem dX7_reachDrawn_24 : decode cX7_reachDrawn 24 = .ok (.invokevirtual 193, 3) := by decide +kernel
theorem dX7_reachDrawn_27 : decode cX7_reachDrawn 27 = .ok (.ireturn, 1) := by decide +kernel
theorem dX7_isDrawable_0 : decode cX7_isDrawable 0 = .ok (.iload_n 0, 1) := by decide +kernel
theorem dX7_isDrawable_1 : decode cX7_isDrawable 1 = .ok (.iconst 2, 1) := by decide +kernel
theorem dX7_isDrawable_2 : decode cX7_isDrawable 2 = .ok (.bipush 12, 2) := by decide +kernel
theorem dX7_isDrawable_4 : decode cX7_isDrawable 4 = .ok (.invokestatic 225, 3) := by decide +kernel
theorem dX7_isDrawable_7 : decode cX7_isDrawable 7 = .ok (.ifCond .eq 17, 3) := by decide +kernel
theorem dX7_isDrawable_10 : decode cX7_isDrawable 10 = .ok (.iload_n 1, 1) := by decide +kernel
theorem dX7_isDrawable_11 : decode cX7_isDrawable 11 = .ok (.iconst 0, 1) := by decide +kernel
theorem dX7_isDrawable_12 : decode cX7_isDrawable 12 = .ok (.bipush 100, 2) := by decide +kernel
theorem dX7_isDrawable_14 : decode cX7_isDrawable 14 = .ok (.invokestatic 225, 3) := by decide +kernel
theorem dX7_isDrawable_17 : decode cX7_isDrawable 17 = .ok (.ifCond .eq 7, 3) := by decide +kernel
theorem dX7_isDrawable_20 : decode cX7_isDrawable 20 = .ok (.iconst 1, 1) := by decide +kernel
theorem dX7_isDrawable_21 : decode cX7_isDrawable 21 = .ok (.goto 4, 3) := by decide +kernel
theorem dX7_isDrawable_24 : decode cX7_isDrawable 24 = .ok (.iconst 0, 1) := by decide +kernel
theorem dX7_isDrawable_25 : decode cX7_isDrawable 25 = .ok (.ireturn, 1) := by decide +kernel
theorem dX7_isReach_0 : decode cX7_isReach 0 = .ok (.iload_n 0, 1) := by decide +kernel
theorem dX7_isReach_1 : decode cX7_isReach 1 = .ok (.iconst 1, 1) := by decide +kernel
theorem dX7_isReach_2 : decode cX7_isReach 2 = .ok (.sipush 4095, 3) := by decide +kernel
theorem dX7_isReach_5 : decode cX7_isReach 5 = .ok (.invokestatic 225, 3) := by decide +kernel
theorem dX7_isReach_8 : decode cX7_isReach 8 = .ok (.ireturn, 1) := by decide +kernel
theorem dX7_pass_0 : decode cX7_pass 0 = .ok (.iload_n 1, 1) := by decide +kernel
