theorem dX8_convert_34 : decode cX8_convert 34 = .ok (.aload_n 0, 1) := by decide +kernel
theorem dX8_convert_35 : decode cX8_convert 35 = .ok (.iconst 1, 1) := by decide +kernel
theorem dX8_convert_36 : decode cX8_convert 36 = .ok (.putfield 181, 3) := by decide +kernel
theorem dX8_convert_39 : decode cX8_convert 39 = .ok (.aload_n 0, 1) := by decide +kernel
theorem dX8_convert_40 : decode cX8_convert 40 = .ok (.aload_n 0, 1) := by decide +kernel
theorem dX8_convert_41 : decode cX8_convert 41 = .ok (.iconst 0, 1) := by decide +kernel
theorem dX8_convert_42 : decode cX8_convert 42 = .ok (.invokevirtual 221, 3) := by decide +kernel
theorem dX8_convert_45 : decode cX8_convert 45 = .ok (.putfield 284, 3) := by decide +kernel
theorem dX8_convert_48 : decode cX8_convert 48 = .ok (.aload_n 0, 1) := by decide +kernel
theorem dX8_convert_49 : decode cX8_convert 49 = .ok (.aload_n 0, 1) := by decide +kernel
theorem dX8_convert_50 : decode cX8_convert 50 = .ok (.getfield 264, 3) := by decide +kernel
theorem dX8_convert_53 : decode cX8_convert 53 = .ok (.putfield 287, 3) := by decide +kernel
theorem dX8_convert_56 : decode cX8_convert 56 = .ok (.aload_n 0, 1) := by decide +kernel
theorem dX8_convert_57 : decode cX8_convert 57 = .ok (.aload_n 0, 1) := by decide +kernel
theorem dX8_convert_58 : decode cX8_convert 58 = .ok (.getfield 267, 3) := by decide +kernel
theorem dX8_convert_61 : decode cX8_convert 61 = .ok (.putfield 290, 3) := by decide +kernel
theorem dX8_convert_64 : decode cX8_convert 64 = .ok (.aload_n 0, 1) := by decide +kernel
theorem dX8_convert_65 : decode cX8_convert 65 = .ok (.iload_n 1, 1) := by decide +kernel
theorem dX8_convert_66 : decode cX8_convert 66 = .ok (.aload_n 0, 1) := by decide +kernel
theorem dX8_convert_67 : decode cX8_convert 67 = .ok (.iconst 1, 1) := by decide +kernel
theorem dX8_convert_68 : decode cX8_convert 68 = .ok (.invokevirtual 221, 3) := by decide +kernel
theorem dX8_convert_71 : decode cX8_convert 71 = .ok (.iadd, 1) := by decide +kernel
theorem dX8_convert_72 : decode cX8_convert 72 = .ok (.aload_n 0, 1) := by decide +kernel
theorem dX8_convert_73 : decode cX8_convert 73 = .ok (.getfield 267, 3) := by decide +kernel
theorem dX8_convert_76 : decode cX8_convert 76 = .ok (.isub, 1) := by decide +kernel
theorem dX8_convert_77 : decode cX8_convert 77 = .ok (.putfield 293, 3) := by decide +kernel
theorem dX8_convert_80 : decode cX8_convert 80 = .ok (.aload_n 0, 1) := by decide +kernel
theorem dX8_convert_81 : decode cX8_convert 81 = .ok (.aload_n 0, 1) := by decide +kernel
theorem dX8_convert_82 : decode cX8_convert 82 = .ok (.invokevirtual 276, 3) := by decide +kernel
theorem dX8_convert_85 : decode cX8_convert 85 = .ok (.putfield 296, 3) := by decide +kernel
theorem dX8_convert_88 : decode cX8_convert 88 = .ok (.iconst 0, 1) := by decide +kernel
theorem dX8_convert_89 : decode cX8_convert 89 = .ok (.istore_n 2, 1) := by decide +kernel
theorem dX8_convert_90 : decode cX8_convert 90 = .ok (.iload_n 2, 1) := by decide +kernel
theorem dX8_convert_91 : decode cX8_convert 91 = .ok (.aload_n 0, 1) := by decide +kernel
theorem dX8_convert_92 : decode cX8_convert 92 = .ok (.getfield 284, 3) := by decide +kernel
theorem dX8_convert_95 : decode cX8_convert 95 = .ok (.if_icmp .ge 74, 3) := by decide +kernel
theorem dX8_convert_98 : decode cX8_convert 98 = .ok (.aload_n 0, 1) := by decide +kernel
theorem dX8_convert_99 : decode cX8_convert 99 = .ok (.getfield 83, 3) := by decide +kernel
theorem dX8_convert_102 : decode cX8_convert 102 = .ok (.iload_n 2, 1) := by decide +kernel
theorem dX8_convert_103 : decode cX8_convert 103 = .ok (.aload_n 0, 1) := by decide +kernel
theorem dX8_convert_104 : decode cX8_convert 104 = .ok (.getfield 67, 3) := by decide +kernel
theorem dX8_convert_107 : decode cX8_convert 107 = .ok (.iload_n 2, 1) := by decide +kernel
theorem dX8_convert_108 : decode cX8_convert 108 = .ok (.iaload, 1) := by decide +kernel
theorem dX8_convert_109 : decode cX8_convert 109 = .ok (.iastore, 1) := by decide +kernel
theorem dX8_convert_110 : decode cX8_convert 110 = .ok (.aload_n 0, 1) := by decide +kernel
theorem dX8_convert_111 : decode cX8_convert 111 = .ok (.getfield 83, 3) := by decide +kernel
theorem dX8_convert_114 : decode cX8_convert 114 = .ok (.bipush 12, 2) := by decide +kernel
theorem dX8_convert_116 : decode cX8_convert 116 = .ok (.iload_n 2, 1) := by decide +kernel
theorem dX8_convert_117 : decode cX8_convert 117 = .ok (.iadd, 1) := by decide +kernel
theorem dX8_convert_118 : decode cX8_convert 118 = .ok (.aload_n 0, 1) := by decide +kernel
theorem dX8_convert_119 : decode cX8_convert 119 = .ok (.getfield 70, 3) := by decide +kernel
theorem dX8_convert_122 : decode cX8_convert 122 = .ok (.iload_n 2, 1) := by decide +kernel
theorem dX8_convert_123 : decode cX8_convert 123 = .ok (.baload, 1) := by decide +kernel
theorem dX8_convert_124 : decode cX8_convert 124 = .ok (.ifCond .eq 7, 3) := by decide +kernel
theorem dX8_convert_127 : decode cX8_convert 127 = .ok (.iconst 1, 1) := by decide +kernel
theorem dX8_convert_128 : decode cX8_convert 128 = .ok (.goto 4, 3) := by decide +kernel
theorem dX8_convert_131 : decode cX8_convert 131 = .ok (.iconst 0, 1) := by decide +kernel
theorem dX8_convert_132 : decode cX8_convert 132 = .ok (.iastore, 1) := by decide +kernel
theorem dX8_convert_133 : decode cX8_convert 133 = .ok (.aload_n 0, 1) := by decide +kernel
theorem dX8_convert_134 : decode cX8_convert 134 = .ok (.getfield 83, 3) := by decide +kernel
theorem dX8_convert_137 : decode cX8_convert 137 = .ok (.bipush 24, 2) := by decide +kernel
theorem dX8_convert_139 : decode cX8_convert 139 = .ok (.iload_n 2, 1) := by decide +kernel
theorem dX8_convert_140 : decode cX8_convert 140 = .ok (.iadd, 1) := by decide +kernel
theorem dX8_convert_141 : decode cX8_convert 141 = .ok (.aload_n 0, 1) := by decide +kernel
theorem dX8_convert_142 : decode cX8_convert 142 = .ok (.getfield 74, 3) := by decide +kernel
theorem dX8_convert_145 : decode cX8_convert 145 = .ok (.iload_n 2, 1) := by decide +kernel
theorem dX8_convert_146 : decode cX8_convert 146 = .ok (.iaload, 1) := by decide +kernel
theorem dX8_convert_147 : decode cX8_convert 147 = .ok (.iastore, 1) := by decide +kernel
theorem dX8_convert_148 : decode cX8_convert 148 = .ok (.aload_n 0, 1) := by decide +kernel
theorem dX8_convert_149 : decode cX8_convert 149 = .ok (.getfield 83, 3) := by decide +kernel
theorem dX8_convert_152 : decode cX8_convert 152 = .ok (.bipush 36, 2) := by decide +kernel
theorem dX8_convert_154 : decode cX8_convert 154 = .ok (.iload_n 2, 1) := by decide +kernel
theorem dX8_convert_155 : decode cX8_convert 155 = .ok (.iadd, 1) := by decide +kernel
theorem dX8_convert_156 : decode cX8_convert 156 = .ok (.aload_n 0, 1) := by decide +kernel
theorem dX8_convert_157 : decode cX8_convert 157 = .ok (.getfield 77, 3) := by decide +kernel
theorem dX8_convert_160 : decode cX8_convert 160 = .ok (.iload_n 2, 1) := by decide +kernel
theorem dX8_convert_161 : decode cX8_convert 161 = .ok (.iaload, 1) := by decide +kernel
theorem dX8_convert_162 : decode cX8_convert 162 = .ok (.iastore, 1) := by decide +kernel
theorem dX8_convert_163 : decode cX8_convert 163 = .ok (.iinc 2 1, 3) := by decide +kernel
theorem dX8_convert_166 : decode cX8_convert 166 = .ok (.goto (-76), 3) := by decide +kernel
theorem dX8_convert_169 : decode cX8_convert 169 = .ok (.aload_n 0, 1) := by decide +kernel
theorem dX8_convert_170 : decode cX8_convert 170 = .ok (.getfield 296, 3) := by decide +kernel
theorem dX8_convert_173 : decode cX8_convert 173 = .ok (.ireturn, 1) := by decide +kernel
theorem dX8_decision_0 : decode cX8_decision 0 = .ok (.aload_n 0, 1) := by decide +kernel
theorem dX8_decision_1 : decode cX8_decision 1 = .ok (.getfield 181, 3) := by decide +kernel
theorem dX8_decision_4 : decode cX8_decision 4 = .ok (.ifCond .eq 40, 3) := by decide +kernel
theorem dX8_decision_7 : decode cX8_decision 7 = .ok (.iload_n 1, 1) := by decide +kernel
theorem dX8_decision_8 : decode cX8_decision 8 = .ok (.iconst 0, 1) := by decide +kernel
theorem dX8_decision_9 : decode cX8_decision 9 = .ok (.aload_n 0, 1) := by decide +kernel
theorem dX8_decision_10 : decode cX8_decision 10 = .ok (.getfield 284, 3) := by decide +kernel
theorem dX8_decision_13 : decode cX8_decision 13 = .ok (.iconst 1, 1) := by decide +kernel
theorem dX8_decision_14 : decode cX8_decision 14 = .ok (.isub, 1) := by decide +kernel
theorem dX8_decision_15 : decode cX8_decision 15 = .ok (.invokestatic 129, 3) := by decide +kernel
theorem dX8_decision_18 : decode cX8_decision 18 = .ok (.ifCond .eq 26, 3) := by decide +kernel
theorem dX8_decision_21 : decode cX8_decision 21 = .ok (.iload_n 2, 1) := by decide +kernel
theorem dX8_decision_22 : decode cX8_decision 22 = .ok (.iconst 0, 1) := by decide +kernel
theorem dX8_decision_23 : decode cX8_decision 23 = .ok (.iconst 3, 1) := by decide +kernel
theorem dX8_decision_24 : decode cX8_decision 24 = .ok (.invokestatic 129, 3) := by decide +kernel
theorem dX8_decision_27 : decode cX8_decision 27 = .ok (.ifCond .eq 17, 3) := by decide +kernel
theorem dX8_decision_30 : decode cX8_decision 30 = .ok (.aload_n 0, 1) := by decide +kernel
theorem dX8_decision_31 : decode cX8_decision 31 = .ok (.getfield 83, 3) := by decide +kernel
theorem dX8_decision_34 : decode cX8_decision 34 = .ok (.bipush 12, 2) := by decide +kernel
theorem dX8_decision_36 : decode cX8_decision 36 = .ok (.iload_n 2, 1) := by decide +kernel
theorem dX8_decision_37 : decode cX8_decision 37 = .ok (.imul, 1) := by decide +kernel
theorem dX8_decision_38 : decode cX8_decision 38 = .ok (.iload_n 1, 1) := by decide +kernel
theorem dX8_decision_39 : decode cX8_decision 39 = .ok (.iadd, 1) := by decide +kernel
theorem dX8_decision_40 : decode cX8_decision 40 = .ok (.iaload, 1) := by decide +kernel
theorem dX8_decision_41 : decode cX8_decision 41 = .ok (.goto 6, 3) := by decide +kernel
theorem dX8_decision_44 : decode cX8_decision 44 = .ok (.ldc_w 283, 3) := by decide +kernel
theorem dX8_decision_47 : decode cX8_decision 47 = .ok (.ireturn, 1) := by decide +kernel
theorem dX8_countLast_0 : decode cX8_countLast 0 = .ok (.iconst 0, 1) := by decide +kernel
theorem dX8_countLast_1 : decode cX8_countLast 1 = .ok (.istore_n 2, 1) := by decide +kernel
theorem dX8_countLast_2 : decode cX8_countLast 2 = .ok (.iconst 0, 1) := by decide +kernel
theorem dX8_countLast_3 : decode cX8_countLast 3 = .ok (.istore_n 3, 1) := by decide +kernel
theorem dX8_countLast_4 : decode cX8_countLast 4 = .ok (.iload_n 3, 1) := by decide +kernel
theorem dX8_countLast_5 : decode cX8_countLast 5 = .ok (.aload_n 0, 1) := by decide +kernel
theorem dX8_countLast_6 : decode cX8_countLast 6 = .ok (.getfield 284, 3) := by decide +kernel
theorem dX8_countLast_9 : decode cX8_countLast 9 = .ok (.if_icmp .ge 23, 3) := by decide +kernel
theorem dX8_countLast_12 : decode cX8_countLast 12 = .ok (.iload_n 2, 1) := by decide +kernel
theorem dX8_countLast_13 : decode cX8_countLast 13 = .ok (.aload_n 0, 1) := by decide +kernel
theorem dX8_countLast_14 : decode cX8_countLast 14 = .ok (.getfield 83, 3) := by decide +kernel
theorem dX8_countLast_17 : decode cX8_countLast 17 = .ok (.bipush 12, 2) := by decide +kernel
theorem dX8_countLast_19 : decode cX8_countLast 19 = .ok (.iload_n 1, 1) := by decide +kernel
theorem dX8_countLast_20 : decode cX8_countLast 20 = .ok (.imul, 1) := by decide +kernel
theorem dX8_countLast_21 : decode cX8_countLast 21 = .ok (.iload_n 3, 1) := by decide +kernel
theorem dX8_countLast_22 : decode cX8_countLast 22 = .ok (.iadd, 1) := by decide +kernel
theorem dX8_countLast_23 : decode cX8_countLast 23 = .ok (.iaload, 1) := by decide +kernel
theorem dX8_countLast_24 : decode cX8_countLast 24 = .ok (.iadd, 1) := by decide +kernel
theorem dX8_countLast_25 : decode cX8_countLast 25 = .ok (.istore_n 2, 1) := by decide +kernel
theorem dX8_countLast_26 : decode cX8_countLast 26 = .ok (.iinc 3 1, 3) := by decide +kernel
theorem dX8_countLast_29 : decode cX8_countLast 29 = .ok (.goto (-25), 3) := by decide +kernel
theorem dX8_countLast_32 : decode cX8_countLast 32 = .ok (.iload_n 2, 1) := by decide +kernel
theorem dX8_countLast_33 : decode cX8_countLast 33 = .ok (.ireturn, 1) := by decide +kernel
theorem dX8_converted_0 : decode cX8_converted 0 = .ok (.aload_n 0, 1) := by decide +kernel
theorem dX8_converted_1 : decode cX8_converted 1 = .ok (.getfield 181, 3) := by decide +kernel
theorem dX8_converted_4 : decode cX8_converted 4 = .ok (.ifCond .ne 7, 3) := by decide +kernel
theorem dX8_converted_7 : decode cX8_converted 7 = .ok (.ldc_w 283, 3) := by decide +kernel
theorem dX8_converted_10 : decode cX8_converted 10 = .ok (.ireturn, 1) := by decide +kernel
theorem dX8_converted_11 : decode cX8_converted 11 = .ok (.iload_n 1, 1) := by decide +kernel
theorem dX8_converted_12 : decode cX8_converted 12 = .ok (.tableswitch 72 0 5 #[40, 45, 50, 55, 61, 67], 40) := by decide +kernel
theorem dX8_converted_52 : decode cX8_converted 52 = .ok (.aload_n 0, 1) := by decide +kernel
theorem dX8_converted_53 : decode cX8_converted 53 = .ok (.getfield 287, 3) := by decide +kernel
theorem dX8_converted_56 : decode cX8_converted 56 = .ok (.ireturn, 1) := by decide +kernel
theorem dX8_converted_57 : decode cX8_converted 57 = .ok (.aload_n 0, 1) := by decide +kernel
theorem dX8_converted_58 : decode cX8_converted 58 = .ok (.getfield 290, 3) := by decide +kernel
theorem dX8_converted_61 : decode cX8_converted 61 = .ok (.ireturn, 1) := by decide +kernel
theorem dX8_converted_62 : decode cX8_converted 62 = .ok (.aload_n 0, 1) := by decide +kernel
theorem dX8_converted_63 : decode cX8_converted 63 = .ok (.getfield 293, 3) := by decide +kernel
theorem dX8_converted_66 : decode cX8_converted 66 = .ok (.ireturn, 1) := by decide +kernel
theorem dX8_converted_67 : decode cX8_converted 67 = .ok (.aload_n 0, 1) := by decide +kernel
theorem dX8_converted_68 : decode cX8_converted 68 = .ok (.iconst 1, 1) := by decide +kernel
theorem dX8_converted_69 : decode cX8_converted 69 = .ok (.invokevirtual 299, 3) := by decide +kernel
theorem dX8_converted_72 : decode cX8_converted 72 = .ok (.ireturn, 1) := by decide +kernel
theorem dX8_converted_73 : decode cX8_converted 73 = .ok (.aload_n 0, 1) := by decide +kernel
theorem dX8_converted_74 : decode cX8_converted 74 = .ok (.iconst 0, 1) := by decide +kernel
theorem dX8_converted_75 : decode cX8_converted 75 = .ok (.invokevirtual 299, 3) := by decide +kernel
theorem dX8_converted_78 : decode cX8_converted 78 = .ok (.ireturn, 1) := by decide +kernel
theorem dX8_converted_79 : decode cX8_converted 79 = .ok (.aload_n 0, 1) := by decide +kernel
theorem dX8_converted_80 : decode cX8_converted 80 = .ok (.getfield 296, 3) := by decide +kernel
theorem dX8_converted_83 : decode cX8_converted 83 = .ok (.ireturn, 1) := by decide +kernel
theorem dX8_converted_84 : decode cX8_converted 84 = .ok (.ldc_w 283, 3) := by decide +kernel
theorem dX8_converted_87 : decode cX8_converted 87 = .ok (.ireturn, 1) := by decide +kernel
theorem dX8_write_0 : decode cX8_write 0 = .ok (.aload_n 0, 1) := by decide +kernel
theorem dX8_write_1 : decode cX8_write 1 = .ok (.getfield 181, 3) := by decide +kernel
theorem dX8_write_4 : decode cX8_write 4 = .ok (.ifCond .ne 5, 3) := by decide +kernel
theorem dX8_write_7 : decode cX8_write 7 = .ok (.iconst (-1), 1) := by decide +kernel
theorem dX8_write_8 : decode cX8_write 8 = .ok (.ireturn, 1) := by decide +kernel
theorem dX8_write_9 : decode cX8_write 9 = .ok (.aload_n 0, 1) := by decide +kernel
theorem dX8_write_10 : decode cX8_write 10 = .ok (.aload_n 0, 1) := by decide +kernel
theorem dX8_write_11 : decode cX8_write 11 = .ok (.getfield 284, 3) := by decide +kernel
theorem dX8_write_14 : decode cX8_write 14 = .ok (.putfield 302, 3) := by decide +kernel
theorem dX8_write_17 : decode cX8_write 17 = .ok (.iconst 0, 1) := by decide +kernel
theorem dX8_write_18 : decode cX8_write 18 = .ok (.istore_n 1, 1) := by decide +kernel
theorem dX8_write_19 : decode cX8_write 19 = .ok (.iload_n 1, 1) := by decide +kernel
theorem dX8_write_20 : decode cX8_write 20 = .ok (.aload_n 0, 1) := by decide +kernel
theorem dX8_write_21 : decode cX8_write 21 = .ok (.getfield 284, 3) := by decide +kernel
theorem dX8_write_24 : decode cX8_write 24 = .ok (.if_icmp .ge 77, 3) := by decide +kernel
theorem dX8_write_27 : decode cX8_write 27 = .ok (.aload_n 0, 1) := by decide +kernel
theorem dX8_write_28 : decode cX8_write 28 = .ok (.getfield 83, 3) := by decide +kernel
theorem dX8_write_31 : decode cX8_write 31 = .ok (.iload_n 1, 1) := by decide +kernel
theorem dX8_write_32 : decode cX8_write 32 = .ok (.iaload, 1) := by decide +kernel
theorem dX8_write_33 : decode cX8_write 33 = .ok (.iconst 1, 1) := by decide +kernel
theorem dX8_write_34 : decode cX8_write 34 = .ok (.if_icmp .ne 7, 3) := by decide +kernel
theorem dX8_write_37 : decode cX8_write 37 = .ok (.iconst 1, 1) := by decide +kernel
theorem dX8_write_38 : decode cX8_write 38 = .ok (.goto 4, 3) := by decide +kernel
theorem dX8_write_41 : decode cX8_write 41 = .ok (.iconst 0, 1) := by decide +kernel
theorem dX8_write_42 : decode cX8_write 42 = .ok (.istore_n 2, 1) := by decide +kernel
theorem dX8_write_43 : decode cX8_write 43 = .ok (.aload_n 0, 1) := by decide +kernel
theorem dX8_write_44 : decode cX8_write 44 = .ok (.getfield 86, 3) := by decide +kernel
theorem dX8_write_47 : decode cX8_write 47 = .ok (.aload_n 0, 1) := by decide +kernel
theorem dX8_write_48 : decode cX8_write 48 = .ok (.getfield 284, 3) := by decide +kernel
theorem dX8_write_51 : decode cX8_write 51 = .ok (.iconst 1, 1) := by decide +kernel
theorem dX8_write_52 : decode cX8_write 52 = .ok (.isub, 1) := by decide +kernel
theorem dX8_write_53 : decode cX8_write 53 = .ok (.iload_n 1, 1) := by decide +kernel
theorem dX8_write_54 : decode cX8_write 54 = .ok (.isub, 1) := by decide +kernel
theorem dX8_write_55 : decode cX8_write 55 = .ok (.aload_n 0, 1) := by decide +kernel
theorem dX8_write_56 : decode cX8_write 56 = .ok (.getfield 83, 3) := by decide +kernel
theorem dX8_write_59 : decode cX8_write 59 = .ok (.bipush 12, 2) := by decide +kernel
theorem dX8_write_61 : decode cX8_write 61 = .ok (.iload_n 1, 1) := by decide +kernel
theorem dX8_write_62 : decode cX8_write 62 = .ok (.iadd, 1) := by decide +kernel
theorem dX8_write_63 : decode cX8_write 63 = .ok (.iaload, 1) := by decide +kernel
theorem dX8_write_64 : decode cX8_write 64 = .ok (.iconst 1, 1) := by decide +kernel
theorem dX8_write_65 : decode cX8_write 65 = .ok (.if_icmp .ne 17, 3) := by decide +kernel
theorem dX8_write_68 : decode cX8_write 68 = .ok (.iload_n 2, 1) := by decide +kernel
theorem dX8_write_69 : decode cX8_write 69 = .ok (.ifCond .eq 8, 3) := by decide +kernel
theorem dX8_write_72 : decode cX8_write 72 = .ok (.bipush 43, 2) := by decide +kernel
theorem dX8_write_74 : decode cX8_write 74 = .ok (.goto 19, 3) := by decide +kernel
theorem dX8_write_77 : decode cX8_write 77 = .ok (.bipush 45, 2) := by decide +kernel
theorem dX8_write_79 : decode cX8_write 79 = .ok (.goto 14, 3) := by decide +kernel
theorem dX8_write_82 : decode cX8_write 82 = .ok (.iload_n 2, 1) := by decide +kernel
theorem dX8_write_83 : decode cX8_write 83 = .ok (.ifCond .eq 8, 3) := by decide +kernel
theorem dX8_write_86 : decode cX8_write 86 = .ok (.bipush 49, 2) := by decide +kernel
theorem dX8_write_88 : decode cX8_write 88 = .ok (.goto 5, 3) := by decide +kernel
theorem dX8_write_91 : decode cX8_write 91 = .ok (.bipush 48, 2) := by decide +kernel
theorem dX8_write_93 : decode cX8_write 93 = .ok (.i2b, 1) := by decide +kernel
theorem dX8_write_94 : decode cX8_write 94 = .ok (.bastore, 1) := by decide +kernel
theorem dX8_write_95 : decode cX8_write 95 = .ok (.iinc 1 1, 3) := by decide +kernel
theorem dX8_write_98 : decode cX8_write 98 = .ok (.goto (-79), 3) := by decide +kernel
theorem dX8_write_101 : decode cX8_write 101 = .ok (.aload_n 0, 1) := by decide +kernel
theorem dX8_write_102 : decode cX8_write 102 = .ok (.getfield 302, 3) := by decide +kernel
theorem dX8_write_105 : decode cX8_write 105 = .ok (.ireturn, 1) := by decide +kernel
theorem dX8_octet_0 : decode cX8_octet 0 = .ok (.iload_n 1, 1) := by decide +kernel
theorem dX8_octet_1 : decode cX8_octet 1 = .ok (.iconst 0, 1) := by decide +kernel
theorem dX8_octet_2 : decode cX8_octet 2 = .ok (.aload_n 0, 1) := by decide +kernel
theorem dX8_octet_3 : decode cX8_octet 3 = .ok (.getfield 302, 3) := by decide +kernel
theorem dX8_octet_6 : decode cX8_octet 6 = .ok (.iconst 1, 1) := by decide +kernel
theorem dX8_octet_7 : decode cX8_octet 7 = .ok (.isub, 1) := by decide +kernel
theorem dX8_octet_8 : decode cX8_octet 8 = .ok (.invokestatic 129, 3) := by decide +kernel
theorem dX8_octet_11 : decode cX8_octet 11 = .ok (.ifCond .eq 12, 3) := by decide +kernel
theorem dX8_octet_14 : decode cX8_octet 14 = .ok (.aload_n 0, 1) := by decide +kernel
theorem dX8_octet_15 : decode cX8_octet 15 = .ok (.getfield 86, 3) := by decide +kernel
theorem dX8_octet_18 : decode cX8_octet 18 = .ok (.iload_n 1, 1) := by decide +kernel
theorem dX8_octet_19 : decode cX8_octet 19 = .ok (.baload, 1) := by decide +kernel
theorem dX8_octet_20 : decode cX8_octet 20 = .ok (.goto 4, 3) := by decide +kernel
theorem dX8_octet_23 : decode cX8_octet 23 = .ok (.iconst (-1), 1) := by decide +kernel
theorem dX8_octet_24 : decode cX8_octet 24 = .ok (.ireturn, 1) := by decide +kernel
theorem dX8_learnNow_0 : decode cX8_learnNow 0 = .ok (.aload_n 0, 1) := by decide +kernel
theorem dX8_learnNow_1 : decode cX8_learnNow 1 = .ok (.iconst 0, 1) := by decide +kernel
theorem dX8_learnNow_2 : decode cX8_learnNow 2 = .ok (.invokevirtual 221, 3) := by decide +kernel
theorem dX8_learnNow_5 : decode cX8_learnNow 5 = .ok (.istore_n 3, 1) := by decide +kernel
theorem dX8_learnNow_6 : decode cX8_learnNow 6 = .ok (.iconst 0, 1) := by decide +kernel
theorem dX8_learnNow_7 : decode cX8_learnNow 7 = .ok (.istore 4, 2) := by decide +kernel
theorem dX8_learnNow_9 : decode cX8_learnNow 9 = .ok (.iload 4, 2) := by decide +kernel
theorem dX8_learnNow_11 : decode cX8_learnNow 11 = .ok (.iload_n 1, 1) := by decide +kernel
theorem dX8_learnNow_12 : decode cX8_learnNow 12 = .ok (.if_icmp .ge 27, 3) := by decide +kernel
theorem dX8_learnNow_15 : decode cX8_learnNow 15 = .ok (.aload_n 0, 1) := by decide +kernel
theorem dX8_learnNow_16 : decode cX8_learnNow 16 = .ok (.bipush 33, 2) := by decide +kernel
theorem dX8_learnNow_18 : decode cX8_learnNow 18 = .ok (.iload 4, 2) := by decide +kernel
theorem dX8_learnNow_20 : decode cX8_learnNow 20 = .ok (.iadd, 1) := by decide +kernel
theorem dX8_learnNow_21 : decode cX8_learnNow 21 = .ok (.aload_n 0, 1) := by decide +kernel
theorem dX8_learnNow_22 : decode cX8_learnNow 22 = .ok (.bipush 9, 2) := by decide +kernel
theorem dX8_learnNow_24 : decode cX8_learnNow 24 = .ok (.iload 4, 2) := by decide +kernel
theorem dX8_learnNow_26 : decode cX8_learnNow 26 = .ok (.iadd, 1) := by decide +kernel
theorem dX8_learnNow_27 : decode cX8_learnNow 27 = .ok (.invokevirtual 221, 3) := by decide +kernel
theorem dX8_learnNow_30 : decode cX8_learnNow 30 = .ok (.invokevirtual 119, 3) := by decide +kernel
theorem dX8_learnNow_33 : decode cX8_learnNow 33 = .ok (.iinc 4 1, 3) := by decide +kernel
theorem dX8_learnNow_36 : decode cX8_learnNow 36 = .ok (.goto (-27), 3) := by decide +kernel
theorem dX8_learnNow_39 : decode cX8_learnNow 39 = .ok (.iload_n 1, 1) := by decide +kernel
theorem dX8_learnNow_40 : decode cX8_learnNow 40 = .ok (.istore 4, 2) := by decide +kernel
theorem dX8_learnNow_42 : decode cX8_learnNow 42 = .ok (.iload 4, 2) := by decide +kernel
theorem dX8_learnNow_44 : decode cX8_learnNow 44 = .ok (.iload_n 3, 1) := by decide +kernel
theorem dX8_learnNow_45 : decode cX8_learnNow 45 = .ok (.if_icmp .ge 97, 3) := by decide +kernel
theorem dX8_learnNow_48 : decode cX8_learnNow 48 = .ok (.iconst 0, 1) := by decide +kernel
theorem dX8_learnNow_49 : decode cX8_learnNow 49 = .ok (.istore 5, 2) := by decide +kernel
theorem dX8_learnNow_51 : decode cX8_learnNow 51 = .ok (.iconst 0, 1) := by decide +kernel
theorem dX8_learnNow_52 : decode cX8_learnNow 52 = .ok (.istore 6, 2) := by decide +kernel
theorem dX8_learnNow_54 : decode cX8_learnNow 54 = .ok (.iload 6, 2) := by decide +kernel
theorem dX8_learnNow_56 : decode cX8_learnNow 56 = .ok (.iload_n 2, 1) := by decide +kernel
theorem dX8_learnNow_57 : decode cX8_learnNow 57 = .ok (.if_icmp .ge 62, 3) := by decide +kernel
theorem dX8_learnNow_60 : decode cX8_learnNow 60 = .ok (.aload_n 0, 1) := by decide +kernel
theorem dX8_learnNow_61 : decode cX8_learnNow 61 = .ok (.aload_n 0, 1) := by decide +kernel
theorem dX8_learnNow_62 : decode cX8_learnNow 62 = .ok (.iload 4, 2) := by decide +kernel
theorem dX8_learnNow_64 : decode cX8_learnNow 64 = .ok (.invokevirtual 224, 3) := by decide +kernel
theorem dX8_learnNow_67 : decode cX8_learnNow 67 = .ok (.iload 4, 2) := by decide +kernel
theorem dX8_learnNow_69 : decode cX8_learnNow 69 = .ok (.aload_n 0, 1) := by decide +kernel
theorem dX8_learnNow_70 : decode cX8_learnNow 70 = .ok (.iconst 1, 1) := by decide +kernel
theorem dX8_learnNow_71 : decode cX8_learnNow 71 = .ok (.invokevirtual 221, 3) := by decide +kernel
theorem dX8_learnNow_74 : decode cX8_learnNow 74 = .ok (.invokevirtual 273, 3) := by decide +kernel
theorem dX8_learnNow_77 : decode cX8_learnNow 77 = .ok (.iload 5, 2) := by decide +kernel
theorem dX8_learnNow_79 : decode cX8_learnNow 79 = .ok (.aload_n 0, 1) := by decide +kernel
theorem dX8_learnNow_80 : decode cX8_learnNow 80 = .ok (.getfield 264, 3) := by decide +kernel
theorem dX8_learnNow_83 : decode cX8_learnNow 83 = .ok (.iadd, 1) := by decide +kernel
theorem dX8_learnNow_84 : decode cX8_learnNow 84 = .ok (.istore 5, 2) := by decide +kernel
theorem dX8_learnNow_86 : decode cX8_learnNow 86 = .ok (.aload_n 0, 1) := by decide +kernel
theorem dX8_learnNow_87 : decode cX8_learnNow 87 = .ok (.aload_n 0, 1) := by decide +kernel
theorem dX8_learnNow_88 : decode cX8_learnNow 88 = .ok (.iload 4, 2) := by decide +kernel
theorem dX8_learnNow_90 : decode cX8_learnNow 90 = .ok (.invokevirtual 224, 3) := by decide +kernel
theorem dX8_learnNow_93 : decode cX8_learnNow 93 = .ok (.iload 4, 2) := by decide +kernel
theorem dX8_learnNow_95 : decode cX8_learnNow 95 = .ok (.aload_n 0, 1) := by decide +kernel
theorem dX8_learnNow_96 : decode cX8_learnNow 96 = .ok (.iconst 1, 1) := by decide +kernel
theorem dX8_learnNow_97 : decode cX8_learnNow 97 = .ok (.invokevirtual 221, 3) := by decide +kernel
theorem dX8_learnNow_100 : decode cX8_learnNow 100 = .ok (.ineg, 1) := by decide +kernel
theorem dX8_learnNow_101 : decode cX8_learnNow 101 = .ok (.invokevirtual 273, 3) := by decide +kernel
theorem dX8_learnNow_104 : decode cX8_learnNow 104 = .ok (.iload 5, 2) := by decide +kernel
theorem dX8_learnNow_106 : decode cX8_learnNow 106 = .ok (.aload_n 0, 1) := by decide +kernel
theorem dX8_learnNow_107 : decode cX8_learnNow 107 = .ok (.getfield 264, 3) := by decide +kernel
theorem dX8_learnNow_110 : decode cX8_learnNow 110 = .ok (.iadd, 1) := by decide +kernel
theorem dX8_learnNow_111 : decode cX8_learnNow 111 = .ok (.istore 5, 2) := by decide +kernel
theorem dX8_learnNow_113 : decode cX8_learnNow 113 = .ok (.iinc 6 1, 3) := by decide +kernel
theorem dX8_learnNow_116 : decode cX8_learnNow 116 = .ok (.goto (-62), 3) := by decide +kernel
theorem dX8_learnNow_119 : decode cX8_learnNow 119 = .ok (.aload_n 0, 1) := by decide +kernel
theorem dX8_learnNow_120 : decode cX8_learnNow 120 = .ok (.bipush 33, 2) := by decide +kernel
theorem dX8_learnNow_122 : decode cX8_learnNow 122 = .ok (.iload 4, 2) := by decide +kernel
theorem dX8_learnNow_124 : decode cX8_learnNow 124 = .ok (.iadd, 1) := by decide +kernel
theorem dX8_learnNow_125 : decode cX8_learnNow 125 = .ok (.iload 5, 2) := by decide +kernel
theorem dX8_learnNow_127 : decode cX8_learnNow 127 = .ok (.iload_n 2, 1) := by decide +kernel
theorem dX8_learnNow_128 : decode cX8_learnNow 128 = .ok (.iadd, 1) := by decide +kernel
theorem dX8_learnNow_129 : decode cX8_learnNow 129 = .ok (.iconst 2, 1) := by decide +kernel
theorem dX8_learnNow_130 : decode cX8_learnNow 130 = .ok (.iload_n 2, 1) := by decide +kernel
theorem dX8_learnNow_131 : decode cX8_learnNow 131 = .ok (.imul, 1) := by decide +kernel
theorem dX8_learnNow_132 : decode cX8_learnNow 132 = .ok (.idiv, 1) := by decide +kernel
theorem dX8_learnNow_133 : decode cX8_learnNow 133 = .ok (.invokevirtual 119, 3) := by decide +kernel
theorem dX8_learnNow_136 : decode cX8_learnNow 136 = .ok (.iinc 4 1, 3) := by decide +kernel
theorem dX8_learnNow_139 : decode cX8_learnNow 139 = .ok (.goto (-97), 3) := by decide +kernel
theorem dX8_learnNow_142 : decode cX8_learnNow 142 = .ok (.return_, 1) := by decide +kernel
theorem dX8_learnOnPaper_0 : decode cX8_learnOnPaper 0 = .ok (.aload_n 0, 1) := by decide +kernel
theorem dX8_learnOnPaper_1 : decode cX8_learnOnPaper 1 = .ok (.iconst 1, 1) := by decide +kernel
theorem dX8_learnOnPaper_2 : decode cX8_learnOnPaper 2 = .ok (.putfield 258, 3) := by decide +kernel
theorem dX8_learnOnPaper_5 : decode cX8_learnOnPaper 5 = .ok (.aload_n 0, 1) := by decide +kernel
theorem dX8_learnOnPaper_6 : decode cX8_learnOnPaper 6 = .ok (.iload_n 1, 1) := by decide +kernel
theorem dX8_learnOnPaper_7 : decode cX8_learnOnPaper 7 = .ok (.iconst 1, 1) := by decide +kernel
theorem dX8_learnOnPaper_8 : decode cX8_learnOnPaper 8 = .ok (.invokevirtual 305, 3) := by decide +kernel
theorem dX8_learnOnPaper_11 : decode cX8_learnOnPaper 11 = .ok (.aload_n 0, 1) := by decide +kernel
theorem dX8_learnOnPaper_12 : decode cX8_learnOnPaper 12 = .ok (.iconst 0, 1) := by decide +kernel
theorem dX8_learnOnPaper_13 : decode cX8_learnOnPaper 13 = .ok (.putfield 258, 3) := by decide +kernel
theorem dX8_learnOnPaper_16 : decode cX8_learnOnPaper 16 = .ok (.return_, 1) := by decide +kernel
theorem dX8_learn_0 : decode cX8_learn 0 = .ok (.aload_n 0, 1) := by decide +kernel
theorem dX8_learn_1 : decode cX8_learn 1 = .ok (.iconst 0, 1) := by decide +kernel
theorem dX8_learn_2 : decode cX8_learn 2 = .ok (.invokevirtual 221, 3) := by decide +kernel
theorem dX8_learn_5 : decode cX8_learn 5 = .ok (.istore_n 3, 1) := by decide +kernel
theorem dX8_learn_6 : decode cX8_learn 6 = .ok (.iload_n 1, 1) := by decide +kernel
theorem dX8_learn_7 : decode cX8_learn 7 = .ok (.iconst 1, 1) := by decide +kernel
theorem dX8_learn_8 : decode cX8_learn 8 = .ok (.iload_n 3, 1) := by decide +kernel
theorem dX8_learn_9 : decode cX8_learn 9 = .ok (.invokestatic 129, 3) := by decide +kernel
theorem dX8_learn_12 : decode cX8_learn 12 = .ok (.ifCond .eq 13, 3) := by decide +kernel
theorem dX8_learn_15 : decode cX8_learn 15 = .ok (.iload_n 2, 1) := by decide +kernel
theorem dX8_learn_16 : decode cX8_learn 16 = .ok (.iconst 1, 1) := by decide +kernel
theorem dX8_learn_17 : decode cX8_learn 17 = .ok (.bipush 8, 2) := by decide +kernel
theorem dX8_learn_19 : decode cX8_learn 19 = .ok (.invokestatic 129, 3) := by decide +kernel
theorem dX8_learn_22 : decode cX8_learn 22 = .ok (.ifCond .ne 5, 3) := by decide +kernel
theorem dX8_learn_25 : decode cX8_learn 25 = .ok (.iconst (-1), 1) := by decide +kernel
theorem dX8_learn_26 : decode cX8_learn 26 = .ok (.ireturn, 1) := by decide +kernel
theorem dX8_learn_27 : decode cX8_learn 27 = .ok (.aload_n 0, 1) := by decide +kernel
theorem dX8_learn_28 : decode cX8_learn 28 = .ok (.iload_n 1, 1) := by decide +kernel
theorem dX8_learn_29 : decode cX8_learn 29 = .ok (.iload_n 2, 1) := by decide +kernel
theorem dX8_learn_30 : decode cX8_learn 30 = .ok (.invokevirtual 305, 3) := by decide +kernel
theorem dX8_learn_33 : decode cX8_learn 33 = .ok (.iconst 0, 1) := by decide +kernel
theorem dX8_learn_34 : decode cX8_learn 34 = .ok (.istore 4, 2) := by decide +kernel
theorem dX8_learn_36 : decode cX8_learn 36 = .ok (.iload_n 1, 1) := by decide +kernel
theorem dX8_learn_37 : decode cX8_learn 37 = .ok (.istore 5, 2) := by decide +kernel
theorem dX8_learn_39 : decode cX8_learn 39 = .ok (.iload 5, 2) := by decide +kernel
theorem dX8_learn_41 : decode cX8_learn 41 = .ok (.iload_n 3, 1) := by decide +kernel
theorem dX8_learn_42 : decode cX8_learn 42 = .ok (.if_icmp .ge 28, 3) := by decide +kernel
theorem dX8_learn_45 : decode cX8_learn 45 = .ok (.iload 4, 2) := by decide +kernel
theorem dX8_learn_47 : decode cX8_learn 47 = .ok (.aload_n 0, 1) := by decide +kernel
theorem dX8_learn_48 : decode cX8_learn 48 = .ok (.iload 5, 2) := by decide +kernel
theorem dX8_learn_50 : decode cX8_learn 50 = .ok (.invokevirtual 254, 3) := by decide +kernel
theorem dX8_learn_53 : decode cX8_learn 53 = .ok (.ifCond .eq 7, 3) := by decide +kernel
theorem dX8_learn_56 : decode cX8_learn 56 = .ok (.iconst 1, 1) := by decide +kernel
theorem dX8_learn_57 : decode cX8_learn 57 = .ok (.goto 4, 3) := by decide +kernel
theorem dX8_learn_60 : decode cX8_learn 60 = .ok (.iconst 0, 1) := by decide +kernel
theorem dX8_learn_61 : decode cX8_learn 61 = .ok (.iadd, 1) := by decide +kernel
theorem dX8_learn_62 : decode cX8_learn 62 = .ok (.istore 4, 2) := by decide +kernel
theorem dX8_learn_64 : decode cX8_learn 64 = .ok (.iinc 5 1, 3) := by decide +kernel
theorem dX8_learn_67 : decode cX8_learn 67 = .ok (.goto (-28), 3) := by decide +kernel
theorem dX8_learn_70 : decode cX8_learn 70 = .ok (.iload 4, 2) := by decide +kernel
theorem dX8_learn_72 : decode cX8_learn 72 = .ok (.ireturn, 1) := by decide +kernel
theorem dX8_forget_0 : decode cX8_forget 0 = .ok (.iconst 0, 1) := by decide +kernel
theorem dX8_forget_1 : decode cX8_forget 1 = .ok (.istore_n 1, 1) := by decide +kernel
theorem dX8_forget_2 : decode cX8_forget 2 = .ok (.iconst 0, 1) := by decide +kernel
theorem dX8_forget_3 : decode cX8_forget 3 = .ok (.istore_n 2, 1) := by decide +kernel
theorem dX8_forget_4 : decode cX8_forget 4 = .ok (.iload_n 2, 1) := by decide +kernel
theorem dX8_forget_5 : decode cX8_forget 5 = .ok (.aload_n 0, 1) := by decide +kernel
theorem dX8_forget_6 : decode cX8_forget 6 = .ok (.iconst 0, 1) := by decide +kernel
theorem dX8_forget_7 : decode cX8_forget 7 = .ok (.invokevirtual 221, 3) := by decide +kernel
theorem dX8_forget_10 : decode cX8_forget 10 = .ok (.if_icmp .ge 52, 3) := by decide +kernel
theorem dX8_forget_13 : decode cX8_forget 13 = .ok (.iload_n 1, 1) := by decide +kernel
theorem dX8_forget_14 : decode cX8_forget 14 = .ok (.aload_n 0, 1) := by decide +kernel
theorem dX8_forget_15 : decode cX8_forget 15 = .ok (.bipush 33, 2) := by decide +kernel
theorem dX8_forget_17 : decode cX8_forget 17 = .ok (.iload_n 2, 1) := by decide +kernel
theorem dX8_forget_18 : decode cX8_forget 18 = .ok (.iadd, 1) := by decide +kernel
theorem dX8_forget_19 : decode cX8_forget 19 = .ok (.invokevirtual 221, 3) := by decide +kernel
theorem dX8_forget_22 : decode cX8_forget 22 = .ok (.aload_n 0, 1) := by decide +kernel
theorem dX8_forget_23 : decode cX8_forget 23 = .ok (.bipush 9, 2) := by decide +kernel
theorem dX8_forget_25 : decode cX8_forget 25 = .ok (.iload_n 2, 1) := by decide +kernel
theorem dX8_forget_26 : decode cX8_forget 26 = .ok (.iadd, 1) := by decide +kernel
theorem dX8_forget_27 : decode cX8_forget 27 = .ok (.invokevirtual 221, 3) := by decide +kernel
theorem dX8_forget_30 : decode cX8_forget 30 = .ok (.if_icmp .eq 7, 3) := by decide +kernel
theorem dX8_forget_33 : decode cX8_forget 33 = .ok (.iconst 1, 1) := by decide +kernel
theorem dX8_forget_34 : decode cX8_forget 34 = .ok (.goto 4, 3) := by decide +kernel
theorem dX8_forget_37 : decode cX8_forget 37 = .ok (.iconst 0, 1) := by decide +kernel
theorem dX8_forget_38 : decode cX8_forget 38 = .ok (.iadd, 1) := by decide +kernel
theorem dX8_forget_39 : decode cX8_forget 39 = .ok (.istore_n 1, 1) := by decide +kernel
theorem dX8_forget_40 : decode cX8_forget 40 = .ok (.aload_n 0, 1) := by decide +kernel
theorem dX8_forget_41 : decode cX8_forget 41 = .ok (.bipush 33, 2) := by decide +kernel
theorem dX8_forget_43 : decode cX8_forget 43 = .ok (.iload_n 2, 1) := by decide +kernel
theorem dX8_forget_44 : decode cX8_forget 44 = .ok (.iadd, 1) := by decide +kernel
theorem dX8_forget_45 : decode cX8_forget 45 = .ok (.aload_n 0, 1) := by decide +kernel
theorem dX8_forget_46 : decode cX8_forget 46 = .ok (.bipush 9, 2) := by decide +kernel
theorem dX8_forget_48 : decode cX8_forget 48 = .ok (.iload_n 2, 1) := by decide +kernel
theorem dX8_forget_49 : decode cX8_forget 49 = .ok (.iadd, 1) := by decide +kernel
theorem dX8_forget_50 : decode cX8_forget 50 = .ok (.invokevirtual 221, 3) := by decide +kernel
theorem dX8_forget_53 : decode cX8_forget 53 = .ok (.invokevirtual 119, 3) := by decide +kernel
theorem dX8_forget_56 : decode cX8_forget 56 = .ok (.iinc 2 1, 3) := by decide +kernel
theorem dX8_forget_59 : decode cX8_forget 59 = .ok (.goto (-55), 3) := by decide +kernel
theorem dX8_forget_62 : decode cX8_forget 62 = .ok (.iload_n 1, 1) := by decide +kernel
theorem dX8_forget_63 : decode cX8_forget 63 = .ok (.ireturn, 1) := by decide +kernel
theorem dX8_code_0 : decode cX8_code 0 = .ok (.iload_n 1, 1) := by decide +kernel
theorem dX8_code_1 : decode cX8_code 1 = .ok (.invokestatic 280, 3) := by decide +kernel
theorem dX8_code_4 : decode cX8_code 4 = .ok (.ifCond .eq 19, 3) := by decide +kernel
theorem dX8_code_7 : decode cX8_code 7 = .ok (.aload_n 0, 1) := by decide +kernel
theorem dX8_code_8 : decode cX8_code 8 = .ok (.iconst 0, 1) := by decide +kernel
theorem dX8_code_9 : decode cX8_code 9 = .ok (.invokevirtual 221, 3) := by decide +kernel
theorem dX8_code_12 : decode cX8_code 12 = .ok (.ifCond .le 11, 3) := by decide +kernel
theorem dX8_code_15 : decode cX8_code 15 = .ok (.aload_n 0, 1) := by decide +kernel
theorem dX8_code_16 : decode cX8_code 16 = .ok (.iload_n 1, 1) := by decide +kernel
theorem dX8_code_17 : decode cX8_code 17 = .ok (.invokevirtual 308, 3) := by decide +kernel
theorem dX8_code_20 : decode cX8_code 20 = .ok (.goto 6, 3) := by decide +kernel
theorem dX8_code_23 : decode cX8_code 23 = .ok (.ldc_w 283, 3) := by decide +kernel
theorem dX8_code_26 : decode cX8_code 26 = .ok (.ireturn, 1) := by decide +kernel
theorem dX8_isForgiven_0 : decode cX8_isForgiven 0 = .ok (.aload_n 0, 1) := by decide +kernel
theorem dX8_isForgiven_1 : decode cX8_isForgiven 1 = .ok (.iload_n 1, 1) := by decide +kernel
theorem dX8_isForgiven_2 : decode cX8_isForgiven 2 = .ok (.invokevirtual 308, 3) := by decide +kernel
theorem dX8_isForgiven_5 : decode cX8_isForgiven 5 = .ok (.istore_n 3, 1) := by decide +kernel
theorem dX8_isForgiven_6 : decode cX8_isForgiven 6 = .ok (.aload_n 0, 1) := by decide +kernel
theorem dX8_isForgiven_7 : decode cX8_isForgiven 7 = .ok (.iload_n 2, 1) := by decide +kernel
theorem dX8_isForgiven_8 : decode cX8_isForgiven 8 = .ok (.putfield 80, 3) := by decide +kernel
theorem dX8_isForgiven_11 : decode cX8_isForgiven 11 = .ok (.aload_n 0, 1) := by decide +kernel
theorem dX8_isForgiven_12 : decode cX8_isForgiven 12 = .ok (.iload_n 1, 1) := by decide +kernel
theorem dX8_isForgiven_13 : decode cX8_isForgiven 13 = .ok (.invokevirtual 308, 3) := by decide +kernel
theorem dX8_isForgiven_16 : decode cX8_isForgiven 16 = .ok (.istore 4, 2) := by decide +kernel
theorem dX8_isForgiven_18 : decode cX8_isForgiven 18 = .ok (.aload_n 0, 1) := by decide +kernel
theorem dX8_isForgiven_19 : decode cX8_isForgiven 19 = .ok (.iconst (-1), 1) := by decide +kernel
theorem dX8_isForgiven_20 : decode cX8_isForgiven 20 = .ok (.putfield 80, 3) := by decide +kernel
theorem dX8_isForgiven_23 : decode cX8_isForgiven 23 = .ok (.iload_n 3, 1) := by decide +kernel
theorem dX8_isForgiven_24 : decode cX8_isForgiven 24 = .ok (.iload 4, 2) := by decide +kernel
theorem dX8_isForgiven_26 : decode cX8_isForgiven 26 = .ok (.if_icmp .ne 7, 3) := by decide +kernel
theorem dX8_isForgiven_29 : decode cX8_isForgiven 29 = .ok (.iconst 1, 1) := by decide +kernel
theorem dX8_isForgiven_30 : decode cX8_isForgiven 30 = .ok (.goto 4, 3) := by decide +kernel
theorem dX8_isForgiven_33 : decode cX8_isForgiven 33 = .ok (.iconst 0, 1) := by decide +kernel
theorem dX8_isForgiven_34 : decode cX8_isForgiven 34 = .ok (.ireturn, 1) := by decide +kernel
theorem dX8_forgiven_0 : decode cX8_forgiven 0 = .ok (.iload_n 1, 1) := by decide +kernel
theorem dX8_forgiven_1 : decode cX8_forgiven 1 = .ok (.invokestatic 280, 3) := by decide +kernel
theorem dX8_forgiven_4 : decode cX8_forgiven 4 = .ok (.ifCond .eq 28, 3) := by decide +kernel
theorem dX8_forgiven_7 : decode cX8_forgiven 7 = .ok (.aload_n 0, 1) := by decide +kernel
theorem dX8_forgiven_8 : decode cX8_forgiven 8 = .ok (.iload_n 2, 1) := by decide +kernel
theorem dX8_forgiven_9 : decode cX8_forgiven 9 = .ok (.invokevirtual 251, 3) := by decide +kernel
theorem dX8_forgiven_12 : decode cX8_forgiven 12 = .ok (.ifCond .eq 20, 3) := by decide +kernel
theorem dX8_forgiven_15 : decode cX8_forgiven 15 = .ok (.aload_n 0, 1) := by decide +kernel
theorem dX8_forgiven_16 : decode cX8_forgiven 16 = .ok (.iload_n 1, 1) := by decide +kernel
theorem dX8_forgiven_17 : decode cX8_forgiven 17 = .ok (.iload_n 2, 1) := by decide +kernel
theorem dX8_forgiven_18 : decode cX8_forgiven 18 = .ok (.invokevirtual 311, 3) := by decide +kernel
theorem dX8_forgiven_21 : decode cX8_forgiven 21 = .ok (.ifCond .eq 7, 3) := by decide +kernel
theorem dX8_forgiven_24 : decode cX8_forgiven 24 = .ok (.iconst 1, 1) := by decide +kernel
theorem dX8_forgiven_25 : decode cX8_forgiven 25 = .ok (.goto 8, 3) := by decide +kernel
theorem dX8_forgiven_28 : decode cX8_forgiven 28 = .ok (.iconst 0, 1) := by decide +kernel
theorem dX8_forgiven_29 : decode cX8_forgiven 29 = .ok (.goto 4, 3) := by decide +kernel
theorem dX8_forgiven_32 : decode cX8_forgiven 32 = .ok (.iconst (-1), 1) := by decide +kernel
theorem dX8_forgiven_33 : decode cX8_forgiven 33 = .ok (.ireturn, 1) := by decide +kernel
theorem dX8_slackOf_0 : decode cX8_slackOf 0 = .ok (.aload_n 0, 1) := by decide +kernel
theorem dX8_slackOf_1 : decode cX8_slackOf 1 = .ok (.iload_n 1, 1) := by decide +kernel
theorem dX8_slackOf_2 : decode cX8_slackOf 2 = .ok (.invokevirtual 224, 3) := by decide +kernel
theorem dX8_slackOf_5 : decode cX8_slackOf 5 = .ok (.aload_n 0, 1) := by decide +kernel
theorem dX8_slackOf_6 : decode cX8_slackOf 6 = .ok (.iconst 1, 1) := by decide +kernel
theorem dX8_slackOf_7 : decode cX8_slackOf 7 = .ok (.invokevirtual 221, 3) := by decide +kernel
theorem dX8_slackOf_10 : decode cX8_slackOf 10 = .ok (.isub, 1) := by decide +kernel
theorem dX8_slackOf_11 : decode cX8_slackOf 11 = .ok (.istore_n 2, 1) := by decide +kernel
theorem dX8_slackOf_12 : decode cX8_slackOf 12 = .ok (.iconst 0, 1) := by decide +kernel
theorem dX8_slackOf_13 : decode cX8_slackOf 13 = .ok (.istore_n 3, 1) := by decide +kernel
theorem dX8_slackOf_14 : decode cX8_slackOf 14 = .ok (.iload_n 3, 1) := by decide +kernel
theorem dX8_slackOf_15 : decode cX8_slackOf 15 = .ok (.sipush 2000, 3) := by decide +kernel
theorem dX8_slackOf_18 : decode cX8_slackOf 18 = .ok (.if_icmp .gt 31, 3) := by decide +kernel
theorem dX8_slackOf_21 : decode cX8_slackOf 21 = .ok (.aload_n 0, 1) := by decide +kernel
theorem dX8_slackOf_22 : decode cX8_slackOf 22 = .ok (.iload_n 2, 1) := by decide +kernel
theorem dX8_slackOf_23 : decode cX8_slackOf 23 = .ok (.iload_n 3, 1) := by decide +kernel
theorem dX8_slackOf_24 : decode cX8_slackOf 24 = .ok (.isub, 1) := by decide +kernel
theorem dX8_slackOf_25 : decode cX8_slackOf 25 = .ok (.iload_n 1, 1) := by decide +kernel
theorem dX8_slackOf_26 : decode cX8_slackOf 26 = .ok (.invokevirtual 311, 3) := by decide +kernel
theorem dX8_slackOf_29 : decode cX8_slackOf 29 = .ok (.ifCond .eq 20, 3) := by decide +kernel
theorem dX8_slackOf_32 : decode cX8_slackOf 32 = .ok (.aload_n 0, 1) := by decide +kernel
theorem dX8_slackOf_33 : decode cX8_slackOf 33 = .ok (.iload_n 2, 1) := by decide +kernel
theorem dX8_slackOf_34 : decode cX8_slackOf 34 = .ok (.iload_n 3, 1) := by decide +kernel
theorem dX8_slackOf_35 : decode cX8_slackOf 35 = .ok (.iadd, 1) := by decide +kernel
theorem dX8_slackOf_36 : decode cX8_slackOf 36 = .ok (.iload_n 1, 1) := by decide +kernel
theorem dX8_slackOf_37 : decode cX8_slackOf 37 = .ok (.invokevirtual 311, 3) := by decide +kernel
theorem dX8_slackOf_40 : decode cX8_slackOf 40 = .ok (.ifCond .eq 9, 3) := by decide +kernel
theorem dX8_slackOf_43 : decode cX8_slackOf 43 = .ok (.iinc 3 1, 3) := by decide +kernel
theorem dX8_slackOf_46 : decode cX8_slackOf 46 = .ok (.goto (-32), 3) := by decide +kernel
theorem dX8_slackOf_49 : decode cX8_slackOf 49 = .ok (.iload_n 3, 1) := by decide +kernel
theorem dX8_slackOf_50 : decode cX8_slackOf 50 = .ok (.iconst 1, 1) := by decide +kernel
theorem dX8_slackOf_51 : decode cX8_slackOf 51 = .ok (.isub, 1) := by decide +kernel
theorem dX8_slackOf_52 : decode cX8_slackOf 52 = .ok (.ireturn, 1) := by decide +kernel
theorem dX8_slack_0 : decode cX8_slack 0 = .ok (.aload_n 0, 1) := by decide +kernel
theorem dX8_slack_1 : decode cX8_slack 1 = .ok (.iload_n 1, 1) := by decide +kernel
theorem dX8_slack_2 : decode cX8_slack 2 = .ok (.invokevirtual 251, 3) := by decide +kernel
theorem dX8_slack_5 : decode cX8_slack 5 = .ok (.ifCond .eq 11, 3) := by decide +kernel
theorem dX8_slack_8 : decode cX8_slack 8 = .ok (.aload_n 0, 1) := by decide +kernel
theorem dX8_slack_9 : decode cX8_slack 9 = .ok (.iload_n 1, 1) := by decide +kernel
theorem dX8_slack_10 : decode cX8_slack 10 = .ok (.invokevirtual 314, 3) := by decide +kernel
theorem dX8_slack_13 : decode cX8_slack 13 = .ok (.goto 5, 3) := by decide +kernel
theorem dX8_slack_16 : decode cX8_slack 16 = .ok (.bipush (-2), 2) := by decide +kernel
theorem dX8_slack_18 : decode cX8_slack 18 = .ok (.ireturn, 1) := by decide +kernel
theorem dX8_gap_0 : decode cX8_gap 0 = .ok (.aload_n 0, 1) := by decide +kernel
theorem dX8_gap_1 : decode cX8_gap 1 = .ok (.iconst 0, 1) := by decide +kernel
theorem dX8_gap_2 : decode cX8_gap 2 = .ok (.invokevirtual 221, 3) := by decide +kernel
theorem dX8_gap_5 : decode cX8_gap 5 = .ok (.istore_n 2, 1) := by decide +kernel
theorem dX8_gap_6 : decode cX8_gap 6 = .ok (.iload_n 2, 1) := by decide +kernel
theorem dX8_gap_7 : decode cX8_gap 7 = .ok (.ifCond .eq 12, 3) := by decide +kernel
theorem dX8_gap_10 : decode cX8_gap 10 = .ok (.iload_n 1, 1) := by decide +kernel
theorem dX8_gap_11 : decode cX8_gap 11 = .ok (.iconst 0, 1) := by decide +kernel
theorem dX8_gap_12 : decode cX8_gap 12 = .ok (.iconst 1, 1) := by decide +kernel
theorem dX8_gap_13 : decode cX8_gap 13 = .ok (.invokestatic 129, 3) := by decide +kernel
theorem dX8_gap_16 : decode cX8_gap 16 = .ok (.ifCond .ne 6, 3) := by decide +kernel
theorem dX8_gap_19 : decode cX8_gap 19 = .ok (.bipush (-2), 2) := by decide +kernel
theorem dX8_gap_21 : decode cX8_gap 21 = .ok (.ireturn, 1) := by decide +kernel
theorem dX8_gap_22 : decode cX8_gap 22 = .ok (.iconst 0, 1) := by decide +kernel
theorem dX8_gap_23 : decode cX8_gap 23 = .ok (.istore_n 3, 1) := by decide +kernel
theorem dX8_gap_24 : decode cX8_gap 24 = .ok (.iconst (-1), 1) := by decide +kernel
theorem dX8_gap_25 : decode cX8_gap 25 = .ok (.istore 4, 2) := by decide +kernel
theorem dX8_gap_27 : decode cX8_gap 27 = .ok (.iconst 0, 1) := by decide +kernel
theorem dX8_gap_28 : decode cX8_gap 28 = .ok (.istore 5, 2) := by decide +kernel
theorem dX8_gap_30 : decode cX8_gap 30 = .ok (.iload 5, 2) := by decide +kernel
theorem dX8_gap_32 : decode cX8_gap 32 = .ok (.iload_n 2, 1) := by decide +kernel
theorem dX8_gap_33 : decode cX8_gap 33 = .ok (.if_icmp .ge 42, 3) := by decide +kernel
theorem dX8_gap_36 : decode cX8_gap 36 = .ok (.aload_n 0, 1) := by decide +kernel
theorem dX8_gap_37 : decode cX8_gap 37 = .ok (.iload 5, 2) := by decide +kernel
theorem dX8_gap_39 : decode cX8_gap 39 = .ok (.invokevirtual 224, 3) := by decide +kernel
theorem dX8_gap_42 : decode cX8_gap 42 = .ok (.aload_n 0, 1) := by decide +kernel
theorem dX8_gap_43 : decode cX8_gap 43 = .ok (.iload 5, 2) := by decide +kernel
theorem dX8_gap_45 : decode cX8_gap 45 = .ok (.invokevirtual 247, 3) := by decide +kernel
theorem dX8_gap_48 : decode cX8_gap 48 = .ok (.isub, 1) := by decide +kernel
theorem dX8_gap_49 : decode cX8_gap 49 = .ok (.iconst 1, 1) := by decide +kernel
theorem dX8_gap_50 : decode cX8_gap 50 = .ok (.isub, 1) := by decide +kernel
theorem dX8_gap_51 : decode cX8_gap 51 = .ok (.istore 6, 2) := by decide +kernel
theorem dX8_gap_53 : decode cX8_gap 53 = .ok (.iload 6, 2) := by decide +kernel
theorem dX8_gap_55 : decode cX8_gap 55 = .ok (.iload_n 3, 1) := by decide +kernel
theorem dX8_gap_56 : decode cX8_gap 56 = .ok (.if_icmp .gt 6, 3) := by decide +kernel
theorem dX8_gap_59 : decode cX8_gap 59 = .ok (.goto 10, 3) := by decide +kernel
theorem dX8_gap_62 : decode cX8_gap 62 = .ok (.iload 6, 2) := by decide +kernel
theorem dX8_gap_64 : decode cX8_gap 64 = .ok (.istore_n 3, 1) := by decide +kernel
theorem dX8_gap_65 : decode cX8_gap 65 = .ok (.iload 5, 2) := by decide +kernel
theorem dX8_gap_67 : decode cX8_gap 67 = .ok (.istore 4, 2) := by decide +kernel
theorem dX8_gap_69 : decode cX8_gap 69 = .ok (.iinc 5 1, 3) := by decide +kernel
theorem dX8_gap_72 : decode cX8_gap 72 = .ok (.goto (-42), 3) := by decide +kernel
theorem dX8_gap_75 : decode cX8_gap 75 = .ok (.iload_n 1, 1) := by decide +kernel
theorem dX8_gap_76 : decode cX8_gap 76 = .ok (.ifCond .ne 7, 3) := by decide +kernel
theorem dX8_gap_79 : decode cX8_gap 79 = .ok (.iload_n 3, 1) := by decide +kernel
theorem dX8_gap_80 : decode cX8_gap 80 = .ok (.goto 5, 3) := by decide +kernel
theorem dX8_gap_83 : decode cX8_gap 83 = .ok (.iload 4, 2) := by decide +kernel
theorem dX8_gap_85 : decode cX8_gap 85 = .ok (.ireturn, 1) := by decide +kernel
theorem dX8_tightest_0 : decode cX8_tightest 0 = .ok (.aload_n 0, 1) := by decide +kernel
theorem dX8_tightest_1 : decode cX8_tightest 1 = .ok (.iconst 0, 1) := by decide +kernel
theorem dX8_tightest_2 : decode cX8_tightest 2 = .ok (.invokevirtual 221, 3) := by decide +kernel
theorem dX8_tightest_5 : decode cX8_tightest 5 = .ok (.istore_n 2, 1) := by decide +kernel
theorem dX8_tightest_6 : decode cX8_tightest 6 = .ok (.iload_n 2, 1) := by decide +kernel
theorem dX8_tightest_7 : decode cX8_tightest 7 = .ok (.ifCond .eq 12, 3) := by decide +kernel
theorem dX8_tightest_10 : decode cX8_tightest 10 = .ok (.iload_n 1, 1) := by decide +kernel
theorem dX8_tightest_11 : decode cX8_tightest 11 = .ok (.iconst 0, 1) := by decide +kernel
theorem dX8_tightest_12 : decode cX8_tightest 12 = .ok (.iconst 1, 1) := by decide +kernel
theorem dX8_tightest_13 : decode cX8_tightest 13 = .ok (.invokestatic 129, 3) := by decide +kernel
theorem dX8_tightest_16 : decode cX8_tightest 16 = .ok (.ifCond .ne 6, 3) := by decide +kernel
theorem dX8_tightest_19 : decode cX8_tightest 19 = .ok (.bipush (-2), 2) := by decide +kernel
theorem dX8_tightest_21 : decode cX8_tightest 21 = .ok (.ireturn, 1) := by decide +kernel
theorem dX8_tightest_22 : decode cX8_tightest 22 = .ok (.iconst (-1), 1) := by decide +kernel
theorem dX8_tightest_23 : decode cX8_tightest 23 = .ok (.istore_n 3, 1) := by decide +kernel
theorem dX8_tightest_24 : decode cX8_tightest 24 = .ok (.iconst 0, 1) := by decide +kernel
theorem dX8_tightest_25 : decode cX8_tightest 25 = .ok (.istore 4, 2) := by decide +kernel
theorem dX8_tightest_27 : decode cX8_tightest 27 = .ok (.iconst 1, 1) := by decide +kernel
theorem dX8_tightest_28 : decode cX8_tightest 28 = .ok (.istore 5, 2) := by decide +kernel
theorem dX8_tightest_30 : decode cX8_tightest 30 = .ok (.iload 5, 2) := by decide +kernel
theorem dX8_tightest_32 : decode cX8_tightest 32 = .ok (.iload_n 2, 1) := by decide +kernel
theorem dX8_tightest_33 : decode cX8_tightest 33 = .ok (.if_icmp .ge 39, 3) := by decide +kernel
theorem dX8_tightest_36 : decode cX8_tightest 36 = .ok (.aload_n 0, 1) := by decide +kernel
theorem dX8_tightest_37 : decode cX8_tightest 37 = .ok (.iload 5, 2) := by decide +kernel
theorem dX8_tightest_39 : decode cX8_tightest 39 = .ok (.invokevirtual 314, 3) := by decide +kernel
theorem dX8_tightest_42 : decode cX8_tightest 42 = .ok (.istore 6, 2) := by decide +kernel
theorem dX8_tightest_44 : decode cX8_tightest 44 = .ok (.iload_n 3, 1) := by decide +kernel
theorem dX8_tightest_45 : decode cX8_tightest 45 = .ok (.iconst (-1), 1) := by decide +kernel
theorem dX8_tightest_46 : decode cX8_tightest 46 = .ok (.if_icmp .eq 13, 3) := by decide +kernel
theorem dX8_tightest_49 : decode cX8_tightest 49 = .ok (.iload 6, 2) := by decide +kernel
theorem dX8_tightest_51 : decode cX8_tightest 51 = .ok (.iload 4, 2) := by decide +kernel
theorem dX8_tightest_53 : decode cX8_tightest 53 = .ok (.if_icmp .lt 6, 3) := by decide +kernel
theorem dX8_tightest_56 : decode cX8_tightest 56 = .ok (.goto 10, 3) := by decide +kernel
theorem dX8_tightest_59 : decode cX8_tightest 59 = .ok (.iload 5, 2) := by decide +kernel
theorem dX8_tightest_61 : decode cX8_tightest 61 = .ok (.istore_n 3, 1) := by decide +kernel
theorem dX8_tightest_62 : decode cX8_tightest 62 = .ok (.iload 6, 2) := by decide +kernel
theorem dX8_tightest_64 : decode cX8_tightest 64 = .ok (.istore 4, 2) := by decide +kernel
theorem dX8_tightest_66 : decode cX8_tightest 66 = .ok (.iinc 5 1, 3) := by decide +kernel
theorem dX8_tightest_69 : decode cX8_tightest 69 = .ok (.goto (-39), 3) := by decide +kernel
theorem dX8_tightest_72 : decode cX8_tightest 72 = .ok (.iload_n 1, 1) := by decide +kernel
theorem dX8_tightest_73 : decode cX8_tightest 73 = .ok (.ifCond .ne 7, 3) := by decide +kernel
theorem dX8_tightest_76 : decode cX8_tightest 76 = .ok (.iload_n 3, 1) := by decide +kernel
theorem dX8_tightest_77 : decode cX8_tightest 77 = .ok (.goto 5, 3) := by decide +kernel
theorem dX8_tightest_80 : decode cX8_tightest 80 = .ok (.iload 4, 2) := by decide +kernel
theorem dX8_tightest_82 : decode cX8_tightest 82 = .ok (.ireturn, 1) := by decide +kernel
theorem dX8_isRow_0 : decode cX8_isRow 0 = .ok (.iload_n 0, 1) := by decide +kernel
theorem dX8_isRow_1 : decode cX8_isRow 1 = .ok (.ldc 250, 2) := by decide +kernel
theorem dX8_isRow_3 : decode cX8_isRow 3 = .ok (.if_icmp .lt 35, 3) := by decide +kernel
theorem dX8_isRow_6 : decode cX8_isRow 6 = .ok (.iload_n 1, 1) := by decide +kernel
theorem dX8_isRow_7 : decode cX8_isRow 7 = .ok (.ldc_w 279, 3) := by decide +kernel
theorem dX8_isRow_10 : decode cX8_isRow 10 = .ok (.if_icmp .gt 28, 3) := by decide +kernel
theorem dX8_isRow_13 : decode cX8_isRow 13 = .ok (.iload_n 1, 1) := by decide +kernel
theorem dX8_isRow_14 : decode cX8_isRow 14 = .ok (.iload_n 0, 1) := by decide +kernel
theorem dX8_isRow_15 : decode cX8_isRow 15 = .ok (.if_icmp .lt 23, 3) := by decide +kernel
theorem dX8_isRow_18 : decode cX8_isRow 18 = .ok (.iload_n 2, 1) := by decide +kernel
theorem dX8_isRow_19 : decode cX8_isRow 19 = .ok (.iconst 1, 1) := by decide +kernel
theorem dX8_isRow_20 : decode cX8_isRow 20 = .ok (.if_icmp .lt 18, 3) := by decide +kernel
theorem dX8_isRow_23 : decode cX8_isRow 23 = .ok (.iload_n 1, 1) := by decide +kernel
theorem dX8_isRow_24 : decode cX8_isRow 24 = .ok (.iload_n 0, 1) := by decide +kernel
theorem dX8_isRow_25 : decode cX8_isRow 25 = .ok (.isub, 1) := by decide +kernel
theorem dX8_isRow_26 : decode cX8_isRow 26 = .ok (.iload_n 2, 1) := by decide +kernel
theorem dX8_isRow_27 : decode cX8_isRow 27 = .ok (.idiv, 1) := by decide +kernel
theorem dX8_isRow_28 : decode cX8_isRow 28 = .ok (.sipush 2000, 3) := by decide +kernel
theorem dX8_isRow_31 : decode cX8_isRow 31 = .ok (.if_icmp .ge 7, 3) := by decide +kernel
theorem dX8_isRow_34 : decode cX8_isRow 34 = .ok (.iconst 1, 1) := by decide +kernel
theorem dX8_isRow_35 : decode cX8_isRow 35 = .ok (.goto 4, 3) := by decide +kernel
theorem dX8_isRow_38 : decode cX8_isRow 38 = .ok (.iconst 0, 1) := by decide +kernel
theorem dX8_isRow_39 : decode cX8_isRow 39 = .ok (.ireturn, 1) := by decide +kernel
theorem dX8_layCodes_0 : decode cX8_layCodes 0 = .ok (.aload_n 0, 1) := by decide +kernel
theorem dX8_layCodes_1 : decode cX8_layCodes 1 = .ok (.iload_n 2, 1) := by decide +kernel
theorem dX8_layCodes_2 : decode cX8_layCodes 2 = .ok (.iload_n 1, 1) := by decide +kernel
theorem dX8_layCodes_3 : decode cX8_layCodes 3 = .ok (.isub, 1) := by decide +kernel
theorem dX8_layCodes_4 : decode cX8_layCodes 4 = .ok (.iload_n 3, 1) := by decide +kernel
theorem dX8_layCodes_5 : decode cX8_layCodes 5 = .ok (.idiv, 1) := by decide +kernel
theorem dX8_layCodes_6 : decode cX8_layCodes 6 = .ok (.iconst 1, 1) := by decide +kernel
theorem dX8_layCodes_7 : decode cX8_layCodes 7 = .ok (.iadd, 1) := by decide +kernel
theorem dX8_layCodes_8 : decode cX8_layCodes 8 = .ok (.putfield 317, 3) := by decide +kernel
theorem dX8_layCodes_11 : decode cX8_layCodes 11 = .ok (.iconst 0, 1) := by decide +kernel
theorem dX8_layCodes_12 : decode cX8_layCodes 12 = .ok (.istore 4, 2) := by decide +kernel
theorem dX8_layCodes_14 : decode cX8_layCodes 14 = .ok (.iload 4, 2) := by decide +kernel
theorem dX8_layCodes_16 : decode cX8_layCodes 16 = .ok (.aload_n 0, 1) := by decide +kernel
theorem dX8_layCodes_17 : decode cX8_layCodes 17 = .ok (.getfield 317, 3) := by decide +kernel
theorem dX8_layCodes_20 : decode cX8_layCodes 20 = .ok (.if_icmp .ge 40, 3) := by decide +kernel
theorem dX8_layCodes_23 : decode cX8_layCodes 23 = .ok (.aload_n 0, 1) := by decide +kernel
theorem dX8_layCodes_24 : decode cX8_layCodes 24 = .ok (.getfield 89, 3) := by decide +kernel
theorem dX8_layCodes_27 : decode cX8_layCodes 27 = .ok (.iload 4, 2) := by decide +kernel
theorem dX8_layCodes_29 : decode cX8_layCodes 29 = .ok (.aload_n 0, 1) := by decide +kernel
theorem dX8_layCodes_30 : decode cX8_layCodes 30 = .ok (.iload_n 1, 1) := by decide +kernel
theorem dX8_layCodes_31 : decode cX8_layCodes 31 = .ok (.iload_n 3, 1) := by decide +kernel
theorem dX8_layCodes_32 : decode cX8_layCodes 32 = .ok (.iload 4, 2) := by decide +kernel
theorem dX8_layCodes_34 : decode cX8_layCodes 34 = .ok (.imul, 1) := by decide +kernel
theorem dX8_layCodes_35 : decode cX8_layCodes 35 = .ok (.iadd, 1) := by decide +kernel
theorem dX8_layCodes_36 : decode cX8_layCodes 36 = .ok (.invokevirtual 308, 3) := by decide +kernel
theorem dX8_layCodes_39 : decode cX8_layCodes 39 = .ok (.iastore, 1) := by decide +kernel
theorem dX8_layCodes_40 : decode cX8_layCodes 40 = .ok (.aload_n 0, 1) := by decide +kernel
theorem dX8_layCodes_41 : decode cX8_layCodes 41 = .ok (.getfield 92, 3) := by decide +kernel
theorem dX8_layCodes_44 : decode cX8_layCodes 44 = .ok (.iload 4, 2) := by decide +kernel
theorem dX8_layCodes_46 : decode cX8_layCodes 46 = .ok (.aload_n 0, 1) := by decide +kernel
theorem dX8_layCodes_47 : decode cX8_layCodes 47 = .ok (.getfield 89, 3) := by decide +kernel
theorem dX8_layCodes_50 : decode cX8_layCodes 50 = .ok (.iload 4, 2) := by decide +kernel
theorem dX8_layCodes_52 : decode cX8_layCodes 52 = .ok (.iaload, 1) := by decide +kernel
theorem dX8_layCodes_53 : decode cX8_layCodes 53 = .ok (.iastore, 1) := by decide +kernel
theorem dX8_layCodes_54 : decode cX8_layCodes 54 = .ok (.iinc 4 1, 3) := by decide +kernel
theorem dX8_layCodes_57 : decode cX8_layCodes 57 = .ok (.goto (-43), 3) := by decide +kernel
theorem dX8_layCodes_60 : decode cX8_layCodes 60 = .ok (.sipush 1093, 3) := by decide +kernel
theorem dX8_layCodes_63 : decode cX8_layCodes 63 = .ok (.istore 4, 2) := by decide +kernel
theorem dX8_layCodes_65 : decode cX8_layCodes 65 = .ok (.iload 4, 2) := by decide +kernel
theorem dX8_layCodes_67 : decode cX8_layCodes 67 = .ok (.ifCond .le 18, 3) := by decide +kernel
theorem dX8_layCodes_70 : decode cX8_layCodes 70 = .ok (.aload_n 0, 1) := by decide +kernel
theorem dX8_layCodes_71 : decode cX8_layCodes 71 = .ok (.iload 4, 2) := by decide +kernel
theorem dX8_layCodes_73 : decode cX8_layCodes 73 = .ok (.invokevirtual 320, 3) := by decide +kernel
theorem dX8_layCodes_76 : decode cX8_layCodes 76 = .ok (.iload 4, 2) := by decide +kernel
theorem dX8_layCodes_78 : decode cX8_layCodes 78 = .ok (.iconst 3, 1) := by decide +kernel
theorem dX8_layCodes_79 : decode cX8_layCodes 79 = .ok (.idiv, 1) := by decide +kernel
theorem dX8_layCodes_80 : decode cX8_layCodes 80 = .ok (.istore 4, 2) := by decide +kernel
theorem dX8_layCodes_82 : decode cX8_layCodes 82 = .ok (.goto (-17), 3) := by decide +kernel
theorem dX8_layCodes_85 : decode cX8_layCodes 85 = .ok (.return_, 1) := by decide +kernel
theorem dX8_sortBy_0 : decode cX8_sortBy 0 = .ok (.iload_n 1, 1) := by decide +kernel
theorem dX8_sortBy_1 : decode cX8_sortBy 1 = .ok (.istore_n 2, 1) := by decide +kernel
theorem dX8_sortBy_2 : decode cX8_sortBy 2 = .ok (.iload_n 2, 1) := by decide +kernel
theorem dX8_sortBy_3 : decode cX8_sortBy 3 = .ok (.aload_n 0, 1) := by decide +kernel
theorem dX8_sortBy_4 : decode cX8_sortBy 4 = .ok (.getfield 317, 3) := by decide +kernel
theorem dX8_sortBy_7 : decode cX8_sortBy 7 = .ok (.if_icmp .ge 71, 3) := by decide +kernel
theorem dX8_sortBy_10 : decode cX8_sortBy 10 = .ok (.aload_n 0, 1) := by decide +kernel
theorem dX8_sortBy_11 : decode cX8_sortBy 11 = .ok (.getfield 92, 3) := by decide +kernel
theorem dX8_sortBy_14 : decode cX8_sortBy 14 = .ok (.iload_n 2, 1) := by decide +kernel
theorem dX8_sortBy_15 : decode cX8_sortBy 15 = .ok (.iaload, 1) := by decide +kernel
theorem dX8_sortBy_16 : decode cX8_sortBy 16 = .ok (.istore_n 3, 1) := by decide +kernel
theorem dX8_sortBy_17 : decode cX8_sortBy 17 = .ok (.iload_n 2, 1) := by decide +kernel
theorem dX8_sortBy_18 : decode cX8_sortBy 18 = .ok (.istore 4, 2) := by decide +kernel
theorem dX8_sortBy_20 : decode cX8_sortBy 20 = .ok (.iload 4, 2) := by decide +kernel
theorem dX8_sortBy_22 : decode cX8_sortBy 22 = .ok (.iload_n 1, 1) := by decide +kernel
theorem dX8_sortBy_23 : decode cX8_sortBy 23 = .ok (.if_icmp .lt 41, 3) := by decide +kernel
theorem dX8_sortBy_26 : decode cX8_sortBy 26 = .ok (.aload_n 0, 1) := by decide +kernel
theorem dX8_sortBy_27 : decode cX8_sortBy 27 = .ok (.getfield 92, 3) := by decide +kernel
theorem dX8_sortBy_30 : decode cX8_sortBy 30 = .ok (.iload 4, 2) := by decide +kernel
theorem dX8_sortBy_32 : decode cX8_sortBy 32 = .ok (.iload_n 1, 1) := by decide +kernel
theorem dX8_sortBy_33 : decode cX8_sortBy 33 = .ok (.isub, 1) := by decide +kernel
theorem dX8_sortBy_34 : decode cX8_sortBy 34 = .ok (.iaload, 1) := by decide +kernel
theorem dX8_sortBy_35 : decode cX8_sortBy 35 = .ok (.iload_n 3, 1) := by decide +kernel
theorem dX8_sortBy_36 : decode cX8_sortBy 36 = .ok (.if_icmp .le 28, 3) := by decide +kernel
theorem dX8_sortBy_39 : decode cX8_sortBy 39 = .ok (.aload_n 0, 1) := by decide +kernel
theorem dX8_sortBy_40 : decode cX8_sortBy 40 = .ok (.getfield 92, 3) := by decide +kernel
theorem dX8_sortBy_43 : decode cX8_sortBy 43 = .ok (.iload 4, 2) := by decide +kernel
theorem dX8_sortBy_45 : decode cX8_sortBy 45 = .ok (.aload_n 0, 1) := by decide +kernel
theorem dX8_sortBy_46 : decode cX8_sortBy 46 = .ok (.getfield 92, 3) := by decide +kernel
theorem dX8_sortBy_49 : decode cX8_sortBy 49 = .ok (.iload 4, 2) := by decide +kernel
theorem dX8_sortBy_51 : decode cX8_sortBy 51 = .ok (.iload_n 1, 1) := by decide +kernel
theorem dX8_sortBy_52 : decode cX8_sortBy 52 = .ok (.isub, 1) := by decide +kernel
theorem dX8_sortBy_53 : decode cX8_sortBy 53 = .ok (.iaload, 1) := by decide +kernel
theorem dX8_sortBy_54 : decode cX8_sortBy 54 = .ok (.iastore, 1) := by decide +kernel
theorem dX8_sortBy_55 : decode cX8_sortBy 55 = .ok (.iload 4, 2) := by decide +kernel
theorem dX8_sortBy_57 : decode cX8_sortBy 57 = .ok (.iload_n 1, 1) := by decide +kernel
theorem dX8_sortBy_58 : decode cX8_sortBy 58 = .ok (.isub, 1) := by decide +kernel
theorem dX8_sortBy_59 : decode cX8_sortBy 59 = .ok (.istore 4, 2) := by decide +kernel
theorem dX8_sortBy_61 : decode cX8_sortBy 61 = .ok (.goto (-41), 3) := by decide +kernel
theorem dX8_sortBy_64 : decode cX8_sortBy 64 = .ok (.aload_n 0, 1) := by decide +kernel
theorem dX8_sortBy_65 : decode cX8_sortBy 65 = .ok (.getfield 92, 3) := by decide +kernel
theorem dX8_sortBy_68 : decode cX8_sortBy 68 = .ok (.iload 4, 2) := by decide +kernel
theorem dX8_sortBy_70 : decode cX8_sortBy 70 = .ok (.iload_n 3, 1) := by decide +kernel
theorem dX8_sortBy_71 : decode cX8_sortBy 71 = .ok (.iastore, 1) := by decide +kernel
theorem dX8_sortBy_72 : decode cX8_sortBy 72 = .ok (.iinc 2 1, 3) := by decide +kernel
theorem dX8_sortBy_75 : decode cX8_sortBy 75 = .ok (.goto (-73), 3) := by decide +kernel
theorem dX8_sortBy_78 : decode cX8_sortBy 78 = .ok (.return_, 1) := by decide +kernel
theorem dX8_unlikeCodes_0 : decode cX8_unlikeCodes 0 = .ok (.iconst 1, 1) := by decide +kernel
theorem dX8_unlikeCodes_1 : decode cX8_unlikeCodes 1 = .ok (.istore_n 1, 1) := by decide +kernel
theorem dX8_unlikeCodes_2 : decode cX8_unlikeCodes 2 = .ok (.iconst 1, 1) := by decide +kernel
theorem dX8_unlikeCodes_3 : decode cX8_unlikeCodes 3 = .ok (.istore_n 2, 1) := by decide +kernel
theorem dX8_unlikeCodes_4 : decode cX8_unlikeCodes 4 = .ok (.iload_n 2, 1) := by decide +kernel
theorem dX8_unlikeCodes_5 : decode cX8_unlikeCodes 5 = .ok (.aload_n 0, 1) := by decide +kernel
theorem dX8_unlikeCodes_6 : decode cX8_unlikeCodes 6 = .ok (.getfield 317, 3) := by decide +kernel
theorem dX8_unlikeCodes_9 : decode cX8_unlikeCodes 9 = .ok (.if_icmp .ge 34, 3) := by decide +kernel
theorem dX8_unlikeCodes_12 : decode cX8_unlikeCodes 12 = .ok (.iload_n 1, 1) := by decide +kernel
theorem dX8_unlikeCodes_13 : decode cX8_unlikeCodes 13 = .ok (.aload_n 0, 1) := by decide +kernel
theorem dX8_unlikeCodes_14 : decode cX8_unlikeCodes 14 = .ok (.getfield 92, 3) := by decide +kernel
theorem dX8_unlikeCodes_17 : decode cX8_unlikeCodes 17 = .ok (.iload_n 2, 1) := by decide +kernel
theorem dX8_unlikeCodes_18 : decode cX8_unlikeCodes 18 = .ok (.iaload, 1) := by decide +kernel
theorem dX8_unlikeCodes_19 : decode cX8_unlikeCodes 19 = .ok (.aload_n 0, 1) := by decide +kernel
theorem dX8_unlikeCodes_20 : decode cX8_unlikeCodes 20 = .ok (.getfield 92, 3) := by decide +kernel
theorem dX8_unlikeCodes_23 : decode cX8_unlikeCodes 23 = .ok (.iload_n 2, 1) := by decide +kernel
theorem dX8_unlikeCodes_24 : decode cX8_unlikeCodes 24 = .ok (.iconst 1, 1) := by decide +kernel
theorem dX8_unlikeCodes_25 : decode cX8_unlikeCodes 25 = .ok (.isub, 1) := by decide +kernel
theorem dX8_unlikeCodes_26 : decode cX8_unlikeCodes 26 = .ok (.iaload, 1) := by decide +kernel
theorem dX8_unlikeCodes_27 : decode cX8_unlikeCodes 27 = .ok (.if_icmp .eq 7, 3) := by decide +kernel
theorem dX8_unlikeCodes_30 : decode cX8_unlikeCodes 30 = .ok (.iconst 1, 1) := by decide +kernel
theorem dX8_unlikeCodes_31 : decode cX8_unlikeCodes 31 = .ok (.goto 4, 3) := by decide +kernel
theorem dX8_unlikeCodes_34 : decode cX8_unlikeCodes 34 = .ok (.iconst 0, 1) := by decide +kernel
theorem dX8_unlikeCodes_35 : decode cX8_unlikeCodes 35 = .ok (.iadd, 1) := by decide +kernel
theorem dX8_unlikeCodes_36 : decode cX8_unlikeCodes 36 = .ok (.istore_n 1, 1) := by decide +kernel
theorem dX8_unlikeCodes_37 : decode cX8_unlikeCodes 37 = .ok (.iinc 2 1, 3) := by decide +kernel
theorem dX8_unlikeCodes_40 : decode cX8_unlikeCodes 40 = .ok (.goto (-36), 3) := by decide +kernel
theorem dX8_unlikeCodes_43 : decode cX8_unlikeCodes 43 = .ok (.iload_n 1, 1) := by decide +kernel
theorem dX8_unlikeCodes_44 : decode cX8_unlikeCodes 44 = .ok (.ireturn, 1) := by decide +kernel
theorem dX8_firstMissing_0 : decode cX8_firstMissing 0 = .ok (.iconst 1, 1) := by decide +kernel
theorem dX8_firstMissing_1 : decode cX8_firstMissing 1 = .ok (.istore_n 1, 1) := by decide +kernel
theorem dX8_firstMissing_2 : decode cX8_firstMissing 2 = .ok (.iload_n 1, 1) := by decide +kernel
theorem dX8_firstMissing_3 : decode cX8_firstMissing 3 = .ok (.aload_n 0, 1) := by decide +kernel
theorem dX8_firstMissing_4 : decode cX8_firstMissing 4 = .ok (.getfield 317, 3) := by decide +kernel
theorem dX8_firstMissing_7 : decode cX8_firstMissing 7 = .ok (.if_icmp .ge 39, 3) := by decide +kernel
theorem dX8_firstMissing_10 : decode cX8_firstMissing 10 = .ok (.aload_n 0, 1) := by decide +kernel
theorem dX8_firstMissing_11 : decode cX8_firstMissing 11 = .ok (.getfield 92, 3) := by decide +kernel
theorem dX8_firstMissing_14 : decode cX8_firstMissing 14 = .ok (.iload_n 1, 1) := by decide +kernel
theorem dX8_firstMissing_15 : decode cX8_firstMissing 15 = .ok (.iaload, 1) := by decide +kernel
theorem dX8_firstMissing_16 : decode cX8_firstMissing 16 = .ok (.aload_n 0, 1) := by decide +kernel
theorem dX8_firstMissing_17 : decode cX8_firstMissing 17 = .ok (.getfield 92, 3) := by decide +kernel
theorem dX8_firstMissing_20 : decode cX8_firstMissing 20 = .ok (.iload_n 1, 1) := by decide +kernel
theorem dX8_firstMissing_21 : decode cX8_firstMissing 21 = .ok (.iconst 1, 1) := by decide +kernel
theorem dX8_firstMissing_22 : decode cX8_firstMissing 22 = .ok (.isub, 1) := by decide +kernel
theorem dX8_firstMissing_23 : decode cX8_firstMissing 23 = .ok (.iaload, 1) := by decide +kernel
theorem dX8_firstMissing_24 : decode cX8_firstMissing 24 = .ok (.iconst 1, 1) := by decide +kernel
theorem dX8_firstMissing_25 : decode cX8_firstMissing 25 = .ok (.iadd, 1) := by decide +kernel
theorem dX8_firstMissing_26 : decode cX8_firstMissing 26 = .ok (.if_icmp .le 14, 3) := by decide +kernel
theorem dX8_firstMissing_29 : decode cX8_firstMissing 29 = .ok (.aload_n 0, 1) := by decide +kernel
theorem dX8_firstMissing_30 : decode cX8_firstMissing 30 = .ok (.getfield 92, 3) := by decide +kernel
theorem dX8_firstMissing_33 : decode cX8_firstMissing 33 = .ok (.iload_n 1, 1) := by decide +kernel
theorem dX8_firstMissing_34 : decode cX8_firstMissing 34 = .ok (.iconst 1, 1) := by decide +kernel
theorem dX8_firstMissing_35 : decode cX8_firstMissing 35 = .ok (.isub, 1) := by decide +kernel
theorem dX8_firstMissing_36 : decode cX8_firstMissing 36 = .ok (.iaload, 1) := by decide +kernel
theorem dX8_firstMissing_37 : decode cX8_firstMissing 37 = .ok (.iconst 1, 1) := by decide +kernel
theorem dX8_firstMissing_38 : decode cX8_firstMissing 38 = .ok (.iadd, 1) := by decide +kernel
theorem dX8_firstMissing_39 : decode cX8_firstMissing 39 = .ok (.ireturn, 1) := by decide +kernel
theorem dX8_firstMissing_40 : decode cX8_firstMissing 40 = .ok (.iinc 1 1, 3) := by decide +kernel
theorem dX8_firstMissing_43 : decode cX8_firstMissing 43 = .ok (.goto (-41), 3) := by decide +kernel
theorem dX8_firstMissing_46 : decode cX8_firstMissing 46 = .ok (.iconst (-1), 1) := by decide +kernel
theorem dX8_firstMissing_47 : decode cX8_firstMissing 47 = .ok (.ireturn, 1) := by decide +kernel
theorem dX8_falls_0 : decode cX8_falls 0 = .ok (.iconst 0, 1) := by decide +kernel
theorem dX8_falls_1 : decode cX8_falls 1 = .ok (.istore_n 1, 1) := by decide +kernel
theorem dX8_falls_2 : decode cX8_falls 2 = .ok (.iconst 1, 1) := by decide +kernel
theorem dX8_falls_3 : decode cX8_falls 3 = .ok (.istore_n 2, 1) := by decide +kernel
theorem dX8_falls_4 : decode cX8_falls 4 = .ok (.iload_n 2, 1) := by decide +kernel
theorem dX8_falls_5 : decode cX8_falls 5 = .ok (.aload_n 0, 1) := by decide +kernel
theorem dX8_falls_6 : decode cX8_falls 6 = .ok (.getfield 317, 3) := by decide +kernel
theorem dX8_falls_9 : decode cX8_falls 9 = .ok (.if_icmp .ge 34, 3) := by decide +kernel
theorem dX8_falls_12 : decode cX8_falls 12 = .ok (.iload_n 1, 1) := by decide +kernel
theorem dX8_falls_13 : decode cX8_falls 13 = .ok (.aload_n 0, 1) := by decide +kernel
theorem dX8_falls_14 : decode cX8_falls 14 = .ok (.getfield 89, 3) := by decide +kernel
theorem dX8_falls_17 : decode cX8_falls 17 = .ok (.iload_n 2, 1) := by decide +kernel
theorem dX8_falls_18 : decode cX8_falls 18 = .ok (.iaload, 1) := by decide +kernel
theorem dX8_falls_19 : decode cX8_falls 19 = .ok (.aload_n 0, 1) := by decide +kernel
theorem dX8_falls_20 : decode cX8_falls 20 = .ok (.getfield 89, 3) := by decide +kernel
theorem dX8_falls_23 : decode cX8_falls 23 = .ok (.iload_n 2, 1) := by decide +kernel
theorem dX8_falls_24 : decode cX8_falls 24 = .ok (.iconst 1, 1) := by decide +kernel
theorem dX8_falls_25 : decode cX8_falls 25 = .ok (.isub, 1) := by decide +kernel
theorem dX8_falls_26 : decode cX8_falls 26 = .ok (.iaload, 1) := by decide +kernel
theorem dX8_falls_27 : decode cX8_falls 27 = .ok (.if_icmp .ge 7, 3) := by decide +kernel
theorem dX8_falls_30 : decode cX8_falls 30 = .ok (.iconst 1, 1) := by decide +kernel
theorem dX8_falls_31 : decode cX8_falls 31 = .ok (.goto 4, 3) := by decide +kernel
theorem dX8_falls_34 : decode cX8_falls 34 = .ok (.iconst 0, 1) := by decide +kernel
theorem dX8_falls_35 : decode cX8_falls 35 = .ok (.iadd, 1) := by decide +kernel
theorem dX8_falls_36 : decode cX8_falls 36 = .ok (.istore_n 1, 1) := by decide +kernel
theorem dX8_falls_37 : decode cX8_falls 37 = .ok (.iinc 2 1, 3) := by decide +kernel
theorem dX8_falls_40 : decode cX8_falls 40 = .ok (.goto (-36), 3) := by decide +kernel
theorem dX8_falls_43 : decode cX8_falls 43 = .ok (.iload_n 1, 1) := by decide +kernel
theorem dX8_falls_44 : decode cX8_falls 44 = .ok (.ireturn, 1) := by decide +kernel
theorem dX8_offBy_0 : decode cX8_offBy 0 = .ok (.aload_n 0, 1) := by decide +kernel
theorem dX8_offBy_1 : decode cX8_offBy 1 = .ok (.getfield 89, 3) := by decide +kernel
theorem dX8_offBy_4 : decode cX8_offBy 4 = .ok (.iload_n 3, 1) := by decide +kernel
theorem dX8_offBy_5 : decode cX8_offBy 5 = .ok (.iaload, 1) := by decide +kernel
theorem dX8_offBy_6 : decode cX8_offBy 6 = .ok (.aload_n 0, 1) := by decide +kernel
theorem dX8_offBy_7 : decode cX8_offBy 7 = .ok (.iconst 5, 1) := by decide +kernel
theorem dX8_offBy_8 : decode cX8_offBy 8 = .ok (.invokevirtual 221, 3) := by decide +kernel
theorem dX8_offBy_11 : decode cX8_offBy 11 = .ok (.imul, 1) := by decide +kernel
theorem dX8_offBy_12 : decode cX8_offBy 12 = .ok (.iload_n 1, 1) := by decide +kernel
theorem dX8_offBy_13 : decode cX8_offBy 13 = .ok (.isub, 1) := by decide +kernel
theorem dX8_offBy_14 : decode cX8_offBy 14 = .ok (.iload_n 2, 1) := by decide +kernel
theorem dX8_offBy_15 : decode cX8_offBy 15 = .ok (.iload_n 3, 1) := by decide +kernel
theorem dX8_offBy_16 : decode cX8_offBy 16 = .ok (.imul, 1) := by decide +kernel
theorem dX8_offBy_17 : decode cX8_offBy 17 = .ok (.isub, 1) := by decide +kernel
theorem dX8_offBy_18 : decode cX8_offBy 18 = .ok (.istore 4, 2) := by decide +kernel
theorem dX8_offBy_20 : decode cX8_offBy 20 = .ok (.iload 4, 2) := by decide +kernel
theorem dX8_offBy_22 : decode cX8_offBy 22 = .ok (.ifCond .ge 9, 3) := by decide +kernel
theorem dX8_offBy_25 : decode cX8_offBy 25 = .ok (.iload 4, 2) := by decide +kernel
theorem dX8_offBy_27 : decode cX8_offBy 27 = .ok (.ineg, 1) := by decide +kernel
theorem dX8_offBy_28 : decode cX8_offBy 28 = .ok (.goto 5, 3) := by decide +kernel
theorem dX8_offBy_31 : decode cX8_offBy 31 = .ok (.iload 4, 2) := by decide +kernel
theorem dX8_offBy_33 : decode cX8_offBy 33 = .ok (.ireturn, 1) := by decide +kernel
theorem dX8_mostOff_0 : decode cX8_mostOff 0 = .ok (.iconst 0, 1) := by decide +kernel
theorem dX8_mostOff_1 : decode cX8_mostOff 1 = .ok (.istore_n 3, 1) := by decide +kernel
theorem dX8_mostOff_2 : decode cX8_mostOff 2 = .ok (.iconst 1, 1) := by decide +kernel
theorem dX8_mostOff_3 : decode cX8_mostOff 3 = .ok (.istore 4, 2) := by decide +kernel
theorem dX8_mostOff_5 : decode cX8_mostOff 5 = .ok (.iload 4, 2) := by decide +kernel
theorem dX8_mostOff_7 : decode cX8_mostOff 7 = .ok (.aload_n 0, 1) := by decide +kernel
theorem dX8_mostOff_8 : decode cX8_mostOff 8 = .ok (.getfield 317, 3) := by decide +kernel
theorem dX8_mostOff_11 : decode cX8_mostOff 11 = .ok (.if_icmp .ge 34, 3) := by decide +kernel
theorem dX8_mostOff_14 : decode cX8_mostOff 14 = .ok (.aload_n 0, 1) := by decide +kernel
theorem dX8_mostOff_15 : decode cX8_mostOff 15 = .ok (.iload_n 1, 1) := by decide +kernel
theorem dX8_mostOff_16 : decode cX8_mostOff 16 = .ok (.iload_n 2, 1) := by decide +kernel
theorem dX8_mostOff_17 : decode cX8_mostOff 17 = .ok (.iload 4, 2) := by decide +kernel
theorem dX8_mostOff_19 : decode cX8_mostOff 19 = .ok (.invokevirtual 323, 3) := by decide +kernel
theorem dX8_mostOff_22 : decode cX8_mostOff 22 = .ok (.aload_n 0, 1) := by decide +kernel
theorem dX8_mostOff_23 : decode cX8_mostOff 23 = .ok (.iload_n 1, 1) := by decide +kernel
theorem dX8_mostOff_24 : decode cX8_mostOff 24 = .ok (.iload_n 2, 1) := by decide +kernel
theorem dX8_mostOff_25 : decode cX8_mostOff 25 = .ok (.iload_n 3, 1) := by decide +kernel
theorem dX8_mostOff_26 : decode cX8_mostOff 26 = .ok (.invokevirtual 323, 3) := by decide +kernel
theorem dX8_mostOff_29 : decode cX8_mostOff 29 = .ok (.if_icmp .le 8, 3) := by decide +kernel
theorem dX8_mostOff_32 : decode cX8_mostOff 32 = .ok (.iload 4, 2) := by decide +kernel
theorem dX8_mostOff_34 : decode cX8_mostOff 34 = .ok (.goto 4, 3) := by decide +kernel
theorem dX8_mostOff_37 : decode cX8_mostOff 37 = .ok (.iload_n 3, 1) := by decide +kernel
theorem dX8_mostOff_38 : decode cX8_mostOff 38 = .ok (.istore_n 3, 1) := by decide +kernel
theorem dX8_mostOff_39 : decode cX8_mostOff 39 = .ok (.iinc 4 1, 3) := by decide +kernel
theorem dX8_mostOff_42 : decode cX8_mostOff 42 = .ok (.goto (-37), 3) := by decide +kernel
theorem dX8_mostOff_45 : decode cX8_mostOff 45 = .ok (.iload_n 3, 1) := by decide +kernel
theorem dX8_mostOff_46 : decode cX8_mostOff 46 = .ok (.ireturn, 1) := by decide +kernel
theorem dX8_countOf_0 : decode cX8_countOf 0 = .ok (.iconst 0, 1) := by decide +kernel
theorem dX8_countOf_1 : decode cX8_countOf 1 = .ok (.istore_n 2, 1) := by decide +kernel
theorem dX8_countOf_2 : decode cX8_countOf 2 = .ok (.iconst 0, 1) := by decide +kernel
theorem dX8_countOf_3 : decode cX8_countOf 3 = .ok (.istore_n 3, 1) := by decide +kernel
theorem dX8_countOf_4 : decode cX8_countOf 4 = .ok (.iload_n 3, 1) := by decide +kernel
theorem dX8_countOf_5 : decode cX8_countOf 5 = .ok (.aload_n 0, 1) := by decide +kernel
theorem dX8_countOf_6 : decode cX8_countOf 6 = .ok (.getfield 317, 3) := by decide +kernel
theorem dX8_countOf_9 : decode cX8_countOf 9 = .ok (.if_icmp .ge 27, 3) := by decide +kernel
theorem dX8_countOf_12 : decode cX8_countOf 12 = .ok (.iload_n 2, 1) := by decide +kernel
theorem dX8_countOf_13 : decode cX8_countOf 13 = .ok (.aload_n 0, 1) := by decide +kernel
theorem dX8_countOf_14 : decode cX8_countOf 14 = .ok (.getfield 92, 3) := by decide +kernel
theorem dX8_countOf_17 : decode cX8_countOf 17 = .ok (.iload_n 3, 1) := by decide +kernel
theorem dX8_countOf_18 : decode cX8_countOf 18 = .ok (.iaload, 1) := by decide +kernel
theorem dX8_countOf_19 : decode cX8_countOf 19 = .ok (.iload_n 1, 1) := by decide +kernel
theorem dX8_countOf_20 : decode cX8_countOf 20 = .ok (.if_icmp .ne 7, 3) := by decide +kernel
theorem dX8_countOf_23 : decode cX8_countOf 23 = .ok (.iconst 1, 1) := by decide +kernel
theorem dX8_countOf_24 : decode cX8_countOf 24 = .ok (.goto 4, 3) := by decide +kernel
theorem dX8_countOf_27 : decode cX8_countOf 27 = .ok (.iconst 0, 1) := by decide +kernel
theorem dX8_countOf_28 : decode cX8_countOf 28 = .ok (.iadd, 1) := by decide +kernel
theorem dX8_countOf_29 : decode cX8_countOf 29 = .ok (.istore_n 2, 1) := by decide +kernel
theorem dX8_countOf_30 : decode cX8_countOf 30 = .ok (.iinc 3 1, 3) := by decide +kernel
theorem dX8_countOf_33 : decode cX8_countOf 33 = .ok (.goto (-29), 3) := by decide +kernel
theorem dX8_countOf_36 : decode cX8_countOf 36 = .ok (.iload_n 2, 1) := by decide +kernel
theorem dX8_countOf_37 : decode cX8_countOf 37 = .ok (.ireturn, 1) := by decide +kernel
theorem dX8_mostOften_0 : decode cX8_mostOften 0 = .ok (.aload_n 0, 1) := by decide +kernel
theorem dX8_mostOften_1 : decode cX8_mostOften 1 = .ok (.getfield 92, 3) := by decide +kernel
theorem dX8_mostOften_4 : decode cX8_mostOften 4 = .ok (.iconst 0, 1) := by decide +kernel
theorem dX8_mostOften_5 : decode cX8_mostOften 5 = .ok (.iaload, 1) := by decide +kernel
theorem dX8_mostOften_6 : decode cX8_mostOften 6 = .ok (.istore_n 1, 1) := by decide +kernel
theorem dX8_mostOften_7 : decode cX8_mostOften 7 = .ok (.iconst 0, 1) := by decide +kernel
theorem dX8_mostOften_8 : decode cX8_mostOften 8 = .ok (.istore_n 2, 1) := by decide +kernel
theorem dX8_mostOften_9 : decode cX8_mostOften 9 = .ok (.iconst 0, 1) := by decide +kernel
theorem dX8_mostOften_10 : decode cX8_mostOften 10 = .ok (.istore_n 3, 1) := by decide +kernel
theorem dX8_mostOften_11 : decode cX8_mostOften 11 = .ok (.iconst 0, 1) := by decide +kernel
theorem dX8_mostOften_12 : decode cX8_mostOften 12 = .ok (.istore 4, 2) := by decide +kernel
theorem dX8_mostOften_14 : decode cX8_mostOften 14 = .ok (.iload 4, 2) := by decide +kernel
theorem dX8_mostOften_16 : decode cX8_mostOften 16 = .ok (.aload_n 0, 1) := by decide +kernel
theorem dX8_mostOften_17 : decode cX8_mostOften 17 = .ok (.getfield 317, 3) := by decide +kernel
theorem dX8_mostOften_20 : decode cX8_mostOften 20 = .ok (.if_icmp .ge 59, 3) := by decide +kernel
theorem dX8_mostOften_23 : decode cX8_mostOften 23 = .ok (.iload 4, 2) := by decide +kernel
theorem dX8_mostOften_25 : decode cX8_mostOften 25 = .ok (.ifCond .le 28, 3) := by decide +kernel
theorem dX8_mostOften_28 : decode cX8_mostOften 28 = .ok (.aload_n 0, 1) := by decide +kernel
theorem dX8_mostOften_29 : decode cX8_mostOften 29 = .ok (.getfield 92, 3) := by decide +kernel
theorem dX8_mostOften_32 : decode cX8_mostOften 32 = .ok (.iload 4, 2) := by decide +kernel
theorem dX8_mostOften_34 : decode cX8_mostOften 34 = .ok (.iaload, 1) := by decide +kernel
theorem dX8_mostOften_35 : decode cX8_mostOften 35 = .ok (.aload_n 0, 1) := by decide +kernel
theorem dX8_mostOften_36 : decode cX8_mostOften 36 = .ok (.getfield 92, 3) := by decide +kernel
theorem dX8_mostOften_39 : decode cX8_mostOften 39 = .ok (.iload 4, 2) := by decide +kernel
theorem dX8_mostOften_41 : decode cX8_mostOften 41 = .ok (.iconst 1, 1) := by decide +kernel
theorem dX8_mostOften_42 : decode cX8_mostOften 42 = .ok (.isub, 1) := by decide +kernel
theorem dX8_mostOften_43 : decode cX8_mostOften 43 = .ok (.iaload, 1) := by decide +kernel
theorem dX8_mostOften_44 : decode cX8_mostOften 44 = .ok (.if_icmp .ne 9, 3) := by decide +kernel
theorem dX8_mostOften_47 : decode cX8_mostOften 47 = .ok (.iload_n 3, 1) := by decide +kernel
theorem dX8_mostOften_48 : decode cX8_mostOften 48 = .ok (.iconst 1, 1) := by decide +kernel
theorem dX8_mostOften_49 : decode cX8_mostOften 49 = .ok (.iadd, 1) := by decide +kernel
theorem dX8_mostOften_50 : decode cX8_mostOften 50 = .ok (.goto 4, 3) := by decide +kernel
theorem dX8_mostOften_53 : decode cX8_mostOften 53 = .ok (.iconst 1, 1) := by decide +kernel
theorem dX8_mostOften_54 : decode cX8_mostOften 54 = .ok (.istore_n 3, 1) := by decide +kernel
theorem dX8_mostOften_55 : decode cX8_mostOften 55 = .ok (.iload_n 3, 1) := by decide +kernel
theorem dX8_mostOften_56 : decode cX8_mostOften 56 = .ok (.iload_n 2, 1) := by decide +kernel
theorem dX8_mostOften_57 : decode cX8_mostOften 57 = .ok (.if_icmp .gt 6, 3) := by decide +kernel
theorem dX8_mostOften_60 : decode cX8_mostOften 60 = .ok (.goto 13, 3) := by decide +kernel
theorem dX8_mostOften_63 : decode cX8_mostOften 63 = .ok (.iload_n 3, 1) := by decide +kernel
theorem dX8_mostOften_64 : decode cX8_mostOften 64 = .ok (.istore_n 2, 1) := by decide +kernel
theorem dX8_mostOften_65 : decode cX8_mostOften 65 = .ok (.aload_n 0, 1) := by decide +kernel
theorem dX8_mostOften_66 : decode cX8_mostOften 66 = .ok (.getfield 92, 3) := by decide +kernel
theorem dX8_mostOften_69 : decode cX8_mostOften 69 = .ok (.iload 4, 2) := by decide +kernel
theorem dX8_mostOften_71 : decode cX8_mostOften 71 = .ok (.iaload, 1) := by decide +kernel
theorem dX8_mostOften_72 : decode cX8_mostOften 72 = .ok (.istore_n 1, 1) := by decide +kernel
theorem dX8_mostOften_73 : decode cX8_mostOften 73 = .ok (.iinc 4 1, 3) := by decide +kernel
theorem dX8_mostOften_76 : decode cX8_mostOften 76 = .ok (.goto (-62), 3) := by decide +kernel
theorem dX8_mostOften_79 : decode cX8_mostOften 79 = .ok (.iload_n 1, 1) := by decide +kernel
theorem dX8_mostOften_80 : decode cX8_mostOften 80 = .ok (.ireturn, 1) := by decide +kernel
theorem dX8_ofHistogram_0 : decode cX8_ofHistogram 0 = .ok (.iload_n 3, 1) := by decide +kernel
theorem dX8_ofHistogram_1 : decode cX8_ofHistogram 1 = .ok (.tableswitch 144 0 8 #[51, 56, 82, 87, 100, 111, 116, 125, 132], 51) := by decide +kernel
theorem dX8_ofHistogram_52 : decode cX8_ofHistogram 52 = .ok (.aload_n 0, 1) := by decide +kernel
theorem dX8_ofHistogram_53 : decode cX8_ofHistogram 53 = .ok (.invokevirtual 326, 3) := by decide +kernel
theorem dX8_ofHistogram_56 : decode cX8_ofHistogram 56 = .ok (.ireturn, 1) := by decide +kernel
theorem dX8_ofHistogram_57 : decode cX8_ofHistogram 57 = .ok (.aload_n 0, 1) := by decide +kernel
theorem dX8_ofHistogram_58 : decode cX8_ofHistogram 58 = .ok (.getfield 92, 3) := by decide +kernel
theorem dX8_ofHistogram_61 : decode cX8_ofHistogram 61 = .ok (.aload_n 0, 1) := by decide +kernel
theorem dX8_ofHistogram_62 : decode cX8_ofHistogram 62 = .ok (.getfield 317, 3) := by decide +kernel
theorem dX8_ofHistogram_65 : decode cX8_ofHistogram 65 = .ok (.iconst 1, 1) := by decide +kernel
theorem dX8_ofHistogram_66 : decode cX8_ofHistogram 66 = .ok (.isub, 1) := by decide +kernel
theorem dX8_ofHistogram_67 : decode cX8_ofHistogram 67 = .ok (.iaload, 1) := by decide +kernel
theorem dX8_ofHistogram_68 : decode cX8_ofHistogram 68 = .ok (.aload_n 0, 1) := by decide +kernel
theorem dX8_ofHistogram_69 : decode cX8_ofHistogram 69 = .ok (.getfield 92, 3) := by decide +kernel
theorem dX8_ofHistogram_72 : decode cX8_ofHistogram 72 = .ok (.iconst 0, 1) := by decide +kernel
theorem dX8_ofHistogram_73 : decode cX8_ofHistogram 73 = .ok (.iaload, 1) := by decide +kernel
theorem dX8_ofHistogram_74 : decode cX8_ofHistogram 74 = .ok (.isub, 1) := by decide +kernel
theorem dX8_ofHistogram_75 : decode cX8_ofHistogram 75 = .ok (.iconst 1, 1) := by decide +kernel
theorem dX8_ofHistogram_76 : decode cX8_ofHistogram 76 = .ok (.iadd, 1) := by decide +kernel
theorem dX8_ofHistogram_77 : decode cX8_ofHistogram 77 = .ok (.aload_n 0, 1) := by decide +kernel
theorem dX8_ofHistogram_78 : decode cX8_ofHistogram 78 = .ok (.invokevirtual 326, 3) := by decide +kernel
theorem dX8_ofHistogram_81 : decode cX8_ofHistogram 81 = .ok (.isub, 1) := by decide +kernel
theorem dX8_ofHistogram_82 : decode cX8_ofHistogram 82 = .ok (.ireturn, 1) := by decide +kernel
theorem dX8_ofHistogram_83 : decode cX8_ofHistogram 83 = .ok (.aload_n 0, 1) := by decide +kernel
theorem dX8_ofHistogram_84 : decode cX8_ofHistogram 84 = .ok (.invokevirtual 329, 3) := by decide +kernel
theorem dX8_ofHistogram_87 : decode cX8_ofHistogram 87 = .ok (.ireturn, 1) := by decide +kernel
theorem dX8_ofHistogram_88 : decode cX8_ofHistogram 88 = .ok (.aload_n 0, 1) := by decide +kernel
theorem dX8_ofHistogram_89 : decode cX8_ofHistogram 89 = .ok (.iload_n 1, 1) := by decide +kernel
theorem dX8_ofHistogram_90 : decode cX8_ofHistogram 90 = .ok (.iload_n 2, 1) := by decide +kernel
theorem dX8_ofHistogram_91 : decode cX8_ofHistogram 91 = .ok (.aload_n 0, 1) := by decide +kernel
theorem dX8_ofHistogram_92 : decode cX8_ofHistogram 92 = .ok (.iload_n 1, 1) := by decide +kernel
theorem dX8_ofHistogram_93 : decode cX8_ofHistogram 93 = .ok (.iload_n 2, 1) := by decide +kernel
theorem dX8_ofHistogram_94 : decode cX8_ofHistogram 94 = .ok (.invokevirtual 332, 3) := by decide +kernel
theorem dX8_ofHistogram_97 : decode cX8_ofHistogram 97 = .ok (.invokevirtual 323, 3) := by decide +kernel
theorem dX8_ofHistogram_100 : decode cX8_ofHistogram 100 = .ok (.ireturn, 1) := by decide +kernel
theorem dX8_ofHistogram_101 : decode cX8_ofHistogram 101 = .ok (.iload_n 1, 1) := by decide +kernel
theorem dX8_ofHistogram_102 : decode cX8_ofHistogram 102 = .ok (.iload_n 2, 1) := by decide +kernel
theorem dX8_ofHistogram_103 : decode cX8_ofHistogram 103 = .ok (.aload_n 0, 1) := by decide +kernel
theorem dX8_ofHistogram_104 : decode cX8_ofHistogram 104 = .ok (.iload_n 1, 1) := by decide +kernel
theorem dX8_ofHistogram_105 : decode cX8_ofHistogram 105 = .ok (.iload_n 2, 1) := by decide +kernel
theorem dX8_ofHistogram_106 : decode cX8_ofHistogram 106 = .ok (.invokevirtual 332, 3) := by decide +kernel
theorem dX8_ofHistogram_109 : decode cX8_ofHistogram 109 = .ok (.imul, 1) := by decide +kernel
theorem dX8_ofHistogram_110 : decode cX8_ofHistogram 110 = .ok (.iadd, 1) := by decide +kernel
theorem dX8_ofHistogram_111 : decode cX8_ofHistogram 111 = .ok (.ireturn, 1) := by decide +kernel
theorem dX8_ofHistogram_112 : decode cX8_ofHistogram 112 = .ok (.aload_n 0, 1) := by decide +kernel
theorem dX8_ofHistogram_113 : decode cX8_ofHistogram 113 = .ok (.invokevirtual 335, 3) := by decide +kernel
theorem dX8_ofHistogram_116 : decode cX8_ofHistogram 116 = .ok (.ireturn, 1) := by decide +kernel
theorem dX8_ofHistogram_117 : decode cX8_ofHistogram 117 = .ok (.aload_n 0, 1) := by decide +kernel
theorem dX8_ofHistogram_118 : decode cX8_ofHistogram 118 = .ok (.aload_n 0, 1) := by decide +kernel
theorem dX8_ofHistogram_119 : decode cX8_ofHistogram 119 = .ok (.invokevirtual 335, 3) := by decide +kernel
theorem dX8_ofHistogram_122 : decode cX8_ofHistogram 122 = .ok (.invokevirtual 338, 3) := by decide +kernel
theorem dX8_ofHistogram_125 : decode cX8_ofHistogram 125 = .ok (.ireturn, 1) := by decide +kernel
theorem dX8_ofHistogram_126 : decode cX8_ofHistogram 126 = .ok (.aload_n 0, 1) := by decide +kernel
theorem dX8_ofHistogram_127 : decode cX8_ofHistogram 127 = .ok (.getfield 92, 3) := by decide +kernel
theorem dX8_ofHistogram_130 : decode cX8_ofHistogram 130 = .ok (.iconst 0, 1) := by decide +kernel
theorem dX8_ofHistogram_131 : decode cX8_ofHistogram 131 = .ok (.iaload, 1) := by decide +kernel
theorem dX8_ofHistogram_132 : decode cX8_ofHistogram 132 = .ok (.ireturn, 1) := by decide +kernel
theorem dX8_ofHistogram_133 : decode cX8_ofHistogram 133 = .ok (.aload_n 0, 1) := by decide +kernel
theorem dX8_ofHistogram_134 : decode cX8_ofHistogram 134 = .ok (.getfield 92, 3) := by decide +kernel
theorem dX8_ofHistogram_137 : decode cX8_ofHistogram 137 = .ok (.aload_n 0, 1) := by decide +kernel
theorem dX8_ofHistogram_138 : decode cX8_ofHistogram 138 = .ok (.getfield 317, 3) := by decide +kernel
theorem dX8_ofHistogram_141 : decode cX8_ofHistogram 141 = .ok (.iconst 1, 1) := by decide +kernel
theorem dX8_ofHistogram_142 : decode cX8_ofHistogram 142 = .ok (.isub, 1) := by decide +kernel
theorem dX8_ofHistogram_143 : decode cX8_ofHistogram 143 = .ok (.iaload, 1) := by decide +kernel
theorem dX8_ofHistogram_144 : decode cX8_ofHistogram 144 = .ok (.ireturn, 1) := by decide +kernel
theorem dX8_ofHistogram_145 : decode cX8_ofHistogram 145 = .ok (.aload_n 0, 1) := by decide +kernel
theorem dX8_ofHistogram_146 : decode cX8_ofHistogram 146 = .ok (.invokevirtual 341, 3) := by decide +kernel
theorem dX8_ofHistogram_149 : decode cX8_ofHistogram 149 = .ok (.ireturn, 1) := by decide +kernel
theorem dX8_histogram_0 : decode cX8_histogram 0 = .ok (.aload_n 0, 1) := by decide +kernel
theorem dX8_histogram_1 : decode cX8_histogram 1 = .ok (.iconst 0, 1) := by decide +kernel
theorem dX8_histogram_2 : decode cX8_histogram 2 = .ok (.invokevirtual 221, 3) := by decide +kernel
theorem dX8_histogram_5 : decode cX8_histogram 5 = .ok (.ifCond .eq 23, 3) := by decide +kernel
theorem dX8_histogram_8 : decode cX8_histogram 8 = .ok (.iload_n 1, 1) := by decide +kernel
theorem dX8_histogram_9 : decode cX8_histogram 9 = .ok (.iload_n 2, 1) := by decide +kernel
theorem dX8_histogram_10 : decode cX8_histogram 10 = .ok (.iload_n 3, 1) := by decide +kernel
theorem dX8_histogram_11 : decode cX8_histogram 11 = .ok (.invokestatic 344, 3) := by decide +kernel
theorem dX8_histogram_14 : decode cX8_histogram 14 = .ok (.ifCond .eq 14, 3) := by decide +kernel
theorem dX8_histogram_17 : decode cX8_histogram 17 = .ok (.iload 4, 2) := by decide +kernel
theorem dX8_histogram_19 : decode cX8_histogram 19 = .ok (.iconst 0, 1) := by decide +kernel
theorem dX8_histogram_20 : decode cX8_histogram 20 = .ok (.bipush 9, 2) := by decide +kernel
theorem dX8_histogram_22 : decode cX8_histogram 22 = .ok (.invokestatic 129, 3) := by decide +kernel
theorem dX8_histogram_25 : decode cX8_histogram 25 = .ok (.ifCond .ne 7, 3) := by decide +kernel
theorem dX8_histogram_28 : decode cX8_histogram 28 = .ok (.ldc_w 283, 3) := by decide +kernel
theorem dX8_histogram_31 : decode cX8_histogram 31 = .ok (.ireturn, 1) := by decide +kernel
theorem dX8_histogram_32 : decode cX8_histogram 32 = .ok (.aload_n 0, 1) := by decide +kernel
theorem dX8_histogram_33 : decode cX8_histogram 33 = .ok (.iload_n 1, 1) := by decide +kernel
theorem dX8_histogram_34 : decode cX8_histogram 34 = .ok (.iload_n 2, 1) := by decide +kernel
theorem dX8_histogram_35 : decode cX8_histogram 35 = .ok (.iload_n 3, 1) := by decide +kernel
theorem dX8_histogram_36 : decode cX8_histogram 36 = .ok (.invokevirtual 347, 3) := by decide +kernel
theorem dX8_histogram_39 : decode cX8_histogram 39 = .ok (.aload_n 0, 1) := by decide +kernel
theorem dX8_histogram_40 : decode cX8_histogram 40 = .ok (.iload_n 1, 1) := by decide +kernel
theorem dX8_histogram_41 : decode cX8_histogram 41 = .ok (.iload_n 3, 1) := by decide +kernel
theorem dX8_histogram_42 : decode cX8_histogram 42 = .ok (.iload 4, 2) := by decide +kernel
theorem dX8_histogram_44 : decode cX8_histogram 44 = .ok (.invokevirtual 350, 3) := by decide +kernel
theorem dX8_histogram_47 : decode cX8_histogram 47 = .ok (.ireturn, 1) := by decide +kernel
theorem dX8_often_0 : decode cX8_often 0 = .ok (.aload_n 0, 1) := by decide +kernel
theorem dX8_often_1 : decode cX8_often 1 = .ok (.iconst 0, 1) := by decide +kernel
theorem dX8_often_2 : decode cX8_often 2 = .ok (.invokevirtual 221, 3) := by decide +kernel
theorem dX8_often_5 : decode cX8_often 5 = .ok (.ifCond .eq 12, 3) := by decide +kernel
theorem dX8_often_8 : decode cX8_often 8 = .ok (.iload_n 1, 1) := by decide +kernel
theorem dX8_often_9 : decode cX8_often 9 = .ok (.iload_n 2, 1) := by decide +kernel
theorem dX8_often_10 : decode cX8_often 10 = .ok (.iload_n 3, 1) := by decide +kernel
theorem dX8_often_11 : decode cX8_often 11 = .ok (.invokestatic 344, 3) := by decide +kernel
theorem dX8_often_14 : decode cX8_often 14 = .ok (.ifCond .ne 5, 3) := by decide +kernel
theorem dX8_often_17 : decode cX8_often 17 = .ok (.iconst (-1), 1) := by decide +kernel
theorem dX8_often_18 : decode cX8_often 18 = .ok (.ireturn, 1) := by decide +kernel
theorem dX8_often_19 : decode cX8_often 19 = .ok (.aload_n 0, 1) := by decide +kernel
theorem dX8_often_20 : decode cX8_often 20 = .ok (.iload_n 1, 1) := by decide +kernel
theorem dX8_often_21 : decode cX8_often 21 = .ok (.iload_n 2, 1) := by decide +kernel
theorem dX8_often_22 : decode cX8_often 22 = .ok (.iload_n 3, 1) := by decide +kernel
theorem dX8_often_23 : decode cX8_often 23 = .ok (.invokevirtual 347, 3) := by decide +kernel
theorem dX8_often_26 : decode cX8_often 26 = .ok (.aload_n 0, 1) := by decide +kernel
theorem dX8_often_27 : decode cX8_often 27 = .ok (.iload 4, 2) := by decide +kernel
theorem dX8_often_29 : decode cX8_often 29 = .ok (.invokevirtual 338, 3) := by decide +kernel
theorem dX8_often_32 : decode cX8_often 32 = .ok (.ireturn, 1) := by decide +kernel
theorem dX8_first_0 : decode cX8_first 0 = .ok (.aload_n 0, 1) := by decide +kernel
theorem dX8_first_1 : decode cX8_first 1 = .ok (.iconst 0, 1) := by decide +kernel
theorem dX8_first_2 : decode cX8_first 2 = .ok (.invokevirtual 221, 3) := by decide +kernel
theorem dX8_first_5 : decode cX8_first 5 = .ok (.ifCond .eq 12, 3) := by decide +kernel
theorem dX8_first_8 : decode cX8_first 8 = .ok (.iload_n 1, 1) := by decide +kernel
theorem dX8_first_9 : decode cX8_first 9 = .ok (.iload_n 2, 1) := by decide +kernel
theorem dX8_first_10 : decode cX8_first 10 = .ok (.iconst 1, 1) := by decide +kernel
theorem dX8_first_11 : decode cX8_first 11 = .ok (.invokestatic 344, 3) := by decide +kernel
theorem dX8_first_14 : decode cX8_first 14 = .ok (.ifCond .ne 7, 3) := by decide +kernel
theorem dX8_first_17 : decode cX8_first 17 = .ok (.ldc_w 283, 3) := by decide +kernel
theorem dX8_first_20 : decode cX8_first 20 = .ok (.ireturn, 1) := by decide +kernel
theorem dX8_first_21 : decode cX8_first 21 = .ok (.iload_n 1, 1) := by decide +kernel
theorem dX8_first_22 : decode cX8_first 22 = .ok (.istore 4, 2) := by decide +kernel
theorem dX8_first_24 : decode cX8_first 24 = .ok (.iload 4, 2) := by decide +kernel
theorem dX8_first_26 : decode cX8_first 26 = .ok (.iload_n 2, 1) := by decide +kernel
theorem dX8_first_27 : decode cX8_first 27 = .ok (.if_icmp .gt 22, 3) := by decide +kernel
theorem dX8_first_30 : decode cX8_first 30 = .ok (.aload_n 0, 1) := by decide +kernel
theorem dX8_first_31 : decode cX8_first 31 = .ok (.iload 4, 2) := by decide +kernel
theorem dX8_first_33 : decode cX8_first 33 = .ok (.invokevirtual 308, 3) := by decide +kernel
theorem dX8_first_36 : decode cX8_first 36 = .ok (.iload_n 3, 1) := by decide +kernel
theorem dX8_first_37 : decode cX8_first 37 = .ok (.if_icmp .lt 6, 3) := by decide +kernel
theorem dX8_first_40 : decode cX8_first 40 = .ok (.iload 4, 2) := by decide +kernel
theorem dX8_first_42 : decode cX8_first 42 = .ok (.ireturn, 1) := by decide +kernel
theorem dX8_first_43 : decode cX8_first 43 = .ok (.iinc 4 1, 3) := by decide +kernel
theorem dX8_first_46 : decode cX8_first 46 = .ok (.goto (-22), 3) := by decide +kernel
theorem dX8_first_49 : decode cX8_first 49 = .ok (.ldc_w 283, 3) := by decide +kernel
theorem dX8_first_52 : decode cX8_first 52 = .ok (.ireturn, 1) := by decide +kernel
theorem dX8_allSizes_0 : decode cX8_allSizes 0 = .ok (.aload_n 0, 1) := by decide +kernel
theorem dX8_allSizes_1 : decode cX8_allSizes 1 = .ok (.bipush 9, 2) := by decide +kernel
theorem dX8_allSizes_3 : decode cX8_allSizes 3 = .ok (.aload_n 0, 1) := by decide +kernel
theorem dX8_allSizes_4 : decode cX8_allSizes 4 = .ok (.iconst 0, 1) := by decide +kernel
theorem dX8_allSizes_5 : decode cX8_allSizes 5 = .ok (.invokevirtual 221, 3) := by decide +kernel
theorem dX8_allSizes_8 : decode cX8_allSizes 8 = .ok (.invokevirtual 244, 3) := by decide +kernel
theorem dX8_allSizes_11 : decode cX8_allSizes 11 = .ok (.ireturn, 1) := by decide +kernel
theorem dX8_isShortRow_0 : decode cX8_isShortRow 0 = .ok (.aload_n 0, 1) := by decide +kernel
theorem dX8_isShortRow_1 : decode cX8_isShortRow 1 = .ok (.iconst 0, 1) := by decide +kernel
theorem dX8_isShortRow_2 : decode cX8_isShortRow 2 = .ok (.invokevirtual 221, 3) := by decide +kernel
theorem dX8_isShortRow_5 : decode cX8_isShortRow 5 = .ok (.ifCond .le 23, 3) := by decide +kernel
theorem dX8_isShortRow_8 : decode cX8_isShortRow 8 = .ok (.aload_n 0, 1) := by decide +kernel
theorem dX8_isShortRow_9 : decode cX8_isShortRow 9 = .ok (.invokevirtual 353, 3) := by decide +kernel
theorem dX8_isShortRow_12 : decode cX8_isShortRow 12 = .ok (.aload_n 0, 1) := by decide +kernel
theorem dX8_isShortRow_13 : decode cX8_isShortRow 13 = .ok (.iconst 5, 1) := by decide +kernel
theorem dX8_isShortRow_14 : decode cX8_isShortRow 14 = .ok (.invokevirtual 221, 3) := by decide +kernel
theorem dX8_isShortRow_17 : decode cX8_isShortRow 17 = .ok (.idiv, 1) := by decide +kernel
theorem dX8_isShortRow_18 : decode cX8_isShortRow 18 = .ok (.sipush 2000, 3) := by decide +kernel
theorem dX8_isShortRow_21 : decode cX8_isShortRow 21 = .ok (.if_icmp .ge 7, 3) := by decide +kernel
theorem dX8_isShortRow_24 : decode cX8_isShortRow 24 = .ok (.iconst 1, 1) := by decide +kernel
theorem dX8_isShortRow_25 : decode cX8_isShortRow 25 = .ok (.goto 4, 3) := by decide +kernel
theorem dX8_isShortRow_28 : decode cX8_isShortRow 28 = .ok (.iconst 0, 1) := by decide +kernel
theorem dX8_isShortRow_29 : decode cX8_isShortRow 29 = .ok (.ireturn, 1) := by decide +kernel
theorem dX8_isMissing_0 : decode cX8_isMissing 0 = .ok (.aload_n 0, 1) := by decide +kernel
theorem dX8_isMissing_1 : decode cX8_isMissing 1 = .ok (.iconst 0, 1) := by decide +kernel
theorem dX8_isMissing_2 : decode cX8_isMissing 2 = .ok (.aload_n 0, 1) := by decide +kernel
theorem dX8_isMissing_3 : decode cX8_isMissing 3 = .ok (.invokevirtual 353, 3) := by decide +kernel
theorem dX8_isMissing_6 : decode cX8_isMissing 6 = .ok (.aload_n 0, 1) := by decide +kernel
theorem dX8_isMissing_7 : decode cX8_isMissing 7 = .ok (.iconst 5, 1) := by decide +kernel
theorem dX8_isMissing_8 : decode cX8_isMissing 8 = .ok (.invokevirtual 221, 3) := by decide +kernel
theorem dX8_isMissing_11 : decode cX8_isMissing 11 = .ok (.invokevirtual 347, 3) := by decide +kernel
theorem dX8_isMissing_14 : decode cX8_isMissing 14 = .ok (.aload_n 0, 1) := by decide +kernel
theorem dX8_isMissing_15 : decode cX8_isMissing 15 = .ok (.invokevirtual 341, 3) := by decide +kernel
theorem dX8_isMissing_18 : decode cX8_isMissing 18 = .ok (.iconst (-1), 1) := by decide +kernel
theorem dX8_isMissing_19 : decode cX8_isMissing 19 = .ok (.if_icmp .eq 7, 3) := by decide +kernel
theorem dX8_isMissing_22 : decode cX8_isMissing 22 = .ok (.iconst 1, 1) := by decide +kernel
theorem dX8_isMissing_23 : decode cX8_isMissing 23 = .ok (.goto 4, 3) := by decide +kernel
theorem dX8_isMissing_26 : decode cX8_isMissing 26 = .ok (.iconst 0, 1) := by decide +kernel
theorem dX8_isMissing_27 : decode cX8_isMissing 27 = .ok (.ireturn, 1) := by decide +kernel
theorem dX8_layOne_0 : decode cX8_layOne 0 = .ok (.iconst 0, 1) := by decide +kernel
theorem dX8_layOne_1 : decode cX8_layOne 1 = .ok (.istore_n 2, 1) := by decide +kernel
theorem dX8_layOne_2 : decode cX8_layOne 2 = .ok (.iload_n 2, 1) := by decide +kernel
theorem dX8_layOne_3 : decode cX8_layOne 3 = .ok (.aload_n 0, 1) := by decide +kernel
theorem dX8_layOne_4 : decode cX8_layOne 4 = .ok (.iconst 0, 1) := by decide +kernel
theorem dX8_layOne_5 : decode cX8_layOne 5 = .ok (.invokevirtual 221, 3) := by decide +kernel
theorem dX8_layOne_8 : decode cX8_layOne 8 = .ok (.if_icmp .ge 82, 3) := by decide +kernel
theorem dX8_layOne_11 : decode cX8_layOne 11 = .ok (.aload_n 0, 1) := by decide +kernel
theorem dX8_layOne_12 : decode cX8_layOne 12 = .ok (.iconst 2, 1) := by decide +kernel
theorem dX8_layOne_13 : decode cX8_layOne 13 = .ok (.iload_n 1, 1) := by decide +kernel
theorem dX8_layOne_14 : decode cX8_layOne 14 = .ok (.imul, 1) := by decide +kernel
theorem dX8_layOne_15 : decode cX8_layOne 15 = .ok (.iconst 1, 1) := by decide +kernel
theorem dX8_layOne_16 : decode cX8_layOne 16 = .ok (.iadd, 1) := by decide +kernel
theorem dX8_layOne_17 : decode cX8_layOne 17 = .ok (.invokevirtual 261, 3) := by decide +kernel
theorem dX8_layOne_20 : decode cX8_layOne 20 = .ok (.iload_n 1, 1) := by decide +kernel
theorem dX8_layOne_21 : decode cX8_layOne 21 = .ok (.isub, 1) := by decide +kernel
theorem dX8_layOne_22 : decode cX8_layOne 22 = .ok (.istore_n 3, 1) := by decide +kernel
theorem dX8_layOne_23 : decode cX8_layOne 23 = .ok (.aload_n 0, 1) := by decide +kernel
theorem dX8_layOne_24 : decode cX8_layOne 24 = .ok (.bipush 21, 2) := by decide +kernel
theorem dX8_layOne_26 : decode cX8_layOne 26 = .ok (.iload_n 2, 1) := by decide +kernel
theorem dX8_layOne_27 : decode cX8_layOne 27 = .ok (.iadd, 1) := by decide +kernel
theorem dX8_layOne_28 : decode cX8_layOne 28 = .ok (.iload_n 3, 1) := by decide +kernel
theorem dX8_layOne_29 : decode cX8_layOne 29 = .ok (.iconst 1, 1) := by decide +kernel
theorem dX8_layOne_30 : decode cX8_layOne 30 = .ok (.aload_n 0, 1) := by decide +kernel
theorem dX8_layOne_31 : decode cX8_layOne 31 = .ok (.bipush 9, 2) := by decide +kernel
theorem dX8_layOne_33 : decode cX8_layOne 33 = .ok (.iload_n 2, 1) := by decide +kernel
theorem dX8_layOne_34 : decode cX8_layOne 34 = .ok (.iadd, 1) := by decide +kernel
theorem dX8_layOne_35 : decode cX8_layOne 35 = .ok (.invokevirtual 221, 3) := by decide +kernel
theorem dX8_layOne_38 : decode cX8_layOne 38 = .ok (.isub, 1) := by decide +kernel
theorem dX8_layOne_39 : decode cX8_layOne 39 = .ok (.if_icmp .ge 16, 3) := by decide +kernel
theorem dX8_layOne_42 : decode cX8_layOne 42 = .ok (.iconst 1, 1) := by decide +kernel
theorem dX8_layOne_43 : decode cX8_layOne 43 = .ok (.aload_n 0, 1) := by decide +kernel
theorem dX8_layOne_44 : decode cX8_layOne 44 = .ok (.bipush 9, 2) := by decide +kernel
theorem dX8_layOne_46 : decode cX8_layOne 46 = .ok (.iload_n 2, 1) := by decide +kernel
theorem dX8_layOne_47 : decode cX8_layOne 47 = .ok (.iadd, 1) := by decide +kernel
theorem dX8_layOne_48 : decode cX8_layOne 48 = .ok (.invokevirtual 221, 3) := by decide +kernel
theorem dX8_layOne_51 : decode cX8_layOne 51 = .ok (.isub, 1) := by decide +kernel
theorem dX8_layOne_52 : decode cX8_layOne 52 = .ok (.goto 4, 3) := by decide +kernel
theorem dX8_layOne_55 : decode cX8_layOne 55 = .ok (.iload_n 3, 1) := by decide +kernel
theorem dX8_layOne_56 : decode cX8_layOne 56 = .ok (.invokevirtual 119, 3) := by decide +kernel
theorem dX8_layOne_59 : decode cX8_layOne 59 = .ok (.aload_n 0, 1) := by decide +kernel
theorem dX8_layOne_60 : decode cX8_layOne 60 = .ok (.bipush 33, 2) := by decide +kernel
theorem dX8_layOne_62 : decode cX8_layOne 62 = .ok (.iload_n 2, 1) := by decide +kernel
theorem dX8_layOne_63 : decode cX8_layOne 63 = .ok (.iadd, 1) := by decide +kernel
theorem dX8_layOne_64 : decode cX8_layOne 64 = .ok (.aload_n 0, 1) := by decide +kernel
theorem dX8_layOne_65 : decode cX8_layOne 65 = .ok (.bipush 9, 2) := by decide +kernel
theorem dX8_layOne_67 : decode cX8_layOne 67 = .ok (.iload_n 2, 1) := by decide +kernel
theorem dX8_layOne_68 : decode cX8_layOne 68 = .ok (.iadd, 1) := by decide +kernel
theorem dX8_layOne_69 : decode cX8_layOne 69 = .ok (.invokevirtual 221, 3) := by decide +kernel
theorem dX8_layOne_72 : decode cX8_layOne 72 = .ok (.invokevirtual 119, 3) := by decide +kernel
theorem dX8_layOne_75 : decode cX8_layOne 75 = .ok (.aload_n 0, 1) := by decide +kernel
theorem dX8_layOne_76 : decode cX8_layOne 76 = .ok (.bipush 45, 2) := by decide +kernel
theorem dX8_layOne_78 : decode cX8_layOne 78 = .ok (.iload_n 2, 1) := by decide +kernel
theorem dX8_layOne_79 : decode cX8_layOne 79 = .ok (.iadd, 1) := by decide +kernel
theorem dX8_layOne_80 : decode cX8_layOne 80 = .ok (.iconst (-1), 1) := by decide +kernel
theorem dX8_layOne_81 : decode cX8_layOne 81 = .ok (.invokevirtual 119, 3) := by decide +kernel
theorem dX8_layOne_84 : decode cX8_layOne 84 = .ok (.iinc 2 1, 3) := by decide +kernel
theorem dX8_layOne_87 : decode cX8_layOne 87 = .ok (.goto (-85), 3) := by decide +kernel
theorem dX8_layOne_90 : decode cX8_layOne 90 = .ok (.return_, 1) := by decide +kernel
theorem dX8_crowd_0 : decode cX8_crowd 0 = .ok (.aload_n 0, 1) := by decide +kernel
theorem dX8_crowd_1 : decode cX8_crowd 1 = .ok (.invokevirtual 356, 3) := by decide +kernel
theorem dX8_crowd_4 : decode cX8_crowd 4 = .ok (.ifCond .eq 47, 3) := by decide +kernel
theorem dX8_crowd_7 : decode cX8_crowd 7 = .ok (.iload_n 2, 1) := by decide +kernel
theorem dX8_crowd_8 : decode cX8_crowd 8 = .ok (.iconst 1, 1) := by decide +kernel
theorem dX8_crowd_9 : decode cX8_crowd 9 = .ok (.bipush 20, 2) := by decide +kernel
theorem dX8_crowd_11 : decode cX8_crowd 11 = .ok (.invokestatic 129, 3) := by decide +kernel
theorem dX8_crowd_14 : decode cX8_crowd 14 = .ok (.ifCond .eq 37, 3) := by decide +kernel
theorem dX8_crowd_17 : decode cX8_crowd 17 = .ok (.iload_n 3, 1) := by decide +kernel
theorem dX8_crowd_18 : decode cX8_crowd 18 = .ok (.iconst 0, 1) := by decide +kernel
theorem dX8_crowd_19 : decode cX8_crowd 19 = .ok (.bipush 99, 2) := by decide +kernel
theorem dX8_crowd_21 : decode cX8_crowd 21 = .ok (.invokestatic 129, 3) := by decide +kernel
theorem dX8_crowd_24 : decode cX8_crowd 24 = .ok (.ifCond .eq 27, 3) := by decide +kernel
theorem dX8_crowd_27 : decode cX8_crowd 27 = .ok (.iload 4, 2) := by decide +kernel
theorem dX8_crowd_29 : decode cX8_crowd 29 = .ok (.iconst 1, 1) := by decide +kernel
theorem dX8_crowd_30 : decode cX8_crowd 30 = .ok (.aload_n 0, 1) := by decide +kernel
theorem dX8_crowd_31 : decode cX8_crowd 31 = .ok (.iconst 0, 1) := by decide +kernel
theorem dX8_crowd_32 : decode cX8_crowd 32 = .ok (.invokevirtual 221, 3) := by decide +kernel
theorem dX8_crowd_35 : decode cX8_crowd 35 = .ok (.invokestatic 129, 3) := by decide +kernel
theorem dX8_crowd_38 : decode cX8_crowd 38 = .ok (.ifCond .eq 13, 3) := by decide +kernel
theorem dX8_crowd_41 : decode cX8_crowd 41 = .ok (.iload 5, 2) := by decide +kernel
theorem dX8_crowd_43 : decode cX8_crowd 43 = .ok (.iconst 0, 1) := by decide +kernel
theorem dX8_crowd_44 : decode cX8_crowd 44 = .ok (.iconst 2, 1) := by decide +kernel
theorem dX8_crowd_45 : decode cX8_crowd 45 = .ok (.invokestatic 129, 3) := by decide +kernel
theorem dX8_crowd_48 : decode cX8_crowd 48 = .ok (.ifCond .ne 5, 3) := by decide +kernel
theorem dX8_crowd_51 : decode cX8_crowd 51 = .ok (.iconst (-1), 1) := by decide +kernel
theorem dX8_crowd_52 : decode cX8_crowd 52 = .ok (.ireturn, 1) := by decide +kernel
theorem dX8_crowd_53 : decode cX8_crowd 53 = .ok (.aload_n 0, 1) := by decide +kernel
theorem dX8_crowd_54 : decode cX8_crowd 54 = .ok (.invokevirtual 359, 3) := by decide +kernel
theorem dX8_crowd_57 : decode cX8_crowd 57 = .ok (.aload_n 0, 1) := by decide +kernel
theorem dX8_crowd_58 : decode cX8_crowd 58 = .ok (.bipush 6, 2) := by decide +kernel
theorem dX8_crowd_60 : decode cX8_crowd 60 = .ok (.iload_n 1, 1) := by decide +kernel
theorem dX8_crowd_61 : decode cX8_crowd 61 = .ok (.invokevirtual 119, 3) := by decide +kernel
theorem dX8_crowd_64 : decode cX8_crowd 64 = .ok (.iconst 0, 1) := by decide +kernel
theorem dX8_crowd_65 : decode cX8_crowd 65 = .ok (.istore 6, 2) := by decide +kernel
theorem dX8_crowd_67 : decode cX8_crowd 67 = .ok (.iconst 0, 1) := by decide +kernel
theorem dX8_crowd_68 : decode cX8_crowd 68 = .ok (.istore 7, 2) := by decide +kernel
theorem dX8_crowd_70 : decode cX8_crowd 70 = .ok (.iload 7, 2) := by decide +kernel
theorem dX8_crowd_72 : decode cX8_crowd 72 = .ok (.iload_n 2, 1) := by decide +kernel
theorem dX8_crowd_73 : decode cX8_crowd 73 = .ok (.if_icmp .ge 95, 3) := by decide +kernel
theorem dX8_crowd_76 : decode cX8_crowd 76 = .ok (.aload_n 0, 1) := by decide +kernel
theorem dX8_crowd_77 : decode cX8_crowd 77 = .ok (.iload_n 3, 1) := by decide +kernel
theorem dX8_crowd_78 : decode cX8_crowd 78 = .ok (.invokevirtual 362, 3) := by decide +kernel
theorem dX8_crowd_81 : decode cX8_crowd 81 = .ok (.aload_n 0, 1) := by decide +kernel
theorem dX8_crowd_82 : decode cX8_crowd 82 = .ok (.invokevirtual 365, 3) := by decide +kernel
theorem dX8_crowd_85 : decode cX8_crowd 85 = .ok (.ifCond .ne 7, 3) := by decide +kernel
theorem dX8_crowd_88 : decode cX8_crowd 88 = .ok (.iconst 1, 1) := by decide +kernel
theorem dX8_crowd_89 : decode cX8_crowd 89 = .ok (.goto 4, 3) := by decide +kernel
theorem dX8_crowd_92 : decode cX8_crowd 92 = .ok (.iconst 0, 1) := by decide +kernel
theorem dX8_crowd_93 : decode cX8_crowd 93 = .ok (.istore 8, 2) := by decide +kernel
theorem dX8_crowd_95 : decode cX8_crowd 95 = .ok (.aload_n 0, 1) := by decide +kernel
theorem dX8_crowd_96 : decode cX8_crowd 96 = .ok (.iload 4, 2) := by decide +kernel
theorem dX8_crowd_98 : decode cX8_crowd 98 = .ok (.invokevirtual 368, 3) := by decide +kernel
theorem dX8_crowd_101 : decode cX8_crowd 101 = .ok (.aload_n 0, 1) := by decide +kernel
theorem dX8_crowd_102 : decode cX8_crowd 102 = .ok (.invokevirtual 365, 3) := by decide +kernel
theorem dX8_crowd_105 : decode cX8_crowd 105 = .ok (.ifCond .ne 7, 3) := by decide +kernel
theorem dX8_crowd_108 : decode cX8_crowd 108 = .ok (.iconst 1, 1) := by decide +kernel
theorem dX8_crowd_109 : decode cX8_crowd 109 = .ok (.goto 4, 3) := by decide +kernel
theorem dX8_crowd_112 : decode cX8_crowd 112 = .ok (.iconst 0, 1) := by decide +kernel
theorem dX8_crowd_113 : decode cX8_crowd 113 = .ok (.istore 9, 2) := by decide +kernel
theorem dX8_crowd_115 : decode cX8_crowd 115 = .ok (.iload 6, 2) := by decide +kernel
theorem dX8_crowd_117 : decode cX8_crowd 117 = .ok (.iload 5, 2) := by decide +kernel
theorem dX8_crowd_119 : decode cX8_crowd 119 = .ok (.ifCond .ne 11, 3) := by decide +kernel
theorem dX8_crowd_122 : decode cX8_crowd 122 = .ok (.iload 8, 2) := by decide +kernel
theorem dX8_crowd_124 : decode cX8_crowd 124 = .ok (.ifCond .eq 34, 3) := by decide +kernel
theorem dX8_crowd_127 : decode cX8_crowd 127 = .ok (.goto 27, 3) := by decide +kernel
theorem dX8_crowd_130 : decode cX8_crowd 130 = .ok (.iload 5, 2) := by decide +kernel
theorem dX8_crowd_132 : decode cX8_crowd 132 = .ok (.iconst 1, 1) := by decide +kernel
theorem dX8_crowd_133 : decode cX8_crowd 133 = .ok (.if_icmp .ne 11, 3) := by decide +kernel
theorem dX8_crowd_136 : decode cX8_crowd 136 = .ok (.iload 9, 2) := by decide +kernel
theorem dX8_crowd_138 : decode cX8_crowd 138 = .ok (.ifCond .eq 20, 3) := by decide +kernel
theorem dX8_crowd_141 : decode cX8_crowd 141 = .ok (.goto 13, 3) := by decide +kernel
theorem dX8_crowd_144 : decode cX8_crowd 144 = .ok (.iload 9, 2) := by decide +kernel
theorem dX8_crowd_146 : decode cX8_crowd 146 = .ok (.ifCond .eq 12, 3) := by decide +kernel
theorem dX8_crowd_149 : decode cX8_crowd 149 = .ok (.iload 8, 2) := by decide +kernel
theorem dX8_crowd_151 : decode cX8_crowd 151 = .ok (.ifCond .ne 7, 3) := by decide +kernel
theorem dX8_crowd_154 : decode cX8_crowd 154 = .ok (.iconst 1, 1) := by decide +kernel
theorem dX8_crowd_155 : decode cX8_crowd 155 = .ok (.goto 4, 3) := by decide +kernel
theorem dX8_crowd_158 : decode cX8_crowd 158 = .ok (.iconst 0, 1) := by decide +kernel
theorem dX8_crowd_159 : decode cX8_crowd 159 = .ok (.iadd, 1) := by decide +kernel
theorem dX8_crowd_160 : decode cX8_crowd 160 = .ok (.istore 6, 2) := by decide +kernel
theorem dX8_crowd_162 : decode cX8_crowd 162 = .ok (.iinc 7 1, 3) := by decide +kernel
theorem dX8_crowd_165 : decode cX8_crowd 165 = .ok (.goto (-95), 3) := by decide +kernel
theorem dX8_crowd_168 : decode cX8_crowd 168 = .ok (.aload_n 0, 1) := by decide +kernel
theorem dX8_crowd_169 : decode cX8_crowd 169 = .ok (.invokevirtual 371, 3) := by decide +kernel
theorem dX8_crowd_172 : decode cX8_crowd 172 = .ok (.iload 6, 2) := by decide +kernel
theorem dX8_crowd_174 : decode cX8_crowd 174 = .ok (.ireturn, 1) := by decide +kernel
theorem dX8_layDrawn_0 : decode cX8_layDrawn 0 = .ok (.iconst 0, 1) := by decide +kernel
theorem dX8_layDrawn_1 : decode cX8_layDrawn 1 = .ok (.istore_n 3, 1) := by decide +kernel
theorem dX8_layDrawn_2 : decode cX8_layDrawn 2 = .ok (.iconst 0, 1) := by decide +kernel
theorem dX8_layDrawn_3 : decode cX8_layDrawn 3 = .ok (.istore 4, 2) := by decide +kernel
theorem dX8_layDrawn_5 : decode cX8_layDrawn 5 = .ok (.iload 4, 2) := by decide +kernel
theorem dX8_layDrawn_7 : decode cX8_layDrawn 7 = .ok (.iload_n 1, 1) := by decide +kernel
theorem dX8_layDrawn_8 : decode cX8_layDrawn 8 = .ok (.if_icmp .ge 34, 3) := by decide +kernel
theorem dX8_layDrawn_11 : decode cX8_layDrawn 11 = .ok (.aload_n 0, 1) := by decide +kernel
theorem dX8_layDrawn_12 : decode cX8_layDrawn 12 = .ok (.getfield 95, 3) := by decide +kernel
theorem dX8_layDrawn_15 : decode cX8_layDrawn 15 = .ok (.iload 4, 2) := by decide +kernel
theorem dX8_layDrawn_17 : decode cX8_layDrawn 17 = .ok (.iconst 1, 1) := by decide +kernel
theorem dX8_layDrawn_18 : decode cX8_layDrawn 18 = .ok (.iload_n 2, 1) := by decide +kernel
theorem dX8_layDrawn_19 : decode cX8_layDrawn 19 = .ok (.iload_n 3, 1) := by decide +kernel
theorem dX8_layDrawn_20 : decode cX8_layDrawn 20 = .ok (.imul, 1) := by decide +kernel
theorem dX8_layDrawn_21 : decode cX8_layDrawn 21 = .ok (.bipush 100, 2) := by decide +kernel
theorem dX8_layDrawn_23 : decode cX8_layDrawn 23 = .ok (.idiv, 1) := by decide +kernel
theorem dX8_layDrawn_24 : decode cX8_layDrawn 24 = .ok (.iadd, 1) := by decide +kernel
theorem dX8_layDrawn_25 : decode cX8_layDrawn 25 = .ok (.iastore, 1) := by decide +kernel
theorem dX8_layDrawn_26 : decode cX8_layDrawn 26 = .ok (.iload_n 3, 1) := by decide +kernel
theorem dX8_layDrawn_27 : decode cX8_layDrawn 27 = .ok (.aload_n 0, 1) := by decide +kernel
theorem dX8_layDrawn_28 : decode cX8_layDrawn 28 = .ok (.getfield 95, 3) := by decide +kernel
theorem dX8_layDrawn_31 : decode cX8_layDrawn 31 = .ok (.iload 4, 2) := by decide +kernel
theorem dX8_layDrawn_33 : decode cX8_layDrawn 33 = .ok (.iaload, 1) := by decide +kernel
theorem dX8_layDrawn_34 : decode cX8_layDrawn 34 = .ok (.iadd, 1) := by decide +kernel
theorem dX8_layDrawn_35 : decode cX8_layDrawn 35 = .ok (.istore_n 3, 1) := by decide +kernel
theorem dX8_layDrawn_36 : decode cX8_layDrawn 36 = .ok (.iinc 4 1, 3) := by decide +kernel
theorem dX8_layDrawn_39 : decode cX8_layDrawn 39 = .ok (.goto (-34), 3) := by decide +kernel
theorem dX8_layDrawn_42 : decode cX8_layDrawn 42 = .ok (.iload_n 3, 1) := by decide +kernel
theorem dX8_layDrawn_43 : decode cX8_layDrawn 43 = .ok (.ireturn, 1) := by decide +kernel
theorem dX8_isWide_0 : decode cX8_isWide 0 = .ok (.iload_n 0, 1) := by decide +kernel
theorem dX8_isWide_1 : decode cX8_isWide 1 = .ok (.iconst 2, 1) := by decide +kernel
theorem dX8_isWide_2 : decode cX8_isWide 2 = .ok (.bipush 12, 2) := by decide +kernel
theorem dX8_isWide_4 : decode cX8_isWide 4 = .ok (.invokestatic 129, 3) := by decide +kernel
theorem dX8_isWide_7 : decode cX8_isWide 7 = .ok (.ireturn, 1) := by decide +kernel
theorem dX8_isPart_0 : decode cX8_isPart 0 = .ok (.iload_n 0, 1) := by decide +kernel
theorem dX8_isPart_1 : decode cX8_isPart 1 = .ok (.iconst 0, 1) := by decide +kernel
theorem dX8_isPart_2 : decode cX8_isPart 2 = .ok (.bipush 100, 2) := by decide +kernel
theorem dX8_isPart_4 : decode cX8_isPart 4 = .ok (.invokestatic 129, 3) := by decide +kernel
theorem dX8_isPart_7 : decode cX8_isPart 7 = .ok (.ireturn, 1) := by decide +kernel
theorem dX8_isReach_0 : decode cX8_isReach 0 = .ok (.iload_n 0, 1) := by decide +kernel
theorem dX8_isReach_1 : decode cX8_isReach 1 = .ok (.iconst 1, 1) := by decide +kernel
theorem dX8_isReach_2 : decode cX8_isReach 2 = .ok (.sipush 4095, 3) := by decide +kernel
theorem dX8_isReach_5 : decode cX8_isReach 5 = .ok (.invokestatic 129, 3) := by decide +kernel
theorem dX8_isReach_8 : decode cX8_isReach 8 = .ok (.ireturn, 1) := by decide +kernel
theorem dX8_drawn_0 : decode cX8_drawn 0 = .ok (.iload_n 1, 1) := by decide +kernel
theorem dX8_drawn_1 : decode cX8_drawn 1 = .ok (.invokestatic 374, 3) := by decide +kernel
theorem dX8_drawn_4 : decode cX8_drawn 4 = .ok (.ifCond .eq 32, 3) := by decide +kernel
