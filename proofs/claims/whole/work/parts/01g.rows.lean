theorem dX8_letterOf_3 : decode cX8_letterOf 3 = .ok (.if_icmp .ne 7, 3) := by decide +kernel
theorem dX8_letterOf_6 : decode cX8_letterOf 6 = .ok (.iconst 0, 1) := by decide +kernel
theorem dX8_letterOf_7 : decode cX8_letterOf 7 = .ok (.goto 44, 3) := by decide +kernel
theorem dX8_letterOf_10 : decode cX8_letterOf 10 = .ok (.iload_n 0, 1) := by decide +kernel
theorem dX8_letterOf_11 : decode cX8_letterOf 11 = .ok (.bipush 115, 2) := by decide +kernel
theorem dX8_letterOf_13 : decode cX8_letterOf 13 = .ok (.if_icmp .ne 7, 3) := by decide +kernel
theorem dX8_letterOf_16 : decode cX8_letterOf 16 = .ok (.iconst 1, 1) := by decide +kernel
theorem dX8_letterOf_17 : decode cX8_letterOf 17 = .ok (.goto 34, 3) := by decide +kernel
theorem dX8_letterOf_20 : decode cX8_letterOf 20 = .ok (.iload_n 0, 1) := by decide +kernel
theorem dX8_letterOf_21 : decode cX8_letterOf 21 = .ok (.bipush 119, 2) := by decide +kernel
theorem dX8_letterOf_23 : decode cX8_letterOf 23 = .ok (.if_icmp .ne 7, 3) := by decide +kernel
theorem dX8_letterOf_26 : decode cX8_letterOf 26 = .ok (.iconst 2, 1) := by decide +kernel
theorem dX8_letterOf_27 : decode cX8_letterOf 27 = .ok (.goto 24, 3) := by decide +kernel
theorem dX8_letterOf_30 : decode cX8_letterOf 30 = .ok (.iload_n 0, 1) := by decide +kernel
theorem dX8_letterOf_31 : decode cX8_letterOf 31 = .ok (.bipush 104, 2) := by decide +kernel
theorem dX8_letterOf_33 : decode cX8_letterOf 33 = .ok (.if_icmp .ne 7, 3) := by decide +kernel
theorem dX8_letterOf_36 : decode cX8_letterOf 36 = .ok (.iconst 3, 1) := by decide +kernel
theorem dX8_letterOf_37 : decode cX8_letterOf 37 = .ok (.goto 14, 3) := by decide +kernel
theorem dX8_letterOf_40 : decode cX8_letterOf 40 = .ok (.iload_n 0, 1) := by decide +kernel
theorem dX8_letterOf_41 : decode cX8_letterOf 41 = .ok (.bipush 116, 2) := by decide +kernel
theorem dX8_letterOf_43 : decode cX8_letterOf 43 = .ok (.if_icmp .ne 7, 3) := by decide +kernel
theorem dX8_letterOf_46 : decode cX8_letterOf 46 = .ok (.iconst 4, 1) := by decide +kernel
theorem dX8_letterOf_47 : decode cX8_letterOf 47 = .ok (.goto 4, 3) := by decide +kernel
theorem dX8_letterOf_50 : decode cX8_letterOf 50 = .ok (.iconst (-1), 1) := by decide +kernel
theorem dX8_letterOf_51 : decode cX8_letterOf 51 = .ok (.ireturn, 1) := by decide +kernel
theorem dX8_readThing_0 : decode cX8_readThing 0 = .ok (.aload_n 0, 1) := by decide +kernel
theorem dX8_readThing_1 : decode cX8_readThing 1 = .ok (.invokevirtual 136, 3) := by decide +kernel
theorem dX8_readThing_4 : decode cX8_readThing 4 = .ok (.istore_n 1, 1) := by decide +kernel
theorem dX8_readThing_5 : decode cX8_readThing 5 = .ok (.iload_n 1, 1) := by decide +kernel
theorem dX8_readThing_6 : decode cX8_readThing 6 = .ok (.invokestatic 140, 3) := by decide +kernel
theorem dX8_readThing_9 : decode cX8_readThing 9 = .ok (.ifCond .ne 29, 3) := by decide +kernel
theorem dX8_readThing_12 : decode cX8_readThing 12 = .ok (.iload_n 1, 1) := by decide +kernel
theorem dX8_readThing_13 : decode cX8_readThing 13 = .ok (.invokestatic 191, 3) := by decide +kernel
theorem dX8_readThing_16 : decode cX8_readThing 16 = .ok (.iconst (-1), 1) := by decide +kernel
theorem dX8_readThing_17 : decode cX8_readThing 17 = .ok (.if_icmp .ne 21, 3) := by decide +kernel
theorem dX8_readThing_20 : decode cX8_readThing 20 = .ok (.iload_n 1, 1) := by decide +kernel
theorem dX8_readThing_21 : decode cX8_readThing 21 = .ok (.bipush 40, 2) := by decide +kernel
theorem dX8_readThing_23 : decode cX8_readThing 23 = .ok (.if_icmp .eq 15, 3) := by decide +kernel
theorem dX8_readThing_26 : decode cX8_readThing 26 = .ok (.iload_n 1, 1) := by decide +kernel
theorem dX8_readThing_27 : decode cX8_readThing 27 = .ok (.bipush 91, 2) := by decide +kernel
theorem dX8_readThing_29 : decode cX8_readThing 29 = .ok (.if_icmp .eq 9, 3) := by decide +kernel
theorem dX8_readThing_32 : decode cX8_readThing 32 = .ok (.iload_n 1, 1) := by decide +kernel
theorem dX8_readThing_33 : decode cX8_readThing 33 = .ok (.bipush 45, 2) := by decide +kernel
theorem dX8_readThing_35 : decode cX8_readThing 35 = .ok (.if_icmp .ne 7, 3) := by decide +kernel
theorem dX8_readThing_38 : decode cX8_readThing 38 = .ok (.iconst 1, 1) := by decide +kernel
theorem dX8_readThing_39 : decode cX8_readThing 39 = .ok (.goto 4, 3) := by decide +kernel
theorem dX8_readThing_42 : decode cX8_readThing 42 = .ok (.iconst 0, 1) := by decide +kernel
theorem dX8_readThing_43 : decode cX8_readThing 43 = .ok (.istore_n 2, 1) := by decide +kernel
theorem dX8_readThing_44 : decode cX8_readThing 44 = .ok (.iload_n 2, 1) := by decide +kernel
theorem dX8_readThing_45 : decode cX8_readThing 45 = .ok (.ifCond .eq 21, 3) := by decide +kernel
theorem dX8_readThing_48 : decode cX8_readThing 48 = .ok (.aload_n 0, 1) := by decide +kernel
theorem dX8_readThing_49 : decode cX8_readThing 49 = .ok (.getfield 194, 3) := by decide +kernel
theorem dX8_readThing_52 : decode cX8_readThing 52 = .ok (.bipush 40, 2) := by decide +kernel
theorem dX8_readThing_54 : decode cX8_readThing 54 = .ok (.if_icmp .eq 12, 3) := by decide +kernel
theorem dX8_readThing_57 : decode cX8_readThing 57 = .ok (.aload_n 0, 1) := by decide +kernel
theorem dX8_readThing_58 : decode cX8_readThing 58 = .ok (.getfield 188, 3) := by decide +kernel
theorem dX8_readThing_61 : decode cX8_readThing 61 = .ok (.bipush 8, 2) := by decide +kernel
theorem dX8_readThing_63 : decode cX8_readThing 63 = .ok (.if_icmp .ne 13, 3) := by decide +kernel
theorem dX8_readThing_66 : decode cX8_readThing 66 = .ok (.aload_n 0, 1) := by decide +kernel
theorem dX8_readThing_67 : decode cX8_readThing 67 = .ok (.aload_n 0, 1) := by decide +kernel
theorem dX8_readThing_68 : decode cX8_readThing 68 = .ok (.getfield 133, 3) := by decide +kernel
theorem dX8_readThing_71 : decode cX8_readThing 71 = .ok (.putfield 25, 3) := by decide +kernel
theorem dX8_readThing_74 : decode cX8_readThing 74 = .ok (.iconst (-1), 1) := by decide +kernel
theorem dX8_readThing_75 : decode cX8_readThing 75 = .ok (.ireturn, 1) := by decide +kernel
theorem dX8_readThing_76 : decode cX8_readThing 76 = .ok (.aload_n 0, 1) := by decide +kernel
theorem dX8_readThing_77 : decode cX8_readThing 77 = .ok (.dup, 1) := by decide +kernel
theorem dX8_readThing_78 : decode cX8_readThing 78 = .ok (.getfield 194, 3) := by decide +kernel
theorem dX8_readThing_81 : decode cX8_readThing 81 = .ok (.iconst 1, 1) := by decide +kernel
theorem dX8_readThing_82 : decode cX8_readThing 82 = .ok (.iadd, 1) := by decide +kernel
theorem dX8_readThing_83 : decode cX8_readThing 83 = .ok (.putfield 194, 3) := by decide +kernel
theorem dX8_readThing_86 : decode cX8_readThing 86 = .ok (.iload_n 1, 1) := by decide +kernel
theorem dX8_readThing_87 : decode cX8_readThing 87 = .ok (.invokestatic 140, 3) := by decide +kernel
theorem dX8_readThing_90 : decode cX8_readThing 90 = .ok (.ifCond .eq 22, 3) := by decide +kernel
theorem dX8_readThing_93 : decode cX8_readThing 93 = .ok (.aload_n 0, 1) := by decide +kernel
theorem dX8_readThing_94 : decode cX8_readThing 94 = .ok (.invokevirtual 150, 3) := by decide +kernel
theorem dX8_readThing_97 : decode cX8_readThing 97 = .ok (.ifCond .ne 5, 3) := by decide +kernel
theorem dX8_readThing_100 : decode cX8_readThing 100 = .ok (.iconst (-1), 1) := by decide +kernel
theorem dX8_readThing_101 : decode cX8_readThing 101 = .ok (.ireturn, 1) := by decide +kernel
theorem dX8_readThing_102 : decode cX8_readThing 102 = .ok (.aload_n 0, 1) := by decide +kernel
theorem dX8_readThing_103 : decode cX8_readThing 103 = .ok (.aload_n 0, 1) := by decide +kernel
theorem dX8_readThing_104 : decode cX8_readThing 104 = .ok (.getfield 147, 3) := by decide +kernel
theorem dX8_readThing_107 : decode cX8_readThing 107 = .ok (.invokevirtual 197, 3) := by decide +kernel
theorem dX8_readThing_110 : decode cX8_readThing 110 = .ok (.iconst 1, 1) := by decide +kernel
theorem dX8_readThing_111 : decode cX8_readThing 111 = .ok (.ireturn, 1) := by decide +kernel
theorem dX8_readThing_112 : decode cX8_readThing 112 = .ok (.aload_n 0, 1) := by decide +kernel
theorem dX8_readThing_113 : decode cX8_readThing 113 = .ok (.dup, 1) := by decide +kernel
theorem dX8_readThing_114 : decode cX8_readThing 114 = .ok (.getfield 133, 3) := by decide +kernel
theorem dX8_readThing_117 : decode cX8_readThing 117 = .ok (.iconst 1, 1) := by decide +kernel
theorem dX8_readThing_118 : decode cX8_readThing 118 = .ok (.iadd, 1) := by decide +kernel
theorem dX8_readThing_119 : decode cX8_readThing 119 = .ok (.putfield 133, 3) := by decide +kernel
theorem dX8_readThing_122 : decode cX8_readThing 122 = .ok (.iload_n 1, 1) := by decide +kernel
theorem dX8_readThing_123 : decode cX8_readThing 123 = .ok (.invokestatic 191, 3) := by decide +kernel
theorem dX8_readThing_126 : decode cX8_readThing 126 = .ok (.iconst (-1), 1) := by decide +kernel
theorem dX8_readThing_127 : decode cX8_readThing 127 = .ok (.if_icmp .eq 17, 3) := by decide +kernel
theorem dX8_readThing_130 : decode cX8_readThing 130 = .ok (.aload_n 0, 1) := by decide +kernel
theorem dX8_readThing_131 : decode cX8_readThing 131 = .ok (.sipush 10000, 3) := by decide +kernel
theorem dX8_readThing_134 : decode cX8_readThing 134 = .ok (.iload_n 1, 1) := by decide +kernel
theorem dX8_readThing_135 : decode cX8_readThing 135 = .ok (.invokestatic 191, 3) := by decide +kernel
theorem dX8_readThing_138 : decode cX8_readThing 138 = .ok (.iadd, 1) := by decide +kernel
theorem dX8_readThing_139 : decode cX8_readThing 139 = .ok (.invokevirtual 197, 3) := by decide +kernel
theorem dX8_readThing_142 : decode cX8_readThing 142 = .ok (.iconst 1, 1) := by decide +kernel
theorem dX8_readThing_143 : decode cX8_readThing 143 = .ok (.ireturn, 1) := by decide +kernel
theorem dX8_readThing_144 : decode cX8_readThing 144 = .ok (.aload_n 0, 1) := by decide +kernel
theorem dX8_readThing_145 : decode cX8_readThing 145 = .ok (.iload_n 1, 1) := by decide +kernel
theorem dX8_readThing_146 : decode cX8_readThing 146 = .ok (.bipush 40, 2) := by decide +kernel
theorem dX8_readThing_148 : decode cX8_readThing 148 = .ok (.if_icmp .ne 7, 3) := by decide +kernel
theorem dX8_readThing_151 : decode cX8_readThing 151 = .ok (.iconst 1, 1) := by decide +kernel
theorem dX8_readThing_152 : decode cX8_readThing 152 = .ok (.goto 14, 3) := by decide +kernel
theorem dX8_readThing_155 : decode cX8_readThing 155 = .ok (.iload_n 1, 1) := by decide +kernel
theorem dX8_readThing_156 : decode cX8_readThing 156 = .ok (.bipush 91, 2) := by decide +kernel
theorem dX8_readThing_158 : decode cX8_readThing 158 = .ok (.if_icmp .ne 7, 3) := by decide +kernel
theorem dX8_readThing_161 : decode cX8_readThing 161 = .ok (.iconst 2, 1) := by decide +kernel
theorem dX8_readThing_162 : decode cX8_readThing 162 = .ok (.goto 4, 3) := by decide +kernel
theorem dX8_readThing_165 : decode cX8_readThing 165 = .ok (.iconst 3, 1) := by decide +kernel
theorem dX8_readThing_166 : decode cX8_readThing 166 = .ok (.invokevirtual 200, 3) := by decide +kernel
theorem dX8_readThing_169 : decode cX8_readThing 169 = .ok (.iconst 0, 1) := by decide +kernel
theorem dX8_readThing_170 : decode cX8_readThing 170 = .ok (.ireturn, 1) := by decide +kernel
theorem dX8_doingOf_0 : decode cX8_doingOf 0 = .ok (.iload_n 0, 1) := by decide +kernel
theorem dX8_doingOf_1 : decode cX8_doingOf 1 = .ok (.bipush 43, 2) := by decide +kernel
theorem dX8_doingOf_3 : decode cX8_doingOf 3 = .ok (.if_icmp .ne 9, 3) := by decide +kernel
theorem dX8_doingOf_6 : decode cX8_doingOf 6 = .ok (.sipush 10010, 3) := by decide +kernel
theorem dX8_doingOf_9 : decode cX8_doingOf 9 = .ok (.goto 42, 3) := by decide +kernel
theorem dX8_doingOf_12 : decode cX8_doingOf 12 = .ok (.iload_n 0, 1) := by decide +kernel
theorem dX8_doingOf_13 : decode cX8_doingOf 13 = .ok (.bipush 45, 2) := by decide +kernel
theorem dX8_doingOf_15 : decode cX8_doingOf 15 = .ok (.if_icmp .ne 9, 3) := by decide +kernel
theorem dX8_doingOf_18 : decode cX8_doingOf 18 = .ok (.sipush 10011, 3) := by decide +kernel
theorem dX8_doingOf_21 : decode cX8_doingOf 21 = .ok (.goto 30, 3) := by decide +kernel
theorem dX8_doingOf_24 : decode cX8_doingOf 24 = .ok (.iload_n 0, 1) := by decide +kernel
theorem dX8_doingOf_25 : decode cX8_doingOf 25 = .ok (.bipush 42, 2) := by decide +kernel
theorem dX8_doingOf_27 : decode cX8_doingOf 27 = .ok (.if_icmp .ne 9, 3) := by decide +kernel
theorem dX8_doingOf_30 : decode cX8_doingOf 30 = .ok (.sipush 10012, 3) := by decide +kernel
theorem dX8_doingOf_33 : decode cX8_doingOf 33 = .ok (.goto 18, 3) := by decide +kernel
theorem dX8_doingOf_36 : decode cX8_doingOf 36 = .ok (.iload_n 0, 1) := by decide +kernel
theorem dX8_doingOf_37 : decode cX8_doingOf 37 = .ok (.bipush 47, 2) := by decide +kernel
theorem dX8_doingOf_39 : decode cX8_doingOf 39 = .ok (.if_icmp .ne 9, 3) := by decide +kernel
theorem dX8_doingOf_42 : decode cX8_doingOf 42 = .ok (.sipush 10013, 3) := by decide +kernel
theorem dX8_doingOf_45 : decode cX8_doingOf 45 = .ok (.goto 6, 3) := by decide +kernel
theorem dX8_doingOf_48 : decode cX8_doingOf 48 = .ok (.sipush 10014, 3) := by decide +kernel
theorem dX8_doingOf_51 : decode cX8_doingOf 51 = .ok (.ireturn, 1) := by decide +kernel
theorem dX8_isOne_0 : decode cX8_isOne 0 = .ok (.aload_n 0, 1) := by decide +kernel
theorem dX8_isOne_1 : decode cX8_isOne 1 = .ok (.invokevirtual 136, 3) := by decide +kernel
theorem dX8_isOne_4 : decode cX8_isOne 4 = .ok (.iload_n 1, 1) := by decide +kernel
theorem dX8_isOne_5 : decode cX8_isOne 5 = .ok (.if_icmp .eq 19, 3) := by decide +kernel
theorem dX8_isOne_8 : decode cX8_isOne 8 = .ok (.aload_n 0, 1) := by decide +kernel
theorem dX8_isOne_9 : decode cX8_isOne 9 = .ok (.invokevirtual 136, 3) := by decide +kernel
theorem dX8_isOne_12 : decode cX8_isOne 12 = .ok (.iload_n 2, 1) := by decide +kernel
theorem dX8_isOne_13 : decode cX8_isOne 13 = .ok (.if_icmp .eq 11, 3) := by decide +kernel
theorem dX8_isOne_16 : decode cX8_isOne 16 = .ok (.aload_n 0, 1) := by decide +kernel
theorem dX8_isOne_17 : decode cX8_isOne 17 = .ok (.invokevirtual 136, 3) := by decide +kernel
theorem dX8_isOne_20 : decode cX8_isOne 20 = .ok (.iload_n 3, 1) := by decide +kernel
theorem dX8_isOne_21 : decode cX8_isOne 21 = .ok (.if_icmp .ne 7, 3) := by decide +kernel
theorem dX8_isOne_24 : decode cX8_isOne 24 = .ok (.iconst 1, 1) := by decide +kernel
theorem dX8_isOne_25 : decode cX8_isOne 25 = .ok (.goto 4, 3) := by decide +kernel
theorem dX8_isOne_28 : decode cX8_isOne 28 = .ok (.iconst 0, 1) := by decide +kernel
theorem dX8_isOne_29 : decode cX8_isOne 29 = .ok (.ireturn, 1) := by decide +kernel
theorem dX8_goesOn_0 : decode cX8_goesOn 0 = .ok (.aload_n 0, 1) := by decide +kernel
theorem dX8_goesOn_1 : decode cX8_goesOn 1 = .ok (.getfield 46, 3) := by decide +kernel
theorem dX8_goesOn_4 : decode cX8_goesOn 4 = .ok (.aload_n 0, 1) := by decide +kernel
theorem dX8_goesOn_5 : decode cX8_goesOn 5 = .ok (.getfield 188, 3) := by decide +kernel
theorem dX8_goesOn_8 : decode cX8_goesOn 8 = .ok (.iaload, 1) := by decide +kernel
theorem dX8_goesOn_9 : decode cX8_goesOn 9 = .ok (.iconst 3, 1) := by decide +kernel
theorem dX8_goesOn_10 : decode cX8_goesOn 10 = .ok (.if_icmp .ne 23, 3) := by decide +kernel
theorem dX8_goesOn_13 : decode cX8_goesOn 13 = .ok (.aload_n 0, 1) := by decide +kernel
theorem dX8_goesOn_14 : decode cX8_goesOn 14 = .ok (.sipush 10015, 3) := by decide +kernel
theorem dX8_goesOn_17 : decode cX8_goesOn 17 = .ok (.invokevirtual 197, 3) := by decide +kernel
theorem dX8_goesOn_20 : decode cX8_goesOn 20 = .ok (.aload_n 0, 1) := by decide +kernel
theorem dX8_goesOn_21 : decode cX8_goesOn 21 = .ok (.dup, 1) := by decide +kernel
theorem dX8_goesOn_22 : decode cX8_goesOn 22 = .ok (.getfield 188, 3) := by decide +kernel
theorem dX8_goesOn_25 : decode cX8_goesOn 25 = .ok (.iconst 1, 1) := by decide +kernel
theorem dX8_goesOn_26 : decode cX8_goesOn 26 = .ok (.isub, 1) := by decide +kernel
theorem dX8_goesOn_27 : decode cX8_goesOn 27 = .ok (.putfield 188, 3) := by decide +kernel
theorem dX8_goesOn_30 : decode cX8_goesOn 30 = .ok (.goto (-30), 3) := by decide +kernel
theorem dX8_goesOn_33 : decode cX8_goesOn 33 = .ok (.aload_n 0, 1) := by decide +kernel
theorem dX8_goesOn_34 : decode cX8_goesOn 34 = .ok (.getfield 188, 3) := by decide +kernel
theorem dX8_goesOn_37 : decode cX8_goesOn 37 = .ok (.istore_n 1, 1) := by decide +kernel
theorem dX8_goesOn_38 : decode cX8_goesOn 38 = .ok (.aload_n 0, 1) := by decide +kernel
theorem dX8_goesOn_39 : decode cX8_goesOn 39 = .ok (.getfield 58, 3) := by decide +kernel
theorem dX8_goesOn_42 : decode cX8_goesOn 42 = .ok (.iload_n 1, 1) := by decide +kernel
theorem dX8_goesOn_43 : decode cX8_goesOn 43 = .ok (.iaload, 1) := by decide +kernel
theorem dX8_goesOn_44 : decode cX8_goesOn 44 = .ok (.ifCond .eq 16, 3) := by decide +kernel
theorem dX8_goesOn_47 : decode cX8_goesOn 47 = .ok (.aload_n 0, 1) := by decide +kernel
theorem dX8_goesOn_48 : decode cX8_goesOn 48 = .ok (.aload_n 0, 1) := by decide +kernel
theorem dX8_goesOn_49 : decode cX8_goesOn 49 = .ok (.getfield 58, 3) := by decide +kernel
theorem dX8_goesOn_52 : decode cX8_goesOn 52 = .ok (.iload_n 1, 1) := by decide +kernel
theorem dX8_goesOn_53 : decode cX8_goesOn 53 = .ok (.iaload, 1) := by decide +kernel
theorem dX8_goesOn_54 : decode cX8_goesOn 54 = .ok (.invokestatic 203, 3) := by decide +kernel
theorem dX8_goesOn_57 : decode cX8_goesOn 57 = .ok (.invokevirtual 197, 3) := by decide +kernel
theorem dX8_goesOn_60 : decode cX8_goesOn 60 = .ok (.aload_n 0, 1) := by decide +kernel
theorem dX8_goesOn_61 : decode cX8_goesOn 61 = .ok (.getfield 58, 3) := by decide +kernel
theorem dX8_goesOn_64 : decode cX8_goesOn 64 = .ok (.iload_n 1, 1) := by decide +kernel
theorem dX8_goesOn_65 : decode cX8_goesOn 65 = .ok (.iconst 0, 1) := by decide +kernel
theorem dX8_goesOn_66 : decode cX8_goesOn 66 = .ok (.iastore, 1) := by decide +kernel
theorem dX8_goesOn_67 : decode cX8_goesOn 67 = .ok (.aload_n 0, 1) := by decide +kernel
theorem dX8_goesOn_68 : decode cX8_goesOn 68 = .ok (.bipush 42, 2) := by decide +kernel
theorem dX8_goesOn_70 : decode cX8_goesOn 70 = .ok (.bipush 47, 2) := by decide +kernel
theorem dX8_goesOn_72 : decode cX8_goesOn 72 = .ok (.bipush 37, 2) := by decide +kernel
theorem dX8_goesOn_74 : decode cX8_goesOn 74 = .ok (.invokevirtual 206, 3) := by decide +kernel
theorem dX8_goesOn_77 : decode cX8_goesOn 77 = .ok (.ifCond .eq 25, 3) := by decide +kernel
theorem dX8_goesOn_80 : decode cX8_goesOn 80 = .ok (.aload_n 0, 1) := by decide +kernel
theorem dX8_goesOn_81 : decode cX8_goesOn 81 = .ok (.getfield 58, 3) := by decide +kernel
theorem dX8_goesOn_84 : decode cX8_goesOn 84 = .ok (.iload_n 1, 1) := by decide +kernel
theorem dX8_goesOn_85 : decode cX8_goesOn 85 = .ok (.aload_n 0, 1) := by decide +kernel
theorem dX8_goesOn_86 : decode cX8_goesOn 86 = .ok (.invokevirtual 136, 3) := by decide +kernel
theorem dX8_goesOn_89 : decode cX8_goesOn 89 = .ok (.iastore, 1) := by decide +kernel
theorem dX8_goesOn_90 : decode cX8_goesOn 90 = .ok (.aload_n 0, 1) := by decide +kernel
theorem dX8_goesOn_91 : decode cX8_goesOn 91 = .ok (.dup, 1) := by decide +kernel
theorem dX8_goesOn_92 : decode cX8_goesOn 92 = .ok (.getfield 133, 3) := by decide +kernel
theorem dX8_goesOn_95 : decode cX8_goesOn 95 = .ok (.iconst 1, 1) := by decide +kernel
theorem dX8_goesOn_96 : decode cX8_goesOn 96 = .ok (.iadd, 1) := by decide +kernel
theorem dX8_goesOn_97 : decode cX8_goesOn 97 = .ok (.putfield 133, 3) := by decide +kernel
theorem dX8_goesOn_100 : decode cX8_goesOn 100 = .ok (.iconst 1, 1) := by decide +kernel
theorem dX8_goesOn_101 : decode cX8_goesOn 101 = .ok (.ireturn, 1) := by decide +kernel
theorem dX8_goesOn_102 : decode cX8_goesOn 102 = .ok (.aload_n 0, 1) := by decide +kernel
theorem dX8_goesOn_103 : decode cX8_goesOn 103 = .ok (.getfield 55, 3) := by decide +kernel
theorem dX8_goesOn_106 : decode cX8_goesOn 106 = .ok (.iload_n 1, 1) := by decide +kernel
theorem dX8_goesOn_107 : decode cX8_goesOn 107 = .ok (.iaload, 1) := by decide +kernel
theorem dX8_goesOn_108 : decode cX8_goesOn 108 = .ok (.ifCond .eq 16, 3) := by decide +kernel
theorem dX8_goesOn_111 : decode cX8_goesOn 111 = .ok (.aload_n 0, 1) := by decide +kernel
theorem dX8_goesOn_112 : decode cX8_goesOn 112 = .ok (.aload_n 0, 1) := by decide +kernel
theorem dX8_goesOn_113 : decode cX8_goesOn 113 = .ok (.getfield 55, 3) := by decide +kernel
theorem dX8_goesOn_116 : decode cX8_goesOn 116 = .ok (.iload_n 1, 1) := by decide +kernel
theorem dX8_goesOn_117 : decode cX8_goesOn 117 = .ok (.iaload, 1) := by decide +kernel
theorem dX8_goesOn_118 : decode cX8_goesOn 118 = .ok (.invokestatic 203, 3) := by decide +kernel
theorem dX8_goesOn_121 : decode cX8_goesOn 121 = .ok (.invokevirtual 197, 3) := by decide +kernel
theorem dX8_goesOn_124 : decode cX8_goesOn 124 = .ok (.aload_n 0, 1) := by decide +kernel
theorem dX8_goesOn_125 : decode cX8_goesOn 125 = .ok (.getfield 55, 3) := by decide +kernel
theorem dX8_goesOn_128 : decode cX8_goesOn 128 = .ok (.iload_n 1, 1) := by decide +kernel
theorem dX8_goesOn_129 : decode cX8_goesOn 129 = .ok (.iconst 0, 1) := by decide +kernel
theorem dX8_goesOn_130 : decode cX8_goesOn 130 = .ok (.iastore, 1) := by decide +kernel
theorem dX8_goesOn_131 : decode cX8_goesOn 131 = .ok (.aload_n 0, 1) := by decide +kernel
theorem dX8_goesOn_132 : decode cX8_goesOn 132 = .ok (.bipush 43, 2) := by decide +kernel
theorem dX8_goesOn_134 : decode cX8_goesOn 134 = .ok (.bipush 45, 2) := by decide +kernel
theorem dX8_goesOn_136 : decode cX8_goesOn 136 = .ok (.bipush 43, 2) := by decide +kernel
theorem dX8_goesOn_138 : decode cX8_goesOn 138 = .ok (.invokevirtual 206, 3) := by decide +kernel
theorem dX8_goesOn_141 : decode cX8_goesOn 141 = .ok (.ifCond .eq 25, 3) := by decide +kernel
theorem dX8_goesOn_144 : decode cX8_goesOn 144 = .ok (.aload_n 0, 1) := by decide +kernel
theorem dX8_goesOn_145 : decode cX8_goesOn 145 = .ok (.getfield 55, 3) := by decide +kernel
theorem dX8_goesOn_148 : decode cX8_goesOn 148 = .ok (.iload_n 1, 1) := by decide +kernel
theorem dX8_goesOn_149 : decode cX8_goesOn 149 = .ok (.aload_n 0, 1) := by decide +kernel
theorem dX8_goesOn_150 : decode cX8_goesOn 150 = .ok (.invokevirtual 136, 3) := by decide +kernel
theorem dX8_goesOn_153 : decode cX8_goesOn 153 = .ok (.iastore, 1) := by decide +kernel
theorem dX8_goesOn_154 : decode cX8_goesOn 154 = .ok (.aload_n 0, 1) := by decide +kernel
theorem dX8_goesOn_155 : decode cX8_goesOn 155 = .ok (.dup, 1) := by decide +kernel
theorem dX8_goesOn_156 : decode cX8_goesOn 156 = .ok (.getfield 133, 3) := by decide +kernel
theorem dX8_goesOn_159 : decode cX8_goesOn 159 = .ok (.iconst 1, 1) := by decide +kernel
theorem dX8_goesOn_160 : decode cX8_goesOn 160 = .ok (.iadd, 1) := by decide +kernel
theorem dX8_goesOn_161 : decode cX8_goesOn 161 = .ok (.putfield 133, 3) := by decide +kernel
theorem dX8_goesOn_164 : decode cX8_goesOn 164 = .ok (.iconst 1, 1) := by decide +kernel
theorem dX8_goesOn_165 : decode cX8_goesOn 165 = .ok (.ireturn, 1) := by decide +kernel
theorem dX8_goesOn_166 : decode cX8_goesOn 166 = .ok (.aload_n 0, 1) := by decide +kernel
theorem dX8_goesOn_167 : decode cX8_goesOn 167 = .ok (.getfield 46, 3) := by decide +kernel
theorem dX8_goesOn_170 : decode cX8_goesOn 170 = .ok (.iload_n 1, 1) := by decide +kernel
theorem dX8_goesOn_171 : decode cX8_goesOn 171 = .ok (.iaload, 1) := by decide +kernel
theorem dX8_goesOn_172 : decode cX8_goesOn 172 = .ok (.ifCond .ne 31, 3) := by decide +kernel
theorem dX8_goesOn_175 : decode cX8_goesOn 175 = .ok (.aload_n 0, 1) := by decide +kernel
theorem dX8_goesOn_176 : decode cX8_goesOn 176 = .ok (.getfield 133, 3) := by decide +kernel
theorem dX8_goesOn_179 : decode cX8_goesOn 179 = .ok (.aload_n 0, 1) := by decide +kernel
theorem dX8_goesOn_180 : decode cX8_goesOn 180 = .ok (.getfield 122, 3) := by decide +kernel
theorem dX8_goesOn_183 : decode cX8_goesOn 183 = .ok (.if_icmp .ge 18, 3) := by decide +kernel
theorem dX8_goesOn_186 : decode cX8_goesOn 186 = .ok (.aload_n 0, 1) := by decide +kernel
theorem dX8_goesOn_187 : decode cX8_goesOn 187 = .ok (.aload_n 0, 1) := by decide +kernel
theorem dX8_goesOn_188 : decode cX8_goesOn 188 = .ok (.getfield 133, 3) := by decide +kernel
theorem dX8_goesOn_191 : decode cX8_goesOn 191 = .ok (.invokevirtual 144, 3) := by decide +kernel
theorem dX8_goesOn_194 : decode cX8_goesOn 194 = .ok (.ifCond .eq 7, 3) := by decide +kernel
theorem dX8_goesOn_197 : decode cX8_goesOn 197 = .ok (.iconst 1, 1) := by decide +kernel
theorem dX8_goesOn_198 : decode cX8_goesOn 198 = .ok (.goto 4, 3) := by decide +kernel
theorem dX8_goesOn_201 : decode cX8_goesOn 201 = .ok (.iconst 0, 1) := by decide +kernel
theorem dX8_goesOn_202 : decode cX8_goesOn 202 = .ok (.ireturn, 1) := by decide +kernel
theorem dX8_goesOn_203 : decode cX8_goesOn 203 = .ok (.aload_n 0, 1) := by decide +kernel
theorem dX8_goesOn_204 : decode cX8_goesOn 204 = .ok (.getfield 46, 3) := by decide +kernel
theorem dX8_goesOn_207 : decode cX8_goesOn 207 = .ok (.iload_n 1, 1) := by decide +kernel
theorem dX8_goesOn_208 : decode cX8_goesOn 208 = .ok (.iaload, 1) := by decide +kernel
theorem dX8_goesOn_209 : decode cX8_goesOn 209 = .ok (.iconst 2, 1) := by decide +kernel
theorem dX8_goesOn_210 : decode cX8_goesOn 210 = .ok (.if_icmp .ne 19, 3) := by decide +kernel
theorem dX8_goesOn_213 : decode cX8_goesOn 213 = .ok (.aload_n 0, 1) := by decide +kernel
theorem dX8_goesOn_214 : decode cX8_goesOn 214 = .ok (.getfield 49, 3) := by decide +kernel
theorem dX8_goesOn_217 : decode cX8_goesOn 217 = .ok (.iload_n 1, 1) := by decide +kernel
theorem dX8_goesOn_218 : decode cX8_goesOn 218 = .ok (.iaload, 1) := by decide +kernel
theorem dX8_goesOn_219 : decode cX8_goesOn 219 = .ok (.iconst 3, 1) := by decide +kernel
theorem dX8_goesOn_220 : decode cX8_goesOn 220 = .ok (.if_icmp .ge 9, 3) := by decide +kernel
theorem dX8_goesOn_223 : decode cX8_goesOn 223 = .ok (.aload_n 0, 1) := by decide +kernel
theorem dX8_goesOn_224 : decode cX8_goesOn 224 = .ok (.iload_n 1, 1) := by decide +kernel
theorem dX8_goesOn_225 : decode cX8_goesOn 225 = .ok (.invokevirtual 209, 3) := by decide +kernel
theorem dX8_goesOn_228 : decode cX8_goesOn 228 = .ok (.ireturn, 1) := by decide +kernel
theorem dX8_goesOn_229 : decode cX8_goesOn 229 = .ok (.aload_n 0, 1) := by decide +kernel
theorem dX8_goesOn_230 : decode cX8_goesOn 230 = .ok (.invokevirtual 136, 3) := by decide +kernel
theorem dX8_goesOn_233 : decode cX8_goesOn 233 = .ok (.aload_n 0, 1) := by decide +kernel
theorem dX8_goesOn_234 : decode cX8_goesOn 234 = .ok (.getfield 46, 3) := by decide +kernel
theorem dX8_goesOn_237 : decode cX8_goesOn 237 = .ok (.iload_n 1, 1) := by decide +kernel
theorem dX8_goesOn_238 : decode cX8_goesOn 238 = .ok (.iaload, 1) := by decide +kernel
theorem dX8_goesOn_239 : decode cX8_goesOn 239 = .ok (.iconst 1, 1) := by decide +kernel
theorem dX8_goesOn_240 : decode cX8_goesOn 240 = .ok (.if_icmp .ne 8, 3) := by decide +kernel
theorem dX8_goesOn_243 : decode cX8_goesOn 243 = .ok (.bipush 41, 2) := by decide +kernel
theorem dX8_goesOn_245 : decode cX8_goesOn 245 = .ok (.goto 5, 3) := by decide +kernel
theorem dX8_goesOn_248 : decode cX8_goesOn 248 = .ok (.bipush 93, 2) := by decide +kernel
theorem dX8_goesOn_250 : decode cX8_goesOn 250 = .ok (.if_icmp .eq 12, 3) := by decide +kernel
theorem dX8_goesOn_253 : decode cX8_goesOn 253 = .ok (.aload_n 0, 1) := by decide +kernel
theorem dX8_goesOn_254 : decode cX8_goesOn 254 = .ok (.aload_n 0, 1) := by decide +kernel
theorem dX8_goesOn_255 : decode cX8_goesOn 255 = .ok (.getfield 133, 3) := by decide +kernel
theorem dX8_goesOn_258 : decode cX8_goesOn 258 = .ok (.invokevirtual 144, 3) := by decide +kernel
theorem dX8_goesOn_261 : decode cX8_goesOn 261 = .ok (.ireturn, 1) := by decide +kernel
theorem dX8_goesOn_262 : decode cX8_goesOn 262 = .ok (.aload_n 0, 1) := by decide +kernel
theorem dX8_goesOn_263 : decode cX8_goesOn 263 = .ok (.dup, 1) := by decide +kernel
theorem dX8_goesOn_264 : decode cX8_goesOn 264 = .ok (.getfield 133, 3) := by decide +kernel
theorem dX8_goesOn_267 : decode cX8_goesOn 267 = .ok (.iconst 1, 1) := by decide +kernel
theorem dX8_goesOn_268 : decode cX8_goesOn 268 = .ok (.iadd, 1) := by decide +kernel
theorem dX8_goesOn_269 : decode cX8_goesOn 269 = .ok (.putfield 133, 3) := by decide +kernel
theorem dX8_goesOn_272 : decode cX8_goesOn 272 = .ok (.aload_n 0, 1) := by decide +kernel
theorem dX8_goesOn_273 : decode cX8_goesOn 273 = .ok (.getfield 46, 3) := by decide +kernel
theorem dX8_goesOn_276 : decode cX8_goesOn 276 = .ok (.iload_n 1, 1) := by decide +kernel
theorem dX8_goesOn_277 : decode cX8_goesOn 277 = .ok (.iaload, 1) := by decide +kernel
theorem dX8_goesOn_278 : decode cX8_goesOn 278 = .ok (.iconst 2, 1) := by decide +kernel
theorem dX8_goesOn_279 : decode cX8_goesOn 279 = .ok (.if_icmp .ne 13, 3) := by decide +kernel
theorem dX8_goesOn_282 : decode cX8_goesOn 282 = .ok (.aload_n 0, 1) := by decide +kernel
theorem dX8_goesOn_283 : decode cX8_goesOn 283 = .ok (.aload_n 0, 1) := by decide +kernel
theorem dX8_goesOn_284 : decode cX8_goesOn 284 = .ok (.getfield 52, 3) := by decide +kernel
theorem dX8_goesOn_287 : decode cX8_goesOn 287 = .ok (.iload_n 1, 1) := by decide +kernel
theorem dX8_goesOn_288 : decode cX8_goesOn 288 = .ok (.iaload, 1) := by decide +kernel
theorem dX8_goesOn_289 : decode cX8_goesOn 289 = .ok (.invokevirtual 197, 3) := by decide +kernel
theorem dX8_goesOn_292 : decode cX8_goesOn 292 = .ok (.aload_n 0, 1) := by decide +kernel
theorem dX8_goesOn_293 : decode cX8_goesOn 293 = .ok (.dup, 1) := by decide +kernel
theorem dX8_goesOn_294 : decode cX8_goesOn 294 = .ok (.getfield 188, 3) := by decide +kernel
theorem dX8_goesOn_297 : decode cX8_goesOn 297 = .ok (.iconst 1, 1) := by decide +kernel
theorem dX8_goesOn_298 : decode cX8_goesOn 298 = .ok (.isub, 1) := by decide +kernel
theorem dX8_goesOn_299 : decode cX8_goesOn 299 = .ok (.putfield 188, 3) := by decide +kernel
theorem dX8_goesOn_302 : decode cX8_goesOn 302 = .ok (.goto (-302), 3) := by decide +kernel
theorem dX8_partsOn_0 : decode cX8_partsOn 0 = .ok (.aload_n 0, 1) := by decide +kernel
theorem dX8_partsOn_1 : decode cX8_partsOn 1 = .ok (.getfield 49, 3) := by decide +kernel
theorem dX8_partsOn_4 : decode cX8_partsOn 4 = .ok (.iload_n 1, 1) := by decide +kernel
theorem dX8_partsOn_5 : decode cX8_partsOn 5 = .ok (.iaload, 1) := by decide +kernel
theorem dX8_partsOn_6 : decode cX8_partsOn 6 = .ok (.ifCond .ne 16, 3) := by decide +kernel
theorem dX8_partsOn_9 : decode cX8_partsOn 9 = .ok (.aload_n 0, 1) := by decide +kernel
theorem dX8_partsOn_10 : decode cX8_partsOn 10 = .ok (.bipush 60, 2) := by decide +kernel
theorem dX8_partsOn_12 : decode cX8_partsOn 12 = .ok (.bipush 61, 2) := by decide +kernel
theorem dX8_partsOn_14 : decode cX8_partsOn 14 = .ok (.bipush 60, 2) := by decide +kernel
theorem dX8_partsOn_16 : decode cX8_partsOn 16 = .ok (.invokevirtual 206, 3) := by decide +kernel
theorem dX8_partsOn_19 : decode cX8_partsOn 19 = .ok (.goto 32, 3) := by decide +kernel
theorem dX8_partsOn_22 : decode cX8_partsOn 22 = .ok (.aload_n 0, 1) := by decide +kernel
theorem dX8_partsOn_23 : decode cX8_partsOn 23 = .ok (.invokevirtual 136, 3) := by decide +kernel
theorem dX8_partsOn_26 : decode cX8_partsOn 26 = .ok (.aload_n 0, 1) := by decide +kernel
theorem dX8_partsOn_27 : decode cX8_partsOn 27 = .ok (.getfield 49, 3) := by decide +kernel
theorem dX8_partsOn_30 : decode cX8_partsOn 30 = .ok (.iload_n 1, 1) := by decide +kernel
theorem dX8_partsOn_31 : decode cX8_partsOn 31 = .ok (.iaload, 1) := by decide +kernel
theorem dX8_partsOn_32 : decode cX8_partsOn 32 = .ok (.iconst 1, 1) := by decide +kernel
theorem dX8_partsOn_33 : decode cX8_partsOn 33 = .ok (.if_icmp .ne 8, 3) := by decide +kernel
theorem dX8_partsOn_36 : decode cX8_partsOn 36 = .ok (.bipush 63, 2) := by decide +kernel
theorem dX8_partsOn_38 : decode cX8_partsOn 38 = .ok (.goto 5, 3) := by decide +kernel
theorem dX8_partsOn_41 : decode cX8_partsOn 41 = .ok (.bipush 58, 2) := by decide +kernel
theorem dX8_partsOn_43 : decode cX8_partsOn 43 = .ok (.if_icmp .ne 7, 3) := by decide +kernel
theorem dX8_partsOn_46 : decode cX8_partsOn 46 = .ok (.iconst 1, 1) := by decide +kernel
theorem dX8_partsOn_47 : decode cX8_partsOn 47 = .ok (.goto 4, 3) := by decide +kernel
theorem dX8_partsOn_50 : decode cX8_partsOn 50 = .ok (.iconst 0, 1) := by decide +kernel
theorem dX8_partsOn_51 : decode cX8_partsOn 51 = .ok (.istore_n 2, 1) := by decide +kernel
theorem dX8_partsOn_52 : decode cX8_partsOn 52 = .ok (.iload_n 2, 1) := by decide +kernel
theorem dX8_partsOn_53 : decode cX8_partsOn 53 = .ok (.ifCond .ne 12, 3) := by decide +kernel
theorem dX8_partsOn_56 : decode cX8_partsOn 56 = .ok (.aload_n 0, 1) := by decide +kernel
theorem dX8_partsOn_57 : decode cX8_partsOn 57 = .ok (.aload_n 0, 1) := by decide +kernel
theorem dX8_partsOn_58 : decode cX8_partsOn 58 = .ok (.getfield 133, 3) := by decide +kernel
theorem dX8_partsOn_61 : decode cX8_partsOn 61 = .ok (.invokevirtual 144, 3) := by decide +kernel
theorem dX8_partsOn_64 : decode cX8_partsOn 64 = .ok (.ireturn, 1) := by decide +kernel
theorem dX8_partsOn_65 : decode cX8_partsOn 65 = .ok (.aload_n 0, 1) := by decide +kernel
theorem dX8_partsOn_66 : decode cX8_partsOn 66 = .ok (.getfield 49, 3) := by decide +kernel
theorem dX8_partsOn_69 : decode cX8_partsOn 69 = .ok (.iload_n 1, 1) := by decide +kernel
theorem dX8_partsOn_70 : decode cX8_partsOn 70 = .ok (.iaload, 1) := by decide +kernel
theorem dX8_partsOn_71 : decode cX8_partsOn 71 = .ok (.ifCond .ne 27, 3) := by decide +kernel
theorem dX8_partsOn_74 : decode cX8_partsOn 74 = .ok (.aload_n 0, 1) := by decide +kernel
theorem dX8_partsOn_75 : decode cX8_partsOn 75 = .ok (.getfield 52, 3) := by decide +kernel
theorem dX8_partsOn_78 : decode cX8_partsOn 78 = .ok (.iload_n 1, 1) := by decide +kernel
theorem dX8_partsOn_79 : decode cX8_partsOn 79 = .ok (.aload_n 0, 1) := by decide +kernel
theorem dX8_partsOn_80 : decode cX8_partsOn 80 = .ok (.invokevirtual 136, 3) := by decide +kernel
theorem dX8_partsOn_83 : decode cX8_partsOn 83 = .ok (.bipush 60, 2) := by decide +kernel
theorem dX8_partsOn_85 : decode cX8_partsOn 85 = .ok (.if_icmp .ne 9, 3) := by decide +kernel
theorem dX8_partsOn_88 : decode cX8_partsOn 88 = .ok (.sipush 10016, 3) := by decide +kernel
theorem dX8_partsOn_91 : decode cX8_partsOn 91 = .ok (.goto 6, 3) := by decide +kernel
theorem dX8_partsOn_94 : decode cX8_partsOn 94 = .ok (.sipush 10017, 3) := by decide +kernel
theorem dX8_partsOn_97 : decode cX8_partsOn 97 = .ok (.iastore, 1) := by decide +kernel
theorem dX8_partsOn_98 : decode cX8_partsOn 98 = .ok (.aload_n 0, 1) := by decide +kernel
theorem dX8_partsOn_99 : decode cX8_partsOn 99 = .ok (.dup, 1) := by decide +kernel
theorem dX8_partsOn_100 : decode cX8_partsOn 100 = .ok (.getfield 133, 3) := by decide +kernel
theorem dX8_partsOn_103 : decode cX8_partsOn 103 = .ok (.iconst 1, 1) := by decide +kernel
theorem dX8_partsOn_104 : decode cX8_partsOn 104 = .ok (.iadd, 1) := by decide +kernel
theorem dX8_partsOn_105 : decode cX8_partsOn 105 = .ok (.putfield 133, 3) := by decide +kernel
theorem dX8_partsOn_108 : decode cX8_partsOn 108 = .ok (.aload_n 0, 1) := by decide +kernel
theorem dX8_partsOn_109 : decode cX8_partsOn 109 = .ok (.getfield 49, 3) := by decide +kernel
theorem dX8_partsOn_112 : decode cX8_partsOn 112 = .ok (.iload_n 1, 1) := by decide +kernel
theorem dX8_partsOn_113 : decode cX8_partsOn 113 = .ok (.dup2, 1) := by decide +kernel
theorem dX8_partsOn_114 : decode cX8_partsOn 114 = .ok (.iaload, 1) := by decide +kernel
theorem dX8_partsOn_115 : decode cX8_partsOn 115 = .ok (.iconst 1, 1) := by decide +kernel
theorem dX8_partsOn_116 : decode cX8_partsOn 116 = .ok (.iadd, 1) := by decide +kernel
theorem dX8_partsOn_117 : decode cX8_partsOn 117 = .ok (.iastore, 1) := by decide +kernel
theorem dX8_partsOn_118 : decode cX8_partsOn 118 = .ok (.iconst 1, 1) := by decide +kernel
theorem dX8_partsOn_119 : decode cX8_partsOn 119 = .ok (.ireturn, 1) := by decide +kernel
theorem dX8_readDrift_0 : decode cX8_readDrift 0 = .ok (.aload_n 0, 1) := by decide +kernel
theorem dX8_readDrift_1 : decode cX8_readDrift 1 = .ok (.iconst 0, 1) := by decide +kernel
theorem dX8_readDrift_2 : decode cX8_readDrift 2 = .ok (.putfield 133, 3) := by decide +kernel
theorem dX8_readDrift_5 : decode cX8_readDrift 5 = .ok (.aload_n 0, 1) := by decide +kernel
theorem dX8_readDrift_6 : decode cX8_readDrift 6 = .ok (.iconst (-1), 1) := by decide +kernel
theorem dX8_readDrift_7 : decode cX8_readDrift 7 = .ok (.putfield 25, 3) := by decide +kernel
theorem dX8_readDrift_10 : decode cX8_readDrift 10 = .ok (.aload_n 0, 1) := by decide +kernel
theorem dX8_readDrift_11 : decode cX8_readDrift 11 = .ok (.iconst 0, 1) := by decide +kernel
theorem dX8_readDrift_12 : decode cX8_readDrift 12 = .ok (.putfield 185, 3) := by decide +kernel
theorem dX8_readDrift_15 : decode cX8_readDrift 15 = .ok (.aload_n 0, 1) := by decide +kernel
theorem dX8_readDrift_16 : decode cX8_readDrift 16 = .ok (.iconst 0, 1) := by decide +kernel
theorem dX8_readDrift_17 : decode cX8_readDrift 17 = .ok (.putfield 194, 3) := by decide +kernel
theorem dX8_readDrift_20 : decode cX8_readDrift 20 = .ok (.aload_n 0, 1) := by decide +kernel
theorem dX8_readDrift_21 : decode cX8_readDrift 21 = .ok (.iconst (-1), 1) := by decide +kernel
theorem dX8_readDrift_22 : decode cX8_readDrift 22 = .ok (.putfield 188, 3) := by decide +kernel
theorem dX8_readDrift_25 : decode cX8_readDrift 25 = .ok (.aload_n 0, 1) := by decide +kernel
theorem dX8_readDrift_26 : decode cX8_readDrift 26 = .ok (.iconst 0, 1) := by decide +kernel
theorem dX8_readDrift_27 : decode cX8_readDrift 27 = .ok (.invokevirtual 200, 3) := by decide +kernel
theorem dX8_readDrift_30 : decode cX8_readDrift 30 = .ok (.aload_n 0, 1) := by decide +kernel
theorem dX8_readDrift_31 : decode cX8_readDrift 31 = .ok (.getfield 122, 3) := by decide +kernel
theorem dX8_readDrift_34 : decode cX8_readDrift 34 = .ok (.ifCond .le 7, 3) := by decide +kernel
theorem dX8_readDrift_37 : decode cX8_readDrift 37 = .ok (.iconst 1, 1) := by decide +kernel
theorem dX8_readDrift_38 : decode cX8_readDrift 38 = .ok (.goto 4, 3) := by decide +kernel
theorem dX8_readDrift_41 : decode cX8_readDrift 41 = .ok (.iconst 0, 1) := by decide +kernel
theorem dX8_readDrift_42 : decode cX8_readDrift 42 = .ok (.istore_n 1, 1) := by decide +kernel
theorem dX8_readDrift_43 : decode cX8_readDrift 43 = .ok (.iload_n 1, 1) := by decide +kernel
theorem dX8_readDrift_44 : decode cX8_readDrift 44 = .ok (.ifCond .eq 35, 3) := by decide +kernel
theorem dX8_readDrift_47 : decode cX8_readDrift 47 = .ok (.aload_n 0, 1) := by decide +kernel
theorem dX8_readDrift_48 : decode cX8_readDrift 48 = .ok (.invokevirtual 212, 3) := by decide +kernel
theorem dX8_readDrift_51 : decode cX8_readDrift 51 = .ok (.istore_n 2, 1) := by decide +kernel
theorem dX8_readDrift_52 : decode cX8_readDrift 52 = .ok (.iload_n 2, 1) := by decide +kernel
theorem dX8_readDrift_53 : decode cX8_readDrift 53 = .ok (.iconst (-1), 1) := by decide +kernel
theorem dX8_readDrift_54 : decode cX8_readDrift 54 = .ok (.if_icmp .ne 5, 3) := by decide +kernel
theorem dX8_readDrift_57 : decode cX8_readDrift 57 = .ok (.iconst 0, 1) := by decide +kernel
theorem dX8_readDrift_58 : decode cX8_readDrift 58 = .ok (.ireturn, 1) := by decide +kernel
theorem dX8_readDrift_59 : decode cX8_readDrift 59 = .ok (.iload_n 2, 1) := by decide +kernel
theorem dX8_readDrift_60 : decode cX8_readDrift 60 = .ok (.ifCond .eq 10, 3) := by decide +kernel
theorem dX8_readDrift_63 : decode cX8_readDrift 63 = .ok (.aload_n 0, 1) := by decide +kernel
theorem dX8_readDrift_64 : decode cX8_readDrift 64 = .ok (.invokevirtual 215, 3) := by decide +kernel
theorem dX8_readDrift_67 : decode cX8_readDrift 67 = .ok (.ifCond .eq 7, 3) := by decide +kernel
theorem dX8_readDrift_70 : decode cX8_readDrift 70 = .ok (.iconst 1, 1) := by decide +kernel
theorem dX8_readDrift_71 : decode cX8_readDrift 71 = .ok (.goto 4, 3) := by decide +kernel
theorem dX8_readDrift_74 : decode cX8_readDrift 74 = .ok (.iconst 0, 1) := by decide +kernel
theorem dX8_readDrift_75 : decode cX8_readDrift 75 = .ok (.istore_n 1, 1) := by decide +kernel
theorem dX8_readDrift_76 : decode cX8_readDrift 76 = .ok (.goto (-33), 3) := by decide +kernel
theorem dX8_readDrift_79 : decode cX8_readDrift 79 = .ok (.aload_n 0, 1) := by decide +kernel
theorem dX8_readDrift_80 : decode cX8_readDrift 80 = .ok (.getfield 25, 3) := by decide +kernel
theorem dX8_readDrift_83 : decode cX8_readDrift 83 = .ok (.iconst (-1), 1) := by decide +kernel
theorem dX8_readDrift_84 : decode cX8_readDrift 84 = .ok (.if_icmp .ne 7, 3) := by decide +kernel
theorem dX8_readDrift_87 : decode cX8_readDrift 87 = .ok (.iconst 1, 1) := by decide +kernel
theorem dX8_readDrift_88 : decode cX8_readDrift 88 = .ok (.goto 4, 3) := by decide +kernel
theorem dX8_readDrift_91 : decode cX8_readDrift 91 = .ok (.iconst 0, 1) := by decide +kernel
theorem dX8_readDrift_92 : decode cX8_readDrift 92 = .ok (.ireturn, 1) := by decide +kernel
theorem dX8_drift_0 : decode cX8_drift 0 = .ok (.aload_n 0, 1) := by decide +kernel
theorem dX8_drift_1 : decode cX8_drift 1 = .ok (.invokevirtual 218, 3) := by decide +kernel
theorem dX8_drift_4 : decode cX8_drift 4 = .ok (.istore_n 1, 1) := by decide +kernel
theorem dX8_drift_5 : decode cX8_drift 5 = .ok (.aload_n 0, 1) := by decide +kernel
theorem dX8_drift_6 : decode cX8_drift 6 = .ok (.iconst 0, 1) := by decide +kernel
theorem dX8_drift_7 : decode cX8_drift 7 = .ok (.putfield 122, 3) := by decide +kernel
theorem dX8_drift_10 : decode cX8_drift 10 = .ok (.iload_n 1, 1) := by decide +kernel
theorem dX8_drift_11 : decode cX8_drift 11 = .ok (.ifCond .ne 5, 3) := by decide +kernel
theorem dX8_drift_14 : decode cX8_drift 14 = .ok (.iconst (-1), 1) := by decide +kernel
theorem dX8_drift_15 : decode cX8_drift 15 = .ok (.ireturn, 1) := by decide +kernel
theorem dX8_drift_16 : decode cX8_drift 16 = .ok (.aload_n 0, 1) := by decide +kernel
theorem dX8_drift_17 : decode cX8_drift 17 = .ok (.bipush 74, 2) := by decide +kernel
theorem dX8_drift_19 : decode cX8_drift 19 = .ok (.aload_n 0, 1) := by decide +kernel
theorem dX8_drift_20 : decode cX8_drift 20 = .ok (.getfield 194, 3) := by decide +kernel
theorem dX8_drift_23 : decode cX8_drift 23 = .ok (.invokevirtual 119, 3) := by decide +kernel
theorem dX8_drift_26 : decode cX8_drift 26 = .ok (.aload_n 0, 1) := by decide +kernel
theorem dX8_drift_27 : decode cX8_drift 27 = .ok (.bipush 75, 2) := by decide +kernel
theorem dX8_drift_29 : decode cX8_drift 29 = .ok (.aload_n 0, 1) := by decide +kernel
theorem dX8_drift_30 : decode cX8_drift 30 = .ok (.getfield 185, 3) := by decide +kernel
theorem dX8_drift_33 : decode cX8_drift 33 = .ok (.invokevirtual 119, 3) := by decide +kernel
theorem dX8_drift_36 : decode cX8_drift 36 = .ok (.iconst 0, 1) := by decide +kernel
theorem dX8_drift_37 : decode cX8_drift 37 = .ok (.istore_n 2, 1) := by decide +kernel
theorem dX8_drift_38 : decode cX8_drift 38 = .ok (.iload_n 2, 1) := by decide +kernel
theorem dX8_drift_39 : decode cX8_drift 39 = .ok (.aload_n 0, 1) := by decide +kernel
theorem dX8_drift_40 : decode cX8_drift 40 = .ok (.getfield 185, 3) := by decide +kernel
theorem dX8_drift_43 : decode cX8_drift 43 = .ok (.if_icmp .ge 23, 3) := by decide +kernel
theorem dX8_drift_46 : decode cX8_drift 46 = .ok (.aload_n 0, 1) := by decide +kernel
theorem dX8_drift_47 : decode cX8_drift 47 = .ok (.bipush 76, 2) := by decide +kernel
theorem dX8_drift_49 : decode cX8_drift 49 = .ok (.iload_n 2, 1) := by decide +kernel
theorem dX8_drift_50 : decode cX8_drift 50 = .ok (.iadd, 1) := by decide +kernel
theorem dX8_drift_51 : decode cX8_drift 51 = .ok (.aload_n 0, 1) := by decide +kernel
theorem dX8_drift_52 : decode cX8_drift 52 = .ok (.getfield 43, 3) := by decide +kernel
theorem dX8_drift_55 : decode cX8_drift 55 = .ok (.iload_n 2, 1) := by decide +kernel
theorem dX8_drift_56 : decode cX8_drift 56 = .ok (.iaload, 1) := by decide +kernel
theorem dX8_drift_57 : decode cX8_drift 57 = .ok (.invokevirtual 119, 3) := by decide +kernel
theorem dX8_drift_60 : decode cX8_drift 60 = .ok (.iinc 2 1, 3) := by decide +kernel
theorem dX8_drift_63 : decode cX8_drift 63 = .ok (.goto (-25), 3) := by decide +kernel
theorem dX8_drift_66 : decode cX8_drift 66 = .ok (.aload_n 0, 1) := by decide +kernel
theorem dX8_drift_67 : decode cX8_drift 67 = .ok (.getfield 194, 3) := by decide +kernel
theorem dX8_drift_70 : decode cX8_drift 70 = .ok (.ireturn, 1) := by decide +kernel
theorem dX8_asked_0 : decode cX8_asked 0 = .ok (.iload_n 1, 1) := by decide +kernel
theorem dX8_asked_1 : decode cX8_asked 1 = .ok (.tableswitch 55 0 3 #[31, 33, 42, 48], 31) := by decide +kernel
theorem dX8_asked_32 : decode cX8_asked 32 = .ok (.iload_n 2, 1) := by decide +kernel
theorem dX8_asked_33 : decode cX8_asked 33 = .ok (.ireturn, 1) := by decide +kernel
theorem dX8_asked_34 : decode cX8_asked 34 = .ok (.aload_n 0, 1) := by decide +kernel
theorem dX8_asked_35 : decode cX8_asked 35 = .ok (.bipush 9, 2) := by decide +kernel
theorem dX8_asked_37 : decode cX8_asked 37 = .ok (.iload_n 2, 1) := by decide +kernel
theorem dX8_asked_38 : decode cX8_asked 38 = .ok (.iadd, 1) := by decide +kernel
theorem dX8_asked_39 : decode cX8_asked 39 = .ok (.invokevirtual 221, 3) := by decide +kernel
theorem dX8_asked_42 : decode cX8_asked 42 = .ok (.ireturn, 1) := by decide +kernel
theorem dX8_asked_43 : decode cX8_asked 43 = .ok (.aload_n 0, 1) := by decide +kernel
theorem dX8_asked_44 : decode cX8_asked 44 = .ok (.iload_n 2, 1) := by decide +kernel
theorem dX8_asked_45 : decode cX8_asked 45 = .ok (.invokevirtual 224, 3) := by decide +kernel
theorem dX8_asked_48 : decode cX8_asked 48 = .ok (.ireturn, 1) := by decide +kernel
theorem dX8_asked_49 : decode cX8_asked 49 = .ok (.aload_n 0, 1) := by decide +kernel
theorem dX8_asked_50 : decode cX8_asked 50 = .ok (.bipush 7, 2) := by decide +kernel
theorem dX8_asked_52 : decode cX8_asked 52 = .ok (.invokevirtual 221, 3) := by decide +kernel
theorem dX8_asked_55 : decode cX8_asked 55 = .ok (.ireturn, 1) := by decide +kernel
theorem dX8_asked_56 : decode cX8_asked 56 = .ok (.aload_n 0, 1) := by decide +kernel
theorem dX8_asked_57 : decode cX8_asked 57 = .ok (.bipush 8, 2) := by decide +kernel
theorem dX8_asked_59 : decode cX8_asked 59 = .ok (.invokevirtual 221, 3) := by decide +kernel
theorem dX8_asked_62 : decode cX8_asked 62 = .ok (.ireturn, 1) := by decide +kernel
theorem dX8_joined_0 : decode cX8_joined 0 = .ok (.iload_n 0, 1) := by decide +kernel
theorem dX8_joined_1 : decode cX8_joined 1 = .ok (.tableswitch 55 10010 10013 #[31, 35, 39, 43], 31) := by decide +kernel
theorem dX8_joined_32 : decode cX8_joined 32 = .ok (.iload_n 1, 1) := by decide +kernel
theorem dX8_joined_33 : decode cX8_joined 33 = .ok (.iload_n 2, 1) := by decide +kernel
theorem dX8_joined_34 : decode cX8_joined 34 = .ok (.iadd, 1) := by decide +kernel
theorem dX8_joined_35 : decode cX8_joined 35 = .ok (.ireturn, 1) := by decide +kernel
theorem dX8_joined_36 : decode cX8_joined 36 = .ok (.iload_n 1, 1) := by decide +kernel
theorem dX8_joined_37 : decode cX8_joined 37 = .ok (.iload_n 2, 1) := by decide +kernel
theorem dX8_joined_38 : decode cX8_joined 38 = .ok (.isub, 1) := by decide +kernel
theorem dX8_joined_39 : decode cX8_joined 39 = .ok (.ireturn, 1) := by decide +kernel
theorem dX8_joined_40 : decode cX8_joined 40 = .ok (.iload_n 1, 1) := by decide +kernel
theorem dX8_joined_41 : decode cX8_joined 41 = .ok (.iload_n 2, 1) := by decide +kernel
theorem dX8_joined_42 : decode cX8_joined 42 = .ok (.imul, 1) := by decide +kernel
theorem dX8_joined_43 : decode cX8_joined 43 = .ok (.ireturn, 1) := by decide +kernel
theorem dX8_joined_44 : decode cX8_joined 44 = .ok (.iload_n 2, 1) := by decide +kernel
theorem dX8_joined_45 : decode cX8_joined 45 = .ok (.ifCond .ne 7, 3) := by decide +kernel
theorem dX8_joined_48 : decode cX8_joined 48 = .ok (.iconst 0, 1) := by decide +kernel
theorem dX8_joined_49 : decode cX8_joined 49 = .ok (.goto 6, 3) := by decide +kernel
theorem dX8_joined_52 : decode cX8_joined 52 = .ok (.iload_n 1, 1) := by decide +kernel
theorem dX8_joined_53 : decode cX8_joined 53 = .ok (.iload_n 2, 1) := by decide +kernel
theorem dX8_joined_54 : decode cX8_joined 54 = .ok (.idiv, 1) := by decide +kernel
theorem dX8_joined_55 : decode cX8_joined 55 = .ok (.ireturn, 1) := by decide +kernel
theorem dX8_joined_56 : decode cX8_joined 56 = .ok (.iload_n 2, 1) := by decide +kernel
theorem dX8_joined_57 : decode cX8_joined 57 = .ok (.ifCond .ne 7, 3) := by decide +kernel
theorem dX8_joined_60 : decode cX8_joined 60 = .ok (.iconst 0, 1) := by decide +kernel
theorem dX8_joined_61 : decode cX8_joined 61 = .ok (.goto 6, 3) := by decide +kernel
theorem dX8_joined_64 : decode cX8_joined 64 = .ok (.iload_n 1, 1) := by decide +kernel
theorem dX8_joined_65 : decode cX8_joined 65 = .ok (.iload_n 2, 1) := by decide +kernel
theorem dX8_joined_66 : decode cX8_joined 66 = .ok (.irem, 1) := by decide +kernel
theorem dX8_joined_67 : decode cX8_joined 67 = .ok (.ireturn, 1) := by decide +kernel
theorem dX8_driftOf_0 : decode cX8_driftOf 0 = .ok (.iconst 0, 1) := by decide +kernel
theorem dX8_driftOf_1 : decode cX8_driftOf 1 = .ok (.istore_n 2, 1) := by decide +kernel
theorem dX8_driftOf_2 : decode cX8_driftOf 2 = .ok (.iconst 0, 1) := by decide +kernel
theorem dX8_driftOf_3 : decode cX8_driftOf 3 = .ok (.istore_n 3, 1) := by decide +kernel
theorem dX8_driftOf_4 : decode cX8_driftOf 4 = .ok (.iload_n 3, 1) := by decide +kernel
theorem dX8_driftOf_5 : decode cX8_driftOf 5 = .ok (.aload_n 0, 1) := by decide +kernel
theorem dX8_driftOf_6 : decode cX8_driftOf 6 = .ok (.bipush 75, 2) := by decide +kernel
theorem dX8_driftOf_8 : decode cX8_driftOf 8 = .ok (.invokevirtual 221, 3) := by decide +kernel
theorem dX8_driftOf_11 : decode cX8_driftOf 11 = .ok (.if_icmp .ge 224, 3) := by decide +kernel
theorem dX8_driftOf_14 : decode cX8_driftOf 14 = .ok (.aload_n 0, 1) := by decide +kernel
theorem dX8_driftOf_15 : decode cX8_driftOf 15 = .ok (.bipush 76, 2) := by decide +kernel
theorem dX8_driftOf_17 : decode cX8_driftOf 17 = .ok (.iload_n 3, 1) := by decide +kernel
theorem dX8_driftOf_18 : decode cX8_driftOf 18 = .ok (.iadd, 1) := by decide +kernel
theorem dX8_driftOf_19 : decode cX8_driftOf 19 = .ok (.invokevirtual 221, 3) := by decide +kernel
theorem dX8_driftOf_22 : decode cX8_driftOf 22 = .ok (.istore 4, 2) := by decide +kernel
theorem dX8_driftOf_24 : decode cX8_driftOf 24 = .ok (.iload 4, 2) := by decide +kernel
theorem dX8_driftOf_26 : decode cX8_driftOf 26 = .ok (.sipush 10010, 3) := by decide +kernel
theorem dX8_driftOf_29 : decode cX8_driftOf 29 = .ok (.if_icmp .ge 39, 3) := by decide +kernel
theorem dX8_driftOf_32 : decode cX8_driftOf 32 = .ok (.aload_n 0, 1) := by decide +kernel
theorem dX8_driftOf_33 : decode cX8_driftOf 33 = .ok (.getfield 61, 3) := by decide +kernel
theorem dX8_driftOf_36 : decode cX8_driftOf 36 = .ok (.iload_n 2, 1) := by decide +kernel
theorem dX8_driftOf_37 : decode cX8_driftOf 37 = .ok (.iload 4, 2) := by decide +kernel
theorem dX8_driftOf_39 : decode cX8_driftOf 39 = .ok (.sipush 10000, 3) := by decide +kernel
theorem dX8_driftOf_42 : decode cX8_driftOf 42 = .ok (.if_icmp .ge 8, 3) := by decide +kernel
theorem dX8_driftOf_45 : decode cX8_driftOf 45 = .ok (.iload 4, 2) := by decide +kernel
theorem dX8_driftOf_47 : decode cX8_driftOf 47 = .ok (.goto 14, 3) := by decide +kernel
theorem dX8_driftOf_50 : decode cX8_driftOf 50 = .ok (.aload_n 0, 1) := by decide +kernel
theorem dX8_driftOf_51 : decode cX8_driftOf 51 = .ok (.iload 4, 2) := by decide +kernel
theorem dX8_driftOf_53 : decode cX8_driftOf 53 = .ok (.sipush 10000, 3) := by decide +kernel
theorem dX8_driftOf_56 : decode cX8_driftOf 56 = .ok (.isub, 1) := by decide +kernel
theorem dX8_driftOf_57 : decode cX8_driftOf 57 = .ok (.iload_n 1, 1) := by decide +kernel
theorem dX8_driftOf_58 : decode cX8_driftOf 58 = .ok (.invokevirtual 227, 3) := by decide +kernel
theorem dX8_driftOf_61 : decode cX8_driftOf 61 = .ok (.iastore, 1) := by decide +kernel
theorem dX8_driftOf_62 : decode cX8_driftOf 62 = .ok (.iinc 2 1, 3) := by decide +kernel
theorem dX8_driftOf_65 : decode cX8_driftOf 65 = .ok (.goto 164, 3) := by decide +kernel
theorem dX8_driftOf_68 : decode cX8_driftOf 68 = .ok (.iload 4, 2) := by decide +kernel
theorem dX8_driftOf_70 : decode cX8_driftOf 70 = .ok (.sipush 10015, 3) := by decide +kernel
theorem dX8_driftOf_73 : decode cX8_driftOf 73 = .ok (.if_icmp .ge 36, 3) := by decide +kernel
theorem dX8_driftOf_76 : decode cX8_driftOf 76 = .ok (.iinc 2 (-1), 3) := by decide +kernel
theorem dX8_driftOf_79 : decode cX8_driftOf 79 = .ok (.aload_n 0, 1) := by decide +kernel
theorem dX8_driftOf_80 : decode cX8_driftOf 80 = .ok (.getfield 61, 3) := by decide +kernel
theorem dX8_driftOf_83 : decode cX8_driftOf 83 = .ok (.iload_n 2, 1) := by decide +kernel
theorem dX8_driftOf_84 : decode cX8_driftOf 84 = .ok (.iconst 1, 1) := by decide +kernel
theorem dX8_driftOf_85 : decode cX8_driftOf 85 = .ok (.isub, 1) := by decide +kernel
theorem dX8_driftOf_86 : decode cX8_driftOf 86 = .ok (.iload 4, 2) := by decide +kernel
theorem dX8_driftOf_88 : decode cX8_driftOf 88 = .ok (.aload_n 0, 1) := by decide +kernel
theorem dX8_driftOf_89 : decode cX8_driftOf 89 = .ok (.getfield 61, 3) := by decide +kernel
theorem dX8_driftOf_92 : decode cX8_driftOf 92 = .ok (.iload_n 2, 1) := by decide +kernel
theorem dX8_driftOf_93 : decode cX8_driftOf 93 = .ok (.iconst 1, 1) := by decide +kernel
theorem dX8_driftOf_94 : decode cX8_driftOf 94 = .ok (.isub, 1) := by decide +kernel
theorem dX8_driftOf_95 : decode cX8_driftOf 95 = .ok (.iaload, 1) := by decide +kernel
theorem dX8_driftOf_96 : decode cX8_driftOf 96 = .ok (.aload_n 0, 1) := by decide +kernel
theorem dX8_driftOf_97 : decode cX8_driftOf 97 = .ok (.getfield 61, 3) := by decide +kernel
theorem dX8_driftOf_100 : decode cX8_driftOf 100 = .ok (.iload_n 2, 1) := by decide +kernel
theorem dX8_driftOf_101 : decode cX8_driftOf 101 = .ok (.iaload, 1) := by decide +kernel
theorem dX8_driftOf_102 : decode cX8_driftOf 102 = .ok (.invokestatic 231, 3) := by decide +kernel
theorem dX8_driftOf_105 : decode cX8_driftOf 105 = .ok (.iastore, 1) := by decide +kernel
theorem dX8_driftOf_106 : decode cX8_driftOf 106 = .ok (.goto 123, 3) := by decide +kernel
theorem dX8_driftOf_109 : decode cX8_driftOf 109 = .ok (.iload 4, 2) := by decide +kernel
theorem dX8_driftOf_111 : decode cX8_driftOf 111 = .ok (.sipush 10015, 3) := by decide +kernel
theorem dX8_driftOf_114 : decode cX8_driftOf 114 = .ok (.if_icmp .ne 23, 3) := by decide +kernel
theorem dX8_driftOf_117 : decode cX8_driftOf 117 = .ok (.aload_n 0, 1) := by decide +kernel
theorem dX8_driftOf_118 : decode cX8_driftOf 118 = .ok (.getfield 61, 3) := by decide +kernel
theorem dX8_driftOf_121 : decode cX8_driftOf 121 = .ok (.iload_n 2, 1) := by decide +kernel
theorem dX8_driftOf_122 : decode cX8_driftOf 122 = .ok (.iconst 1, 1) := by decide +kernel
theorem dX8_driftOf_123 : decode cX8_driftOf 123 = .ok (.isub, 1) := by decide +kernel
theorem dX8_driftOf_124 : decode cX8_driftOf 124 = .ok (.aload_n 0, 1) := by decide +kernel
theorem dX8_driftOf_125 : decode cX8_driftOf 125 = .ok (.getfield 61, 3) := by decide +kernel
theorem dX8_driftOf_128 : decode cX8_driftOf 128 = .ok (.iload_n 2, 1) := by decide +kernel
theorem dX8_driftOf_129 : decode cX8_driftOf 129 = .ok (.iconst 1, 1) := by decide +kernel
theorem dX8_driftOf_130 : decode cX8_driftOf 130 = .ok (.isub, 1) := by decide +kernel
theorem dX8_driftOf_131 : decode cX8_driftOf 131 = .ok (.iaload, 1) := by decide +kernel
theorem dX8_driftOf_132 : decode cX8_driftOf 132 = .ok (.ineg, 1) := by decide +kernel
theorem dX8_driftOf_133 : decode cX8_driftOf 133 = .ok (.iastore, 1) := by decide +kernel
theorem dX8_driftOf_134 : decode cX8_driftOf 134 = .ok (.goto 95, 3) := by decide +kernel
theorem dX8_driftOf_137 : decode cX8_driftOf 137 = .ok (.iinc 2 (-3), 3) := by decide +kernel
theorem dX8_driftOf_140 : decode cX8_driftOf 140 = .ok (.iload 4, 2) := by decide +kernel
theorem dX8_driftOf_142 : decode cX8_driftOf 142 = .ok (.sipush 10016, 3) := by decide +kernel
theorem dX8_driftOf_145 : decode cX8_driftOf 145 = .ok (.if_icmp .ne 28, 3) := by decide +kernel
theorem dX8_driftOf_148 : decode cX8_driftOf 148 = .ok (.aload_n 0, 1) := by decide +kernel
theorem dX8_driftOf_149 : decode cX8_driftOf 149 = .ok (.getfield 61, 3) := by decide +kernel
theorem dX8_driftOf_152 : decode cX8_driftOf 152 = .ok (.iload_n 2, 1) := by decide +kernel
theorem dX8_driftOf_153 : decode cX8_driftOf 153 = .ok (.iconst 1, 1) := by decide +kernel
theorem dX8_driftOf_154 : decode cX8_driftOf 154 = .ok (.isub, 1) := by decide +kernel
theorem dX8_driftOf_155 : decode cX8_driftOf 155 = .ok (.iaload, 1) := by decide +kernel
theorem dX8_driftOf_156 : decode cX8_driftOf 156 = .ok (.aload_n 0, 1) := by decide +kernel
theorem dX8_driftOf_157 : decode cX8_driftOf 157 = .ok (.getfield 61, 3) := by decide +kernel
theorem dX8_driftOf_160 : decode cX8_driftOf 160 = .ok (.iload_n 2, 1) := by decide +kernel
theorem dX8_driftOf_161 : decode cX8_driftOf 161 = .ok (.iaload, 1) := by decide +kernel
theorem dX8_driftOf_162 : decode cX8_driftOf 162 = .ok (.if_icmp .ge 7, 3) := by decide +kernel
theorem dX8_driftOf_165 : decode cX8_driftOf 165 = .ok (.iconst 1, 1) := by decide +kernel
theorem dX8_driftOf_166 : decode cX8_driftOf 166 = .ok (.goto 29, 3) := by decide +kernel
theorem dX8_driftOf_169 : decode cX8_driftOf 169 = .ok (.iconst 0, 1) := by decide +kernel
theorem dX8_driftOf_170 : decode cX8_driftOf 170 = .ok (.goto 25, 3) := by decide +kernel
theorem dX8_driftOf_173 : decode cX8_driftOf 173 = .ok (.aload_n 0, 1) := by decide +kernel
theorem dX8_driftOf_174 : decode cX8_driftOf 174 = .ok (.getfield 61, 3) := by decide +kernel
theorem dX8_driftOf_177 : decode cX8_driftOf 177 = .ok (.iload_n 2, 1) := by decide +kernel
theorem dX8_driftOf_178 : decode cX8_driftOf 178 = .ok (.iconst 1, 1) := by decide +kernel
theorem dX8_driftOf_179 : decode cX8_driftOf 179 = .ok (.isub, 1) := by decide +kernel
theorem dX8_driftOf_180 : decode cX8_driftOf 180 = .ok (.iaload, 1) := by decide +kernel
theorem dX8_driftOf_181 : decode cX8_driftOf 181 = .ok (.aload_n 0, 1) := by decide +kernel
theorem dX8_driftOf_182 : decode cX8_driftOf 182 = .ok (.getfield 61, 3) := by decide +kernel
theorem dX8_driftOf_185 : decode cX8_driftOf 185 = .ok (.iload_n 2, 1) := by decide +kernel
theorem dX8_driftOf_186 : decode cX8_driftOf 186 = .ok (.iaload, 1) := by decide +kernel
theorem dX8_driftOf_187 : decode cX8_driftOf 187 = .ok (.if_icmp .ne 7, 3) := by decide +kernel
theorem dX8_driftOf_190 : decode cX8_driftOf 190 = .ok (.iconst 1, 1) := by decide +kernel
theorem dX8_driftOf_191 : decode cX8_driftOf 191 = .ok (.goto 4, 3) := by decide +kernel
theorem dX8_driftOf_194 : decode cX8_driftOf 194 = .ok (.iconst 0, 1) := by decide +kernel
theorem dX8_driftOf_195 : decode cX8_driftOf 195 = .ok (.istore 5, 2) := by decide +kernel
theorem dX8_driftOf_197 : decode cX8_driftOf 197 = .ok (.aload_n 0, 1) := by decide +kernel
theorem dX8_driftOf_198 : decode cX8_driftOf 198 = .ok (.getfield 61, 3) := by decide +kernel
theorem dX8_driftOf_201 : decode cX8_driftOf 201 = .ok (.iload_n 2, 1) := by decide +kernel
theorem dX8_driftOf_202 : decode cX8_driftOf 202 = .ok (.iconst 1, 1) := by decide +kernel
theorem dX8_driftOf_203 : decode cX8_driftOf 203 = .ok (.isub, 1) := by decide +kernel
theorem dX8_driftOf_204 : decode cX8_driftOf 204 = .ok (.iload 5, 2) := by decide +kernel
theorem dX8_driftOf_206 : decode cX8_driftOf 206 = .ok (.ifCond .eq 14, 3) := by decide +kernel
theorem dX8_driftOf_209 : decode cX8_driftOf 209 = .ok (.aload_n 0, 1) := by decide +kernel
theorem dX8_driftOf_210 : decode cX8_driftOf 210 = .ok (.getfield 61, 3) := by decide +kernel
theorem dX8_driftOf_213 : decode cX8_driftOf 213 = .ok (.iload_n 2, 1) := by decide +kernel
theorem dX8_driftOf_214 : decode cX8_driftOf 214 = .ok (.iconst 1, 1) := by decide +kernel
theorem dX8_driftOf_215 : decode cX8_driftOf 215 = .ok (.iadd, 1) := by decide +kernel
theorem dX8_driftOf_216 : decode cX8_driftOf 216 = .ok (.iaload, 1) := by decide +kernel
theorem dX8_driftOf_217 : decode cX8_driftOf 217 = .ok (.goto 11, 3) := by decide +kernel
theorem dX8_driftOf_220 : decode cX8_driftOf 220 = .ok (.aload_n 0, 1) := by decide +kernel
theorem dX8_driftOf_221 : decode cX8_driftOf 221 = .ok (.getfield 61, 3) := by decide +kernel
theorem dX8_driftOf_224 : decode cX8_driftOf 224 = .ok (.iload_n 2, 1) := by decide +kernel
theorem dX8_driftOf_225 : decode cX8_driftOf 225 = .ok (.iconst 2, 1) := by decide +kernel
theorem dX8_driftOf_226 : decode cX8_driftOf 226 = .ok (.iadd, 1) := by decide +kernel
theorem dX8_driftOf_227 : decode cX8_driftOf 227 = .ok (.iaload, 1) := by decide +kernel
theorem dX8_driftOf_228 : decode cX8_driftOf 228 = .ok (.iastore, 1) := by decide +kernel
theorem dX8_driftOf_229 : decode cX8_driftOf 229 = .ok (.iinc 3 1, 3) := by decide +kernel
theorem dX8_driftOf_232 : decode cX8_driftOf 232 = .ok (.goto (-228), 3) := by decide +kernel
theorem dX8_driftOf_235 : decode cX8_driftOf 235 = .ok (.iload_n 2, 1) := by decide +kernel
theorem dX8_driftOf_236 : decode cX8_driftOf 236 = .ok (.ifCond .ne 7, 3) := by decide +kernel
theorem dX8_driftOf_239 : decode cX8_driftOf 239 = .ok (.iconst 0, 1) := by decide +kernel
theorem dX8_driftOf_240 : decode cX8_driftOf 240 = .ok (.goto 9, 3) := by decide +kernel
theorem dX8_driftOf_243 : decode cX8_driftOf 243 = .ok (.aload_n 0, 1) := by decide +kernel
theorem dX8_driftOf_244 : decode cX8_driftOf 244 = .ok (.getfield 61, 3) := by decide +kernel
theorem dX8_driftOf_247 : decode cX8_driftOf 247 = .ok (.iconst 0, 1) := by decide +kernel
theorem dX8_driftOf_248 : decode cX8_driftOf 248 = .ok (.iaload, 1) := by decide +kernel
theorem dX8_driftOf_249 : decode cX8_driftOf 249 = .ok (.ireturn, 1) := by decide +kernel
theorem dX8_held_0 : decode cX8_held 0 = .ok (.iload_n 0, 1) := by decide +kernel
theorem dX8_held_1 : decode cX8_held 1 = .ok (.iload_n 1, 1) := by decide +kernel
theorem dX8_held_2 : decode cX8_held 2 = .ok (.if_icmp .ge 7, 3) := by decide +kernel
theorem dX8_held_5 : decode cX8_held 5 = .ok (.iload_n 1, 1) := by decide +kernel
theorem dX8_held_6 : decode cX8_held 6 = .ok (.goto 13, 3) := by decide +kernel
theorem dX8_held_9 : decode cX8_held 9 = .ok (.iload_n 0, 1) := by decide +kernel
theorem dX8_held_10 : decode cX8_held 10 = .ok (.iload_n 2, 1) := by decide +kernel
theorem dX8_held_11 : decode cX8_held 11 = .ok (.if_icmp .le 7, 3) := by decide +kernel
theorem dX8_held_14 : decode cX8_held 14 = .ok (.iload_n 2, 1) := by decide +kernel
theorem dX8_held_15 : decode cX8_held 15 = .ok (.goto 4, 3) := by decide +kernel
theorem dX8_held_18 : decode cX8_held 18 = .ok (.iload_n 0, 1) := by decide +kernel
theorem dX8_held_19 : decode cX8_held 19 = .ok (.ireturn, 1) := by decide +kernel
theorem dX8_hour_0 : decode cX8_hour 0 = .ok (.iconst 0, 1) := by decide +kernel
theorem dX8_hour_1 : decode cX8_hour 1 = .ok (.istore_n 1, 1) := by decide +kernel
theorem dX8_hour_2 : decode cX8_hour 2 = .ok (.iconst 0, 1) := by decide +kernel
theorem dX8_hour_3 : decode cX8_hour 3 = .ok (.istore_n 2, 1) := by decide +kernel
theorem dX8_hour_4 : decode cX8_hour 4 = .ok (.iload_n 2, 1) := by decide +kernel
theorem dX8_hour_5 : decode cX8_hour 5 = .ok (.aload_n 0, 1) := by decide +kernel
theorem dX8_hour_6 : decode cX8_hour 6 = .ok (.iconst 0, 1) := by decide +kernel
theorem dX8_hour_7 : decode cX8_hour 7 = .ok (.invokevirtual 221, 3) := by decide +kernel
theorem dX8_hour_10 : decode cX8_hour 10 = .ok (.if_icmp .ge 97, 3) := by decide +kernel
theorem dX8_hour_13 : decode cX8_hour 13 = .ok (.aload_n 0, 1) := by decide +kernel
theorem dX8_hour_14 : decode cX8_hour 14 = .ok (.bipush 21, 2) := by decide +kernel
theorem dX8_hour_16 : decode cX8_hour 16 = .ok (.iload_n 2, 1) := by decide +kernel
theorem dX8_hour_17 : decode cX8_hour 17 = .ok (.iadd, 1) := by decide +kernel
theorem dX8_hour_18 : decode cX8_hour 18 = .ok (.invokevirtual 221, 3) := by decide +kernel
theorem dX8_hour_21 : decode cX8_hour 21 = .ok (.aload_n 0, 1) := by decide +kernel
theorem dX8_hour_22 : decode cX8_hour 22 = .ok (.iload_n 2, 1) := by decide +kernel
theorem dX8_hour_23 : decode cX8_hour 23 = .ok (.invokevirtual 235, 3) := by decide +kernel
theorem dX8_hour_26 : decode cX8_hour 26 = .ok (.bipush (-9), 2) := by decide +kernel
theorem dX8_hour_28 : decode cX8_hour 28 = .ok (.bipush 9, 2) := by decide +kernel
theorem dX8_hour_30 : decode cX8_hour 30 = .ok (.invokestatic 238, 3) := by decide +kernel
theorem dX8_hour_33 : decode cX8_hour 33 = .ok (.iadd, 1) := by decide +kernel
theorem dX8_hour_34 : decode cX8_hour 34 = .ok (.bipush (-99), 2) := by decide +kernel
theorem dX8_hour_36 : decode cX8_hour 36 = .ok (.bipush 99, 2) := by decide +kernel
theorem dX8_hour_38 : decode cX8_hour 38 = .ok (.invokestatic 238, 3) := by decide +kernel
theorem dX8_hour_41 : decode cX8_hour 41 = .ok (.istore_n 3, 1) := by decide +kernel
theorem dX8_hour_42 : decode cX8_hour 42 = .ok (.aload_n 0, 1) := by decide +kernel
theorem dX8_hour_43 : decode cX8_hour 43 = .ok (.getfield 64, 3) := by decide +kernel
theorem dX8_hour_46 : decode cX8_hour 46 = .ok (.iload_n 2, 1) := by decide +kernel
theorem dX8_hour_47 : decode cX8_hour 47 = .ok (.iload_n 3, 1) := by decide +kernel
theorem dX8_hour_48 : decode cX8_hour 48 = .ok (.iconst 1, 1) := by decide +kernel
theorem dX8_hour_49 : decode cX8_hour 49 = .ok (.aload_n 0, 1) := by decide +kernel
theorem dX8_hour_50 : decode cX8_hour 50 = .ok (.bipush 9, 2) := by decide +kernel
theorem dX8_hour_52 : decode cX8_hour 52 = .ok (.iload_n 2, 1) := by decide +kernel
theorem dX8_hour_53 : decode cX8_hour 53 = .ok (.iadd, 1) := by decide +kernel
theorem dX8_hour_54 : decode cX8_hour 54 = .ok (.invokevirtual 221, 3) := by decide +kernel
theorem dX8_hour_57 : decode cX8_hour 57 = .ok (.isub, 1) := by decide +kernel
theorem dX8_hour_58 : decode cX8_hour 58 = .ok (.if_icmp .ge 16, 3) := by decide +kernel
theorem dX8_hour_61 : decode cX8_hour 61 = .ok (.iconst 1, 1) := by decide +kernel
theorem dX8_hour_62 : decode cX8_hour 62 = .ok (.aload_n 0, 1) := by decide +kernel
theorem dX8_hour_63 : decode cX8_hour 63 = .ok (.bipush 9, 2) := by decide +kernel
theorem dX8_hour_65 : decode cX8_hour 65 = .ok (.iload_n 2, 1) := by decide +kernel
theorem dX8_hour_66 : decode cX8_hour 66 = .ok (.iadd, 1) := by decide +kernel
theorem dX8_hour_67 : decode cX8_hour 67 = .ok (.invokevirtual 221, 3) := by decide +kernel
theorem dX8_hour_70 : decode cX8_hour 70 = .ok (.isub, 1) := by decide +kernel
theorem dX8_hour_71 : decode cX8_hour 71 = .ok (.goto 4, 3) := by decide +kernel
theorem dX8_hour_74 : decode cX8_hour 74 = .ok (.iload_n 3, 1) := by decide +kernel
theorem dX8_hour_75 : decode cX8_hour 75 = .ok (.iastore, 1) := by decide +kernel
theorem dX8_hour_76 : decode cX8_hour 76 = .ok (.iload_n 1, 1) := by decide +kernel
theorem dX8_hour_77 : decode cX8_hour 77 = .ok (.aload_n 0, 1) := by decide +kernel
theorem dX8_hour_78 : decode cX8_hour 78 = .ok (.getfield 64, 3) := by decide +kernel
theorem dX8_hour_81 : decode cX8_hour 81 = .ok (.iload_n 2, 1) := by decide +kernel
theorem dX8_hour_82 : decode cX8_hour 82 = .ok (.iaload, 1) := by decide +kernel
theorem dX8_hour_83 : decode cX8_hour 83 = .ok (.aload_n 0, 1) := by decide +kernel
theorem dX8_hour_84 : decode cX8_hour 84 = .ok (.bipush 21, 2) := by decide +kernel
theorem dX8_hour_86 : decode cX8_hour 86 = .ok (.iload_n 2, 1) := by decide +kernel
theorem dX8_hour_87 : decode cX8_hour 87 = .ok (.iadd, 1) := by decide +kernel
theorem dX8_hour_88 : decode cX8_hour 88 = .ok (.invokevirtual 221, 3) := by decide +kernel
theorem dX8_hour_91 : decode cX8_hour 91 = .ok (.if_icmp .eq 7, 3) := by decide +kernel
theorem dX8_hour_94 : decode cX8_hour 94 = .ok (.iconst 1, 1) := by decide +kernel
theorem dX8_hour_95 : decode cX8_hour 95 = .ok (.goto 4, 3) := by decide +kernel
theorem dX8_hour_98 : decode cX8_hour 98 = .ok (.iconst 0, 1) := by decide +kernel
theorem dX8_hour_99 : decode cX8_hour 99 = .ok (.iadd, 1) := by decide +kernel
theorem dX8_hour_100 : decode cX8_hour 100 = .ok (.istore_n 1, 1) := by decide +kernel
theorem dX8_hour_101 : decode cX8_hour 101 = .ok (.iinc 2 1, 3) := by decide +kernel
theorem dX8_hour_104 : decode cX8_hour 104 = .ok (.goto (-100), 3) := by decide +kernel
theorem dX8_hour_107 : decode cX8_hour 107 = .ok (.iconst 0, 1) := by decide +kernel
theorem dX8_hour_108 : decode cX8_hour 108 = .ok (.istore_n 2, 1) := by decide +kernel
theorem dX8_hour_109 : decode cX8_hour 109 = .ok (.iload_n 2, 1) := by decide +kernel
theorem dX8_hour_110 : decode cX8_hour 110 = .ok (.aload_n 0, 1) := by decide +kernel
theorem dX8_hour_111 : decode cX8_hour 111 = .ok (.iconst 0, 1) := by decide +kernel
theorem dX8_hour_112 : decode cX8_hour 112 = .ok (.invokevirtual 221, 3) := by decide +kernel
theorem dX8_hour_115 : decode cX8_hour 115 = .ok (.if_icmp .ge 23, 3) := by decide +kernel
theorem dX8_hour_118 : decode cX8_hour 118 = .ok (.aload_n 0, 1) := by decide +kernel
theorem dX8_hour_119 : decode cX8_hour 119 = .ok (.bipush 21, 2) := by decide +kernel
theorem dX8_hour_121 : decode cX8_hour 121 = .ok (.iload_n 2, 1) := by decide +kernel
theorem dX8_hour_122 : decode cX8_hour 122 = .ok (.iadd, 1) := by decide +kernel
theorem dX8_hour_123 : decode cX8_hour 123 = .ok (.aload_n 0, 1) := by decide +kernel
theorem dX8_hour_124 : decode cX8_hour 124 = .ok (.getfield 64, 3) := by decide +kernel
theorem dX8_hour_127 : decode cX8_hour 127 = .ok (.iload_n 2, 1) := by decide +kernel
theorem dX8_hour_128 : decode cX8_hour 128 = .ok (.iaload, 1) := by decide +kernel
theorem dX8_hour_129 : decode cX8_hour 129 = .ok (.invokevirtual 119, 3) := by decide +kernel
theorem dX8_hour_132 : decode cX8_hour 132 = .ok (.iinc 2 1, 3) := by decide +kernel
theorem dX8_hour_135 : decode cX8_hour 135 = .ok (.goto (-26), 3) := by decide +kernel
theorem dX8_hour_138 : decode cX8_hour 138 = .ok (.aload_n 0, 1) := by decide +kernel
theorem dX8_hour_139 : decode cX8_hour 139 = .ok (.bipush 8, 2) := by decide +kernel
theorem dX8_hour_141 : decode cX8_hour 141 = .ok (.aload_n 0, 1) := by decide +kernel
theorem dX8_hour_142 : decode cX8_hour 142 = .ok (.bipush 8, 2) := by decide +kernel
theorem dX8_hour_144 : decode cX8_hour 144 = .ok (.invokevirtual 221, 3) := by decide +kernel
theorem dX8_hour_147 : decode cX8_hour 147 = .ok (.iconst 1, 1) := by decide +kernel
theorem dX8_hour_148 : decode cX8_hour 148 = .ok (.iadd, 1) := by decide +kernel
theorem dX8_hour_149 : decode cX8_hour 149 = .ok (.invokevirtual 119, 3) := by decide +kernel
theorem dX8_hour_152 : decode cX8_hour 152 = .ok (.iload_n 1, 1) := by decide +kernel
theorem dX8_hour_153 : decode cX8_hour 153 = .ok (.ireturn, 1) := by decide +kernel
theorem dX8_pass_0 : decode cX8_pass 0 = .ok (.iload_n 1, 1) := by decide +kernel
theorem dX8_pass_1 : decode cX8_pass 1 = .ok (.iconst 1, 1) := by decide +kernel
theorem dX8_pass_2 : decode cX8_pass 2 = .ok (.bipush 100, 2) := by decide +kernel
theorem dX8_pass_4 : decode cX8_pass 4 = .ok (.invokestatic 129, 3) := by decide +kernel
theorem dX8_pass_7 : decode cX8_pass 7 = .ok (.ifCond .ne 5, 3) := by decide +kernel
theorem dX8_pass_10 : decode cX8_pass 10 = .ok (.iconst (-1), 1) := by decide +kernel
theorem dX8_pass_11 : decode cX8_pass 11 = .ok (.ireturn, 1) := by decide +kernel
theorem dX8_pass_12 : decode cX8_pass 12 = .ok (.iconst 0, 1) := by decide +kernel
theorem dX8_pass_13 : decode cX8_pass 13 = .ok (.istore_n 2, 1) := by decide +kernel
theorem dX8_pass_14 : decode cX8_pass 14 = .ok (.iconst 0, 1) := by decide +kernel
theorem dX8_pass_15 : decode cX8_pass 15 = .ok (.istore_n 3, 1) := by decide +kernel
theorem dX8_pass_16 : decode cX8_pass 16 = .ok (.iload_n 3, 1) := by decide +kernel
theorem dX8_pass_17 : decode cX8_pass 17 = .ok (.iload_n 1, 1) := by decide +kernel
theorem dX8_pass_18 : decode cX8_pass 18 = .ok (.if_icmp .ge 16, 3) := by decide +kernel
theorem dX8_pass_21 : decode cX8_pass 21 = .ok (.iload_n 2, 1) := by decide +kernel
theorem dX8_pass_22 : decode cX8_pass 22 = .ok (.aload_n 0, 1) := by decide +kernel
theorem dX8_pass_23 : decode cX8_pass 23 = .ok (.invokevirtual 241, 3) := by decide +kernel
theorem dX8_pass_26 : decode cX8_pass 26 = .ok (.iadd, 1) := by decide +kernel
theorem dX8_pass_27 : decode cX8_pass 27 = .ok (.istore_n 2, 1) := by decide +kernel
theorem dX8_pass_28 : decode cX8_pass 28 = .ok (.iinc 3 1, 3) := by decide +kernel
theorem dX8_pass_31 : decode cX8_pass 31 = .ok (.goto (-15), 3) := by decide +kernel
theorem dX8_pass_34 : decode cX8_pass 34 = .ok (.iload_n 2, 1) := by decide +kernel
theorem dX8_pass_35 : decode cX8_pass 35 = .ok (.ireturn, 1) := by decide +kernel
theorem dX8_heat_0 : decode cX8_heat 0 = .ok (.iload_n 1, 1) := by decide +kernel
theorem dX8_heat_1 : decode cX8_heat 1 = .ok (.iconst 0, 1) := by decide +kernel
theorem dX8_heat_2 : decode cX8_heat 2 = .ok (.bipush 99, 2) := by decide +kernel
theorem dX8_heat_4 : decode cX8_heat 4 = .ok (.invokestatic 129, 3) := by decide +kernel
theorem dX8_heat_7 : decode cX8_heat 7 = .ok (.ifCond .ne 5, 3) := by decide +kernel
theorem dX8_heat_10 : decode cX8_heat 10 = .ok (.iconst 0, 1) := by decide +kernel
theorem dX8_heat_11 : decode cX8_heat 11 = .ok (.ireturn, 1) := by decide +kernel
theorem dX8_heat_12 : decode cX8_heat 12 = .ok (.aload_n 0, 1) := by decide +kernel
theorem dX8_heat_13 : decode cX8_heat 13 = .ok (.bipush 7, 2) := by decide +kernel
theorem dX8_heat_15 : decode cX8_heat 15 = .ok (.iload_n 1, 1) := by decide +kernel
theorem dX8_heat_16 : decode cX8_heat 16 = .ok (.invokevirtual 119, 3) := by decide +kernel
theorem dX8_heat_19 : decode cX8_heat 19 = .ok (.iconst 1, 1) := by decide +kernel
theorem dX8_heat_20 : decode cX8_heat 20 = .ok (.ireturn, 1) := by decide +kernel
theorem dX8_weight_0 : decode cX8_weight 0 = .ok (.aload_n 0, 1) := by decide +kernel
theorem dX8_weight_1 : decode cX8_weight 1 = .ok (.bipush 9, 2) := by decide +kernel
theorem dX8_weight_3 : decode cX8_weight 3 = .ok (.iload_n 1, 1) := by decide +kernel
theorem dX8_weight_4 : decode cX8_weight 4 = .ok (.iadd, 1) := by decide +kernel
theorem dX8_weight_5 : decode cX8_weight 5 = .ok (.invokevirtual 221, 3) := by decide +kernel
theorem dX8_weight_8 : decode cX8_weight 8 = .ok (.aload_n 0, 1) := by decide +kernel
theorem dX8_weight_9 : decode cX8_weight 9 = .ok (.bipush 21, 2) := by decide +kernel
theorem dX8_weight_11 : decode cX8_weight 11 = .ok (.iload_n 1, 1) := by decide +kernel
theorem dX8_weight_12 : decode cX8_weight 12 = .ok (.iadd, 1) := by decide +kernel
theorem dX8_weight_13 : decode cX8_weight 13 = .ok (.invokevirtual 221, 3) := by decide +kernel
theorem dX8_weight_16 : decode cX8_weight 16 = .ok (.iadd, 1) := by decide +kernel
theorem dX8_weight_17 : decode cX8_weight 17 = .ok (.ireturn, 1) := by decide +kernel
theorem dX8_sumOf_0 : decode cX8_sumOf 0 = .ok (.iconst 0, 1) := by decide +kernel
theorem dX8_sumOf_1 : decode cX8_sumOf 1 = .ok (.istore_n 3, 1) := by decide +kernel
theorem dX8_sumOf_2 : decode cX8_sumOf 2 = .ok (.iconst 0, 1) := by decide +kernel
theorem dX8_sumOf_3 : decode cX8_sumOf 3 = .ok (.istore 4, 2) := by decide +kernel
theorem dX8_sumOf_5 : decode cX8_sumOf 5 = .ok (.iload 4, 2) := by decide +kernel
theorem dX8_sumOf_7 : decode cX8_sumOf 7 = .ok (.iload_n 2, 1) := by decide +kernel
theorem dX8_sumOf_8 : decode cX8_sumOf 8 = .ok (.if_icmp .ge 20, 3) := by decide +kernel
theorem dX8_sumOf_11 : decode cX8_sumOf 11 = .ok (.iload_n 3, 1) := by decide +kernel
theorem dX8_sumOf_12 : decode cX8_sumOf 12 = .ok (.aload_n 0, 1) := by decide +kernel
theorem dX8_sumOf_13 : decode cX8_sumOf 13 = .ok (.iload_n 1, 1) := by decide +kernel
theorem dX8_sumOf_14 : decode cX8_sumOf 14 = .ok (.iload 4, 2) := by decide +kernel
theorem dX8_sumOf_16 : decode cX8_sumOf 16 = .ok (.iadd, 1) := by decide +kernel
theorem dX8_sumOf_17 : decode cX8_sumOf 17 = .ok (.invokevirtual 221, 3) := by decide +kernel
theorem dX8_sumOf_20 : decode cX8_sumOf 20 = .ok (.iadd, 1) := by decide +kernel
theorem dX8_sumOf_21 : decode cX8_sumOf 21 = .ok (.istore_n 3, 1) := by decide +kernel
theorem dX8_sumOf_22 : decode cX8_sumOf 22 = .ok (.iinc 4 1, 3) := by decide +kernel
theorem dX8_sumOf_25 : decode cX8_sumOf 25 = .ok (.goto (-20), 3) := by decide +kernel
theorem dX8_sumOf_28 : decode cX8_sumOf 28 = .ok (.iload_n 3, 1) := by decide +kernel
theorem dX8_sumOf_29 : decode cX8_sumOf 29 = .ok (.ireturn, 1) := by decide +kernel
theorem dX8_reach_0 : decode cX8_reach 0 = .ok (.aload_n 0, 1) := by decide +kernel
theorem dX8_reach_1 : decode cX8_reach 1 = .ok (.bipush 9, 2) := by decide +kernel
theorem dX8_reach_3 : decode cX8_reach 3 = .ok (.iload_n 1, 1) := by decide +kernel
theorem dX8_reach_4 : decode cX8_reach 4 = .ok (.invokevirtual 244, 3) := by decide +kernel
theorem dX8_reach_7 : decode cX8_reach 7 = .ok (.aload_n 0, 1) := by decide +kernel
theorem dX8_reach_8 : decode cX8_reach 8 = .ok (.bipush 21, 2) := by decide +kernel
theorem dX8_reach_10 : decode cX8_reach 10 = .ok (.iload_n 1, 1) := by decide +kernel
theorem dX8_reach_11 : decode cX8_reach 11 = .ok (.invokevirtual 244, 3) := by decide +kernel
theorem dX8_reach_14 : decode cX8_reach 14 = .ok (.iadd, 1) := by decide +kernel
theorem dX8_reach_15 : decode cX8_reach 15 = .ok (.ireturn, 1) := by decide +kernel
theorem dX8_is_0 : decode cX8_is 0 = .ok (.aload_n 0, 1) := by decide +kernel
theorem dX8_is_1 : decode cX8_is 1 = .ok (.iconst 0, 1) := by decide +kernel
theorem dX8_is_2 : decode cX8_is 2 = .ok (.invokevirtual 221, 3) := by decide +kernel
theorem dX8_is_5 : decode cX8_is 5 = .ok (.istore_n 2, 1) := by decide +kernel
theorem dX8_is_6 : decode cX8_is 6 = .ok (.iload_n 1, 1) := by decide +kernel
theorem dX8_is_7 : decode cX8_is 7 = .ok (.iconst 1, 1) := by decide +kernel
theorem dX8_is_8 : decode cX8_is 8 = .ok (.bipush 6, 2) := by decide +kernel
theorem dX8_is_10 : decode cX8_is 10 = .ok (.invokestatic 129, 3) := by decide +kernel
theorem dX8_is_13 : decode cX8_is 13 = .ok (.ifCond .eq 9, 3) := by decide +kernel
theorem dX8_is_16 : decode cX8_is 16 = .ok (.aload_n 0, 1) := by decide +kernel
theorem dX8_is_17 : decode cX8_is 17 = .ok (.iload_n 1, 1) := by decide +kernel
theorem dX8_is_18 : decode cX8_is 18 = .ok (.invokevirtual 221, 3) := by decide +kernel
theorem dX8_is_21 : decode cX8_is 21 = .ok (.ireturn, 1) := by decide +kernel
theorem dX8_is_22 : decode cX8_is 22 = .ok (.iload_n 1, 1) := by decide +kernel
theorem dX8_is_23 : decode cX8_is 23 = .ok (.tableswitch 107 0 12 #[65, 107, 107, 107, 107, 107, 107, 67, 74, 79, 85, 93, 100], 65) := by decide +kernel
theorem dX8_is_88 : decode cX8_is 88 = .ok (.iload_n 2, 1) := by decide +kernel
theorem dX8_is_89 : decode cX8_is 89 = .ok (.ireturn, 1) := by decide +kernel
theorem dX8_is_90 : decode cX8_is 90 = .ok (.aload_n 0, 1) := by decide +kernel
theorem dX8_is_91 : decode cX8_is 91 = .ok (.bipush 57, 2) := by decide +kernel
theorem dX8_is_93 : decode cX8_is 93 = .ok (.invokevirtual 221, 3) := by decide +kernel
theorem dX8_is_96 : decode cX8_is 96 = .ok (.ireturn, 1) := by decide +kernel
theorem dX8_is_97 : decode cX8_is 97 = .ok (.aload_n 0, 1) := by decide +kernel
theorem dX8_is_98 : decode cX8_is 98 = .ok (.getfield 122, 3) := by decide +kernel
theorem dX8_is_101 : decode cX8_is 101 = .ok (.ireturn, 1) := by decide +kernel
theorem dX8_is_102 : decode cX8_is 102 = .ok (.aload_n 0, 1) := by decide +kernel
theorem dX8_is_103 : decode cX8_is 103 = .ok (.iload_n 2, 1) := by decide +kernel
theorem dX8_is_104 : decode cX8_is 104 = .ok (.invokevirtual 247, 3) := by decide +kernel
theorem dX8_is_107 : decode cX8_is 107 = .ok (.ireturn, 1) := by decide +kernel
theorem dX8_is_108 : decode cX8_is 108 = .ok (.aload_n 0, 1) := by decide +kernel
theorem dX8_is_109 : decode cX8_is 109 = .ok (.bipush 33, 2) := by decide +kernel
theorem dX8_is_111 : decode cX8_is 111 = .ok (.iload_n 2, 1) := by decide +kernel
theorem dX8_is_112 : decode cX8_is 112 = .ok (.invokevirtual 244, 3) := by decide +kernel
theorem dX8_is_115 : decode cX8_is 115 = .ok (.ireturn, 1) := by decide +kernel
theorem dX8_is_116 : decode cX8_is 116 = .ok (.aload_n 0, 1) := by decide +kernel
theorem dX8_is_117 : decode cX8_is 117 = .ok (.bipush 7, 2) := by decide +kernel
theorem dX8_is_119 : decode cX8_is 119 = .ok (.invokevirtual 221, 3) := by decide +kernel
theorem dX8_is_122 : decode cX8_is 122 = .ok (.ireturn, 1) := by decide +kernel
theorem dX8_is_123 : decode cX8_is 123 = .ok (.aload_n 0, 1) := by decide +kernel
theorem dX8_is_124 : decode cX8_is 124 = .ok (.bipush 8, 2) := by decide +kernel
theorem dX8_is_126 : decode cX8_is 126 = .ok (.invokevirtual 221, 3) := by decide +kernel
theorem dX8_is_129 : decode cX8_is 129 = .ok (.ireturn, 1) := by decide +kernel
theorem dX8_is_130 : decode cX8_is 130 = .ok (.ldc 250, 2) := by decide +kernel
theorem dX8_is_132 : decode cX8_is 132 = .ok (.ireturn, 1) := by decide +kernel
theorem dX8_isBit_0 : decode cX8_isBit 0 = .ok (.iload_n 1, 1) := by decide +kernel
theorem dX8_isBit_1 : decode cX8_isBit 1 = .ok (.iconst 0, 1) := by decide +kernel
theorem dX8_isBit_2 : decode cX8_isBit 2 = .ok (.aload_n 0, 1) := by decide +kernel
theorem dX8_isBit_3 : decode cX8_isBit 3 = .ok (.iconst 0, 1) := by decide +kernel
theorem dX8_isBit_4 : decode cX8_isBit 4 = .ok (.invokevirtual 221, 3) := by decide +kernel
theorem dX8_isBit_7 : decode cX8_isBit 7 = .ok (.iconst 1, 1) := by decide +kernel
theorem dX8_isBit_8 : decode cX8_isBit 8 = .ok (.isub, 1) := by decide +kernel
theorem dX8_isBit_9 : decode cX8_isBit 9 = .ok (.invokestatic 129, 3) := by decide +kernel
theorem dX8_isBit_12 : decode cX8_isBit 12 = .ok (.ireturn, 1) := by decide +kernel
theorem dX8_isShort_0 : decode cX8_isShort 0 = .ok (.aload_n 0, 1) := by decide +kernel
theorem dX8_isShort_1 : decode cX8_isShort 1 = .ok (.iload_n 1, 1) := by decide +kernel
theorem dX8_isShort_2 : decode cX8_isShort 2 = .ok (.invokevirtual 224, 3) := by decide +kernel
theorem dX8_isShort_5 : decode cX8_isShort 5 = .ok (.aload_n 0, 1) := by decide +kernel
theorem dX8_isShort_6 : decode cX8_isShort 6 = .ok (.iload_n 1, 1) := by decide +kernel
theorem dX8_isShort_7 : decode cX8_isShort 7 = .ok (.invokevirtual 247, 3) := by decide +kernel
theorem dX8_isShort_10 : decode cX8_isShort 10 = .ok (.if_icmp .le 7, 3) := by decide +kernel
theorem dX8_isShort_13 : decode cX8_isShort 13 = .ok (.iconst 1, 1) := by decide +kernel
theorem dX8_isShort_14 : decode cX8_isShort 14 = .ok (.goto 4, 3) := by decide +kernel
theorem dX8_isShort_17 : decode cX8_isShort 17 = .ok (.iconst 0, 1) := by decide +kernel
theorem dX8_isShort_18 : decode cX8_isShort 18 = .ok (.ireturn, 1) := by decide +kernel
theorem dX8_bit_0 : decode cX8_bit 0 = .ok (.aload_n 0, 1) := by decide +kernel
theorem dX8_bit_1 : decode cX8_bit 1 = .ok (.iload_n 1, 1) := by decide +kernel
theorem dX8_bit_2 : decode cX8_bit 2 = .ok (.invokevirtual 251, 3) := by decide +kernel
theorem dX8_bit_5 : decode cX8_bit 5 = .ok (.ifCond .ne 6, 3) := by decide +kernel
theorem dX8_bit_8 : decode cX8_bit 8 = .ok (.ldc 250, 2) := by decide +kernel
theorem dX8_bit_10 : decode cX8_bit 10 = .ok (.ireturn, 1) := by decide +kernel
theorem dX8_bit_11 : decode cX8_bit 11 = .ok (.iload_n 2, 1) := by decide +kernel
theorem dX8_bit_12 : decode cX8_bit 12 = .ok (.tableswitch 96 0 5 #[40, 49, 58, 67, 76, 82], 40) := by decide +kernel
theorem dX8_bit_52 : decode cX8_bit 52 = .ok (.aload_n 0, 1) := by decide +kernel
theorem dX8_bit_53 : decode cX8_bit 53 = .ok (.bipush 9, 2) := by decide +kernel
theorem dX8_bit_55 : decode cX8_bit 55 = .ok (.iload_n 1, 1) := by decide +kernel
theorem dX8_bit_56 : decode cX8_bit 56 = .ok (.iadd, 1) := by decide +kernel
theorem dX8_bit_57 : decode cX8_bit 57 = .ok (.invokevirtual 221, 3) := by decide +kernel
theorem dX8_bit_60 : decode cX8_bit 60 = .ok (.ireturn, 1) := by decide +kernel
theorem dX8_bit_61 : decode cX8_bit 61 = .ok (.aload_n 0, 1) := by decide +kernel
theorem dX8_bit_62 : decode cX8_bit 62 = .ok (.bipush 21, 2) := by decide +kernel
theorem dX8_bit_64 : decode cX8_bit 64 = .ok (.iload_n 1, 1) := by decide +kernel
theorem dX8_bit_65 : decode cX8_bit 65 = .ok (.iadd, 1) := by decide +kernel
theorem dX8_bit_66 : decode cX8_bit 66 = .ok (.invokevirtual 221, 3) := by decide +kernel
theorem dX8_bit_69 : decode cX8_bit 69 = .ok (.ireturn, 1) := by decide +kernel
theorem dX8_bit_70 : decode cX8_bit 70 = .ok (.aload_n 0, 1) := by decide +kernel
theorem dX8_bit_71 : decode cX8_bit 71 = .ok (.bipush 33, 2) := by decide +kernel
theorem dX8_bit_73 : decode cX8_bit 73 = .ok (.iload_n 1, 1) := by decide +kernel
theorem dX8_bit_74 : decode cX8_bit 74 = .ok (.iadd, 1) := by decide +kernel
theorem dX8_bit_75 : decode cX8_bit 75 = .ok (.invokevirtual 221, 3) := by decide +kernel
theorem dX8_bit_78 : decode cX8_bit 78 = .ok (.ireturn, 1) := by decide +kernel
theorem dX8_bit_79 : decode cX8_bit 79 = .ok (.aload_n 0, 1) := by decide +kernel
theorem dX8_bit_80 : decode cX8_bit 80 = .ok (.bipush 45, 2) := by decide +kernel
theorem dX8_bit_82 : decode cX8_bit 82 = .ok (.iload_n 1, 1) := by decide +kernel
theorem dX8_bit_83 : decode cX8_bit 83 = .ok (.iadd, 1) := by decide +kernel
theorem dX8_bit_84 : decode cX8_bit 84 = .ok (.invokevirtual 221, 3) := by decide +kernel
theorem dX8_bit_87 : decode cX8_bit 87 = .ok (.ireturn, 1) := by decide +kernel
theorem dX8_bit_88 : decode cX8_bit 88 = .ok (.aload_n 0, 1) := by decide +kernel
theorem dX8_bit_89 : decode cX8_bit 89 = .ok (.iload_n 1, 1) := by decide +kernel
theorem dX8_bit_90 : decode cX8_bit 90 = .ok (.invokevirtual 224, 3) := by decide +kernel
theorem dX8_bit_93 : decode cX8_bit 93 = .ok (.ireturn, 1) := by decide +kernel
theorem dX8_bit_94 : decode cX8_bit 94 = .ok (.aload_n 0, 1) := by decide +kernel
theorem dX8_bit_95 : decode cX8_bit 95 = .ok (.iload_n 1, 1) := by decide +kernel
theorem dX8_bit_96 : decode cX8_bit 96 = .ok (.invokevirtual 254, 3) := by decide +kernel
theorem dX8_bit_99 : decode cX8_bit 99 = .ok (.ifCond .eq 7, 3) := by decide +kernel
theorem dX8_bit_102 : decode cX8_bit 102 = .ok (.iconst 1, 1) := by decide +kernel
theorem dX8_bit_103 : decode cX8_bit 103 = .ok (.goto 4, 3) := by decide +kernel
theorem dX8_bit_106 : decode cX8_bit 106 = .ok (.iconst 0, 1) := by decide +kernel
theorem dX8_bit_107 : decode cX8_bit 107 = .ok (.ireturn, 1) := by decide +kernel
theorem dX8_bit_108 : decode cX8_bit 108 = .ok (.ldc 250, 2) := by decide +kernel
theorem dX8_bit_110 : decode cX8_bit 110 = .ok (.ireturn, 1) := by decide +kernel
theorem dX8_off_0 : decode cX8_off 0 = .ok (.aload_n 0, 1) := by decide +kernel
theorem dX8_off_1 : decode cX8_off 1 = .ok (.iload_n 1, 1) := by decide +kernel
theorem dX8_off_2 : decode cX8_off 2 = .ok (.invokevirtual 251, 3) := by decide +kernel
theorem dX8_off_5 : decode cX8_off 5 = .ok (.ifCond .eq 28, 3) := by decide +kernel
theorem dX8_off_8 : decode cX8_off 8 = .ok (.iload_n 2, 1) := by decide +kernel
theorem dX8_off_9 : decode cX8_off 9 = .ok (.bipush (-99), 2) := by decide +kernel
theorem dX8_off_11 : decode cX8_off 11 = .ok (.bipush 99, 2) := by decide +kernel
theorem dX8_off_13 : decode cX8_off 13 = .ok (.invokestatic 129, 3) := by decide +kernel
theorem dX8_off_16 : decode cX8_off 16 = .ok (.ifCond .eq 17, 3) := by decide +kernel
theorem dX8_off_19 : decode cX8_off 19 = .ok (.aload_n 0, 1) := by decide +kernel
theorem dX8_off_20 : decode cX8_off 20 = .ok (.bipush 9, 2) := by decide +kernel
theorem dX8_off_22 : decode cX8_off 22 = .ok (.iload_n 1, 1) := by decide +kernel
theorem dX8_off_23 : decode cX8_off 23 = .ok (.iadd, 1) := by decide +kernel
theorem dX8_off_24 : decode cX8_off 24 = .ok (.invokevirtual 221, 3) := by decide +kernel
theorem dX8_off_27 : decode cX8_off 27 = .ok (.iload_n 2, 1) := by decide +kernel
theorem dX8_off_28 : decode cX8_off 28 = .ok (.iadd, 1) := by decide +kernel
theorem dX8_off_29 : decode cX8_off 29 = .ok (.iconst 1, 1) := by decide +kernel
theorem dX8_off_30 : decode cX8_off 30 = .ok (.if_icmp .ge 5, 3) := by decide +kernel
theorem dX8_off_33 : decode cX8_off 33 = .ok (.iconst 0, 1) := by decide +kernel
theorem dX8_off_34 : decode cX8_off 34 = .ok (.ireturn, 1) := by decide +kernel
theorem dX8_off_35 : decode cX8_off 35 = .ok (.aload_n 0, 1) := by decide +kernel
theorem dX8_off_36 : decode cX8_off 36 = .ok (.bipush 21, 2) := by decide +kernel
theorem dX8_off_38 : decode cX8_off 38 = .ok (.iload_n 1, 1) := by decide +kernel
theorem dX8_off_39 : decode cX8_off 39 = .ok (.iadd, 1) := by decide +kernel
theorem dX8_off_40 : decode cX8_off 40 = .ok (.iload_n 2, 1) := by decide +kernel
theorem dX8_off_41 : decode cX8_off 41 = .ok (.invokevirtual 119, 3) := by decide +kernel
theorem dX8_off_44 : decode cX8_off 44 = .ok (.iconst 1, 1) := by decide +kernel
theorem dX8_off_45 : decode cX8_off 45 = .ok (.ireturn, 1) := by decide +kernel
theorem dX8_set_0 : decode cX8_set 0 = .ok (.iload_n 1, 1) := by decide +kernel
theorem dX8_set_1 : decode cX8_set 1 = .ok (.iconst 0, 1) := by decide +kernel
theorem dX8_set_2 : decode cX8_set 2 = .ok (.iconst 4, 1) := by decide +kernel
theorem dX8_set_3 : decode cX8_set 3 = .ok (.invokestatic 129, 3) := by decide +kernel
theorem dX8_set_6 : decode cX8_set 6 = .ok (.ifCond .eq 22, 3) := by decide +kernel
theorem dX8_set_9 : decode cX8_set 9 = .ok (.iload_n 2, 1) := by decide +kernel
theorem dX8_set_10 : decode cX8_set 10 = .ok (.aload_n 0, 1) := by decide +kernel
theorem dX8_set_11 : decode cX8_set 11 = .ok (.getfield 28, 3) := by decide +kernel
theorem dX8_set_14 : decode cX8_set 14 = .ok (.iload_n 1, 1) := by decide +kernel
theorem dX8_set_15 : decode cX8_set 15 = .ok (.iaload, 1) := by decide +kernel
theorem dX8_set_16 : decode cX8_set 16 = .ok (.aload_n 0, 1) := by decide +kernel
theorem dX8_set_17 : decode cX8_set 17 = .ok (.getfield 31, 3) := by decide +kernel
theorem dX8_set_20 : decode cX8_set 20 = .ok (.iload_n 1, 1) := by decide +kernel
theorem dX8_set_21 : decode cX8_set 21 = .ok (.iaload, 1) := by decide +kernel
theorem dX8_set_22 : decode cX8_set 22 = .ok (.invokestatic 129, 3) := by decide +kernel
theorem dX8_set_25 : decode cX8_set 25 = .ok (.ifCond .ne 5, 3) := by decide +kernel
theorem dX8_set_28 : decode cX8_set 28 = .ok (.iconst 0, 1) := by decide +kernel
theorem dX8_set_29 : decode cX8_set 29 = .ok (.ireturn, 1) := by decide +kernel
theorem dX8_set_30 : decode cX8_set 30 = .ok (.aload_n 0, 1) := by decide +kernel
theorem dX8_set_31 : decode cX8_set 31 = .ok (.iconst 1, 1) := by decide +kernel
theorem dX8_set_32 : decode cX8_set 32 = .ok (.iload_n 1, 1) := by decide +kernel
theorem dX8_set_33 : decode cX8_set 33 = .ok (.iadd, 1) := by decide +kernel
theorem dX8_set_34 : decode cX8_set 34 = .ok (.iload_n 2, 1) := by decide +kernel
theorem dX8_set_35 : decode cX8_set 35 = .ok (.invokevirtual 119, 3) := by decide +kernel
theorem dX8_set_38 : decode cX8_set 38 = .ok (.iconst 1, 1) := by decide +kernel
theorem dX8_set_39 : decode cX8_set 39 = .ok (.ireturn, 1) := by decide +kernel
theorem dX8_stick_0 : decode cX8_stick 0 = .ok (.aload_n 0, 1) := by decide +kernel
theorem dX8_stick_1 : decode cX8_stick 1 = .ok (.iload_n 1, 1) := by decide +kernel
theorem dX8_stick_2 : decode cX8_stick 2 = .ok (.invokevirtual 251, 3) := by decide +kernel
theorem dX8_stick_5 : decode cX8_stick 5 = .ok (.ifCond .eq 12, 3) := by decide +kernel
theorem dX8_stick_8 : decode cX8_stick 8 = .ok (.iload_n 2, 1) := by decide +kernel
theorem dX8_stick_9 : decode cX8_stick 9 = .ok (.iconst (-1), 1) := by decide +kernel
theorem dX8_stick_10 : decode cX8_stick 10 = .ok (.iconst 1, 1) := by decide +kernel
theorem dX8_stick_11 : decode cX8_stick 11 = .ok (.invokestatic 129, 3) := by decide +kernel
theorem dX8_stick_14 : decode cX8_stick 14 = .ok (.ifCond .ne 5, 3) := by decide +kernel
theorem dX8_stick_17 : decode cX8_stick 17 = .ok (.iconst 0, 1) := by decide +kernel
theorem dX8_stick_18 : decode cX8_stick 18 = .ok (.ireturn, 1) := by decide +kernel
theorem dX8_stick_19 : decode cX8_stick 19 = .ok (.aload_n 0, 1) := by decide +kernel
theorem dX8_stick_20 : decode cX8_stick 20 = .ok (.bipush 45, 2) := by decide +kernel
theorem dX8_stick_22 : decode cX8_stick 22 = .ok (.iload_n 1, 1) := by decide +kernel
theorem dX8_stick_23 : decode cX8_stick 23 = .ok (.iadd, 1) := by decide +kernel
theorem dX8_stick_24 : decode cX8_stick 24 = .ok (.iload_n 2, 1) := by decide +kernel
theorem dX8_stick_25 : decode cX8_stick 25 = .ok (.invokevirtual 119, 3) := by decide +kernel
theorem dX8_stick_28 : decode cX8_stick 28 = .ok (.iconst 1, 1) := by decide +kernel
theorem dX8_stick_29 : decode cX8_stick 29 = .ok (.ireturn, 1) := by decide +kernel
theorem dX8_seed_0 : decode cX8_seed 0 = .ok (.aload_n 0, 1) := by decide +kernel
theorem dX8_seed_1 : decode cX8_seed 1 = .ok (.bipush 6, 2) := by decide +kernel
theorem dX8_seed_3 : decode cX8_seed 3 = .ok (.invokevirtual 221, 3) := by decide +kernel
theorem dX8_seed_6 : decode cX8_seed 6 = .ok (.istore_n 2, 1) := by decide +kernel
theorem dX8_seed_7 : decode cX8_seed 7 = .ok (.aload_n 0, 1) := by decide +kernel
theorem dX8_seed_8 : decode cX8_seed 8 = .ok (.bipush 6, 2) := by decide +kernel
theorem dX8_seed_10 : decode cX8_seed 10 = .ok (.iload_n 1, 1) := by decide +kernel
theorem dX8_seed_11 : decode cX8_seed 11 = .ok (.invokevirtual 119, 3) := by decide +kernel
theorem dX8_seed_14 : decode cX8_seed 14 = .ok (.iload_n 2, 1) := by decide +kernel
theorem dX8_seed_15 : decode cX8_seed 15 = .ok (.ireturn, 1) := by decide +kernel
theorem dX8_draw_0 : decode cX8_draw 0 = .ok (.aload_n 0, 1) := by decide +kernel
theorem dX8_draw_1 : decode cX8_draw 1 = .ok (.bipush 6, 2) := by decide +kernel
theorem dX8_draw_3 : decode cX8_draw 3 = .ok (.aload_n 0, 1) := by decide +kernel
theorem dX8_draw_4 : decode cX8_draw 4 = .ok (.bipush 6, 2) := by decide +kernel
theorem dX8_draw_6 : decode cX8_draw 6 = .ok (.invokevirtual 221, 3) := by decide +kernel
theorem dX8_draw_9 : decode cX8_draw 9 = .ok (.ldc_w 257, 3) := by decide +kernel
theorem dX8_draw_12 : decode cX8_draw 12 = .ok (.imul, 1) := by decide +kernel
theorem dX8_draw_13 : decode cX8_draw 13 = .ok (.sipush 12345, 3) := by decide +kernel
theorem dX8_draw_16 : decode cX8_draw 16 = .ok (.iadd, 1) := by decide +kernel
theorem dX8_draw_17 : decode cX8_draw 17 = .ok (.invokevirtual 119, 3) := by decide +kernel
theorem dX8_draw_20 : decode cX8_draw 20 = .ok (.aload_n 0, 1) := by decide +kernel
theorem dX8_draw_21 : decode cX8_draw 21 = .ok (.bipush 6, 2) := by decide +kernel
theorem dX8_draw_23 : decode cX8_draw 23 = .ok (.invokevirtual 221, 3) := by decide +kernel
theorem dX8_draw_26 : decode cX8_draw 26 = .ok (.bipush 16, 2) := by decide +kernel
theorem dX8_draw_28 : decode cX8_draw 28 = .ok (.iushr, 1) := by decide +kernel
theorem dX8_draw_29 : decode cX8_draw 29 = .ok (.iload_n 1, 1) := by decide +kernel
theorem dX8_draw_30 : decode cX8_draw 30 = .ok (.irem, 1) := by decide +kernel
theorem dX8_draw_31 : decode cX8_draw 31 = .ok (.ireturn, 1) := by decide +kernel
theorem dX8_decide_0 : decode cX8_decide 0 = .ok (.aload_n 0, 1) := by decide +kernel
theorem dX8_decide_1 : decode cX8_decide 1 = .ok (.iconst 2, 1) := by decide +kernel
theorem dX8_decide_2 : decode cX8_decide 2 = .ok (.invokevirtual 221, 3) := by decide +kernel
theorem dX8_decide_5 : decode cX8_decide 5 = .ok (.istore_n 3, 1) := by decide +kernel
theorem dX8_decide_6 : decode cX8_decide 6 = .ok (.aload_n 0, 1) := by decide +kernel
theorem dX8_decide_7 : decode cX8_decide 7 = .ok (.getfield 70, 3) := by decide +kernel
theorem dX8_decide_10 : decode cX8_decide 10 = .ok (.iload_n 1, 1) := by decide +kernel
theorem dX8_decide_11 : decode cX8_decide 11 = .ok (.aload_n 0, 1) := by decide +kernel
theorem dX8_decide_12 : decode cX8_decide 12 = .ok (.bipush 45, 2) := by decide +kernel
theorem dX8_decide_14 : decode cX8_decide 14 = .ok (.iload_n 1, 1) := by decide +kernel
theorem dX8_decide_15 : decode cX8_decide 15 = .ok (.iadd, 1) := by decide +kernel
theorem dX8_decide_16 : decode cX8_decide 16 = .ok (.invokevirtual 221, 3) := by decide +kernel
theorem dX8_decide_19 : decode cX8_decide 19 = .ok (.iconst (-1), 1) := by decide +kernel
theorem dX8_decide_20 : decode cX8_decide 20 = .ok (.if_icmp .ne 18, 3) := by decide +kernel
theorem dX8_decide_23 : decode cX8_decide 23 = .ok (.iload_n 2, 1) := by decide +kernel
theorem dX8_decide_24 : decode cX8_decide 24 = .ok (.iload_n 3, 1) := by decide +kernel
theorem dX8_decide_25 : decode cX8_decide 25 = .ok (.ineg, 1) := by decide +kernel
theorem dX8_decide_26 : decode cX8_decide 26 = .ok (.if_icmp .le 12, 3) := by decide +kernel
theorem dX8_decide_29 : decode cX8_decide 29 = .ok (.iload_n 2, 1) := by decide +kernel
theorem dX8_decide_30 : decode cX8_decide 30 = .ok (.iload_n 3, 1) := by decide +kernel
theorem dX8_decide_31 : decode cX8_decide 31 = .ok (.if_icmp .ge 7, 3) := by decide +kernel
theorem dX8_decide_34 : decode cX8_decide 34 = .ok (.iconst 1, 1) := by decide +kernel
theorem dX8_decide_35 : decode cX8_decide 35 = .ok (.goto 4, 3) := by decide +kernel
theorem dX8_decide_38 : decode cX8_decide 38 = .ok (.iconst 0, 1) := by decide +kernel
theorem dX8_decide_39 : decode cX8_decide 39 = .ok (.bastore, 1) := by decide +kernel
theorem dX8_decide_40 : decode cX8_decide 40 = .ok (.iload_n 2, 1) := by decide +kernel
theorem dX8_decide_41 : decode cX8_decide 41 = .ok (.ifCond .lt 7, 3) := by decide +kernel
theorem dX8_decide_44 : decode cX8_decide 44 = .ok (.iconst 1, 1) := by decide +kernel
theorem dX8_decide_45 : decode cX8_decide 45 = .ok (.goto 4, 3) := by decide +kernel
theorem dX8_decide_48 : decode cX8_decide 48 = .ok (.iconst 0, 1) := by decide +kernel
theorem dX8_decide_49 : decode cX8_decide 49 = .ok (.istore 4, 2) := by decide +kernel
theorem dX8_decide_51 : decode cX8_decide 51 = .ok (.aload_n 0, 1) := by decide +kernel
theorem dX8_decide_52 : decode cX8_decide 52 = .ok (.bipush 45, 2) := by decide +kernel
theorem dX8_decide_54 : decode cX8_decide 54 = .ok (.iload_n 1, 1) := by decide +kernel
theorem dX8_decide_55 : decode cX8_decide 55 = .ok (.iadd, 1) := by decide +kernel
theorem dX8_decide_56 : decode cX8_decide 56 = .ok (.invokevirtual 221, 3) := by decide +kernel
theorem dX8_decide_59 : decode cX8_decide 59 = .ok (.iconst (-1), 1) := by decide +kernel
theorem dX8_decide_60 : decode cX8_decide 60 = .ok (.if_icmp .eq 16, 3) := by decide +kernel
theorem dX8_decide_63 : decode cX8_decide 63 = .ok (.aload_n 0, 1) := by decide +kernel
theorem dX8_decide_64 : decode cX8_decide 64 = .ok (.bipush 45, 2) := by decide +kernel
theorem dX8_decide_66 : decode cX8_decide 66 = .ok (.iload_n 1, 1) := by decide +kernel
theorem dX8_decide_67 : decode cX8_decide 67 = .ok (.iadd, 1) := by decide +kernel
theorem dX8_decide_68 : decode cX8_decide 68 = .ok (.invokevirtual 221, 3) := by decide +kernel
theorem dX8_decide_71 : decode cX8_decide 71 = .ok (.istore 4, 2) := by decide +kernel
theorem dX8_decide_73 : decode cX8_decide 73 = .ok (.goto 54, 3) := by decide +kernel
theorem dX8_decide_76 : decode cX8_decide 76 = .ok (.aload_n 0, 1) := by decide +kernel
theorem dX8_decide_77 : decode cX8_decide 77 = .ok (.getfield 70, 3) := by decide +kernel
theorem dX8_decide_80 : decode cX8_decide 80 = .ok (.iload_n 1, 1) := by decide +kernel
theorem dX8_decide_81 : decode cX8_decide 81 = .ok (.baload, 1) := by decide +kernel
theorem dX8_decide_82 : decode cX8_decide 82 = .ok (.ifCond .eq 45, 3) := by decide +kernel
theorem dX8_decide_85 : decode cX8_decide 85 = .ok (.aload_n 0, 1) := by decide +kernel
theorem dX8_decide_86 : decode cX8_decide 86 = .ok (.getfield 258, 3) := by decide +kernel
theorem dX8_decide_89 : decode cX8_decide 89 = .ok (.ifCond .ne 38, 3) := by decide +kernel
theorem dX8_decide_92 : decode cX8_decide 92 = .ok (.aload_n 0, 1) := by decide +kernel
theorem dX8_decide_93 : decode cX8_decide 93 = .ok (.iconst 3, 1) := by decide +kernel
theorem dX8_decide_94 : decode cX8_decide 94 = .ok (.invokevirtual 221, 3) := by decide +kernel
theorem dX8_decide_97 : decode cX8_decide 97 = .ok (.iconst 3, 1) := by decide +kernel
theorem dX8_decide_98 : decode cX8_decide 98 = .ok (.if_icmp .ge 29, 3) := by decide +kernel
theorem dX8_decide_101 : decode cX8_decide 101 = .ok (.aload_n 0, 1) := by decide +kernel
theorem dX8_decide_102 : decode cX8_decide 102 = .ok (.iconst 3, 1) := by decide +kernel
theorem dX8_decide_103 : decode cX8_decide 103 = .ok (.invokevirtual 221, 3) := by decide +kernel
theorem dX8_decide_106 : decode cX8_decide 106 = .ok (.iconst 2, 1) := by decide +kernel
theorem dX8_decide_107 : decode cX8_decide 107 = .ok (.if_icmp .ne 11, 3) := by decide +kernel
theorem dX8_decide_110 : decode cX8_decide 110 = .ok (.aload_n 0, 1) := by decide +kernel
theorem dX8_decide_111 : decode cX8_decide 111 = .ok (.iconst 2, 1) := by decide +kernel
theorem dX8_decide_112 : decode cX8_decide 112 = .ok (.invokevirtual 261, 3) := by decide +kernel
theorem dX8_decide_115 : decode cX8_decide 115 = .ok (.goto 10, 3) := by decide +kernel
theorem dX8_decide_118 : decode cX8_decide 118 = .ok (.iconst 1, 1) := by decide +kernel
theorem dX8_decide_119 : decode cX8_decide 119 = .ok (.aload_n 0, 1) := by decide +kernel
theorem dX8_decide_120 : decode cX8_decide 120 = .ok (.iconst 3, 1) := by decide +kernel
theorem dX8_decide_121 : decode cX8_decide 121 = .ok (.invokevirtual 221, 3) := by decide +kernel
theorem dX8_decide_124 : decode cX8_decide 124 = .ok (.isub, 1) := by decide +kernel
theorem dX8_decide_125 : decode cX8_decide 125 = .ok (.istore 4, 2) := by decide +kernel
theorem dX8_decide_127 : decode cX8_decide 127 = .ok (.iload_n 1, 1) := by decide +kernel
theorem dX8_decide_128 : decode cX8_decide 128 = .ok (.aload_n 0, 1) := by decide +kernel
theorem dX8_decide_129 : decode cX8_decide 129 = .ok (.getfield 80, 3) := by decide +kernel
theorem dX8_decide_132 : decode cX8_decide 132 = .ok (.if_icmp .ne 10, 3) := by decide +kernel
theorem dX8_decide_135 : decode cX8_decide 135 = .ok (.iconst 1, 1) := by decide +kernel
theorem dX8_decide_136 : decode cX8_decide 136 = .ok (.iload 4, 2) := by decide +kernel
theorem dX8_decide_138 : decode cX8_decide 138 = .ok (.isub, 1) := by decide +kernel
theorem dX8_decide_139 : decode cX8_decide 139 = .ok (.goto 5, 3) := by decide +kernel
theorem dX8_decide_142 : decode cX8_decide 142 = .ok (.iload 4, 2) := by decide +kernel
theorem dX8_decide_144 : decode cX8_decide 144 = .ok (.ireturn, 1) := by decide +kernel
theorem dX8_goThrough_0 : decode cX8_goThrough 0 = .ok (.aload_n 0, 1) := by decide +kernel
theorem dX8_goThrough_1 : decode cX8_goThrough 1 = .ok (.iconst 0, 1) := by decide +kernel
theorem dX8_goThrough_2 : decode cX8_goThrough 2 = .ok (.putfield 264, 3) := by decide +kernel
theorem dX8_goThrough_5 : decode cX8_goThrough 5 = .ok (.aload_n 0, 1) := by decide +kernel
theorem dX8_goThrough_6 : decode cX8_goThrough 6 = .ok (.iconst 0, 1) := by decide +kernel
theorem dX8_goThrough_7 : decode cX8_goThrough 7 = .ok (.putfield 267, 3) := by decide +kernel
theorem dX8_goThrough_10 : decode cX8_goThrough 10 = .ok (.aload_n 0, 1) := by decide +kernel
theorem dX8_goThrough_11 : decode cX8_goThrough 11 = .ok (.getfield 258, 3) := by decide +kernel
theorem dX8_goThrough_14 : decode cX8_goThrough 14 = .ok (.ifCond .eq 7, 3) := by decide +kernel
theorem dX8_goThrough_17 : decode cX8_goThrough 17 = .ok (.iconst 0, 1) := by decide +kernel
theorem dX8_goThrough_18 : decode cX8_goThrough 18 = .ok (.goto 8, 3) := by decide +kernel
theorem dX8_goThrough_21 : decode cX8_goThrough 21 = .ok (.aload_n 0, 1) := by decide +kernel
theorem dX8_goThrough_22 : decode cX8_goThrough 22 = .ok (.iconst 4, 1) := by decide +kernel
theorem dX8_goThrough_23 : decode cX8_goThrough 23 = .ok (.invokevirtual 221, 3) := by decide +kernel
theorem dX8_goThrough_26 : decode cX8_goThrough 26 = .ok (.istore 4, 2) := by decide +kernel
theorem dX8_goThrough_28 : decode cX8_goThrough 28 = .ok (.iload_n 2, 1) := by decide +kernel
theorem dX8_goThrough_29 : decode cX8_goThrough 29 = .ok (.iconst 1, 1) := by decide +kernel
theorem dX8_goThrough_30 : decode cX8_goThrough 30 = .ok (.isub, 1) := by decide +kernel
theorem dX8_goThrough_31 : decode cX8_goThrough 31 = .ok (.istore 5, 2) := by decide +kernel
theorem dX8_goThrough_33 : decode cX8_goThrough 33 = .ok (.iload 5, 2) := by decide +kernel
theorem dX8_goThrough_35 : decode cX8_goThrough 35 = .ok (.ifCond .lt 127, 3) := by decide +kernel
theorem dX8_goThrough_38 : decode cX8_goThrough 38 = .ok (.iload_n 1, 1) := by decide +kernel
theorem dX8_goThrough_39 : decode cX8_goThrough 39 = .ok (.iload_n 3, 1) := by decide +kernel
theorem dX8_goThrough_40 : decode cX8_goThrough 40 = .ok (.iadd, 1) := by decide +kernel
theorem dX8_goThrough_41 : decode cX8_goThrough 41 = .ok (.aload_n 0, 1) := by decide +kernel
theorem dX8_goThrough_42 : decode cX8_goThrough 42 = .ok (.getfield 267, 3) := by decide +kernel
theorem dX8_goThrough_45 : decode cX8_goThrough 45 = .ok (.isub, 1) := by decide +kernel
theorem dX8_goThrough_46 : decode cX8_goThrough 46 = .ok (.aload_n 0, 1) := by decide +kernel
theorem dX8_goThrough_47 : decode cX8_goThrough 47 = .ok (.iload 5, 2) := by decide +kernel
theorem dX8_goThrough_49 : decode cX8_goThrough 49 = .ok (.invokevirtual 224, 3) := by decide +kernel
theorem dX8_goThrough_52 : decode cX8_goThrough 52 = .ok (.isub, 1) := by decide +kernel
theorem dX8_goThrough_53 : decode cX8_goThrough 53 = .ok (.istore 6, 2) := by decide +kernel
theorem dX8_goThrough_55 : decode cX8_goThrough 55 = .ok (.iload 4, 2) := by decide +kernel
theorem dX8_goThrough_57 : decode cX8_goThrough 57 = .ok (.ifCond .le 21, 3) := by decide +kernel
theorem dX8_goThrough_60 : decode cX8_goThrough 60 = .ok (.iload 6, 2) := by decide +kernel
theorem dX8_goThrough_62 : decode cX8_goThrough 62 = .ok (.aload_n 0, 1) := by decide +kernel
theorem dX8_goThrough_63 : decode cX8_goThrough 63 = .ok (.iload 4, 2) := by decide +kernel
theorem dX8_goThrough_65 : decode cX8_goThrough 65 = .ok (.iconst 2, 1) := by decide +kernel
theorem dX8_goThrough_66 : decode cX8_goThrough 66 = .ok (.imul, 1) := by decide +kernel
theorem dX8_goThrough_67 : decode cX8_goThrough 67 = .ok (.iconst 1, 1) := by decide +kernel
theorem dX8_goThrough_68 : decode cX8_goThrough 68 = .ok (.iadd, 1) := by decide +kernel
theorem dX8_goThrough_69 : decode cX8_goThrough 69 = .ok (.invokevirtual 261, 3) := by decide +kernel
theorem dX8_goThrough_72 : decode cX8_goThrough 72 = .ok (.iload 4, 2) := by decide +kernel
theorem dX8_goThrough_74 : decode cX8_goThrough 74 = .ok (.isub, 1) := by decide +kernel
theorem dX8_goThrough_75 : decode cX8_goThrough 75 = .ok (.iadd, 1) := by decide +kernel
theorem dX8_goThrough_76 : decode cX8_goThrough 76 = .ok (.istore 6, 2) := by decide +kernel
theorem dX8_goThrough_78 : decode cX8_goThrough 78 = .ok (.aload_n 0, 1) := by decide +kernel
theorem dX8_goThrough_79 : decode cX8_goThrough 79 = .ok (.iload 5, 2) := by decide +kernel
theorem dX8_goThrough_81 : decode cX8_goThrough 81 = .ok (.iload 6, 2) := by decide +kernel
theorem dX8_goThrough_83 : decode cX8_goThrough 83 = .ok (.invokevirtual 270, 3) := by decide +kernel
theorem dX8_goThrough_86 : decode cX8_goThrough 86 = .ok (.istore 7, 2) := by decide +kernel
theorem dX8_goThrough_88 : decode cX8_goThrough 88 = .ok (.aload_n 0, 1) := by decide +kernel
theorem dX8_goThrough_89 : decode cX8_goThrough 89 = .ok (.getfield 67, 3) := by decide +kernel
theorem dX8_goThrough_92 : decode cX8_goThrough 92 = .ok (.iload 5, 2) := by decide +kernel
theorem dX8_goThrough_94 : decode cX8_goThrough 94 = .ok (.iload 7, 2) := by decide +kernel
theorem dX8_goThrough_96 : decode cX8_goThrough 96 = .ok (.iastore, 1) := by decide +kernel
theorem dX8_goThrough_97 : decode cX8_goThrough 97 = .ok (.aload_n 0, 1) := by decide +kernel
theorem dX8_goThrough_98 : decode cX8_goThrough 98 = .ok (.getfield 74, 3) := by decide +kernel
theorem dX8_goThrough_101 : decode cX8_goThrough 101 = .ok (.iload 5, 2) := by decide +kernel
theorem dX8_goThrough_103 : decode cX8_goThrough 103 = .ok (.iload 6, 2) := by decide +kernel
theorem dX8_goThrough_105 : decode cX8_goThrough 105 = .ok (.iastore, 1) := by decide +kernel
theorem dX8_goThrough_106 : decode cX8_goThrough 106 = .ok (.iload 7, 2) := by decide +kernel
theorem dX8_goThrough_108 : decode cX8_goThrough 108 = .ok (.iconst 1, 1) := by decide +kernel
theorem dX8_goThrough_109 : decode cX8_goThrough 109 = .ok (.if_icmp .ne 36, 3) := by decide +kernel
theorem dX8_goThrough_112 : decode cX8_goThrough 112 = .ok (.aload_n 0, 1) := by decide +kernel
theorem dX8_goThrough_113 : decode cX8_goThrough 113 = .ok (.dup, 1) := by decide +kernel
theorem dX8_goThrough_114 : decode cX8_goThrough 114 = .ok (.getfield 267, 3) := by decide +kernel
theorem dX8_goThrough_117 : decode cX8_goThrough 117 = .ok (.aload_n 0, 1) := by decide +kernel
theorem dX8_goThrough_118 : decode cX8_goThrough 118 = .ok (.iload 5, 2) := by decide +kernel
theorem dX8_goThrough_120 : decode cX8_goThrough 120 = .ok (.invokevirtual 224, 3) := by decide +kernel
theorem dX8_goThrough_123 : decode cX8_goThrough 123 = .ok (.iadd, 1) := by decide +kernel
theorem dX8_goThrough_124 : decode cX8_goThrough 124 = .ok (.putfield 267, 3) := by decide +kernel
theorem dX8_goThrough_127 : decode cX8_goThrough 127 = .ok (.aload_n 0, 1) := by decide +kernel
theorem dX8_goThrough_128 : decode cX8_goThrough 128 = .ok (.dup, 1) := by decide +kernel
theorem dX8_goThrough_129 : decode cX8_goThrough 129 = .ok (.getfield 264, 3) := by decide +kernel
theorem dX8_goThrough_132 : decode cX8_goThrough 132 = .ok (.aload_n 0, 1) := by decide +kernel
theorem dX8_goThrough_133 : decode cX8_goThrough 133 = .ok (.bipush 33, 2) := by decide +kernel
theorem dX8_goThrough_135 : decode cX8_goThrough 135 = .ok (.iload 5, 2) := by decide +kernel
theorem dX8_goThrough_137 : decode cX8_goThrough 137 = .ok (.iadd, 1) := by decide +kernel
theorem dX8_goThrough_138 : decode cX8_goThrough 138 = .ok (.invokevirtual 221, 3) := by decide +kernel
theorem dX8_goThrough_141 : decode cX8_goThrough 141 = .ok (.iadd, 1) := by decide +kernel
theorem dX8_goThrough_142 : decode cX8_goThrough 142 = .ok (.putfield 264, 3) := by decide +kernel
theorem dX8_goThrough_145 : decode cX8_goThrough 145 = .ok (.aload_n 0, 1) := by decide +kernel
theorem dX8_goThrough_146 : decode cX8_goThrough 146 = .ok (.getfield 77, 3) := by decide +kernel
theorem dX8_goThrough_149 : decode cX8_goThrough 149 = .ok (.iload 5, 2) := by decide +kernel
theorem dX8_goThrough_151 : decode cX8_goThrough 151 = .ok (.aload_n 0, 1) := by decide +kernel
theorem dX8_goThrough_152 : decode cX8_goThrough 152 = .ok (.getfield 267, 3) := by decide +kernel
theorem dX8_goThrough_155 : decode cX8_goThrough 155 = .ok (.iastore, 1) := by decide +kernel
theorem dX8_goThrough_156 : decode cX8_goThrough 156 = .ok (.iinc 5 (-1), 3) := by decide +kernel
theorem dX8_goThrough_159 : decode cX8_goThrough 159 = .ok (.goto (-126), 3) := by decide +kernel
theorem dX8_goThrough_162 : decode cX8_goThrough 162 = .ok (.return_, 1) := by decide +kernel
theorem dX8_codeNow_0 : decode cX8_codeNow 0 = .ok (.aload_n 0, 1) := by decide +kernel
theorem dX8_codeNow_1 : decode cX8_codeNow 1 = .ok (.getfield 264, 3) := by decide +kernel
theorem dX8_codeNow_4 : decode cX8_codeNow 4 = .ok (.iconst 2, 1) := by decide +kernel
theorem dX8_codeNow_5 : decode cX8_codeNow 5 = .ok (.imul, 1) := by decide +kernel
theorem dX8_codeNow_6 : decode cX8_codeNow 6 = .ok (.aload_n 0, 1) := by decide +kernel
theorem dX8_codeNow_7 : decode cX8_codeNow 7 = .ok (.iconst 5, 1) := by decide +kernel
theorem dX8_codeNow_8 : decode cX8_codeNow 8 = .ok (.invokevirtual 221, 3) := by decide +kernel
theorem dX8_codeNow_11 : decode cX8_codeNow 11 = .ok (.iadd, 1) := by decide +kernel
theorem dX8_codeNow_12 : decode cX8_codeNow 12 = .ok (.aload_n 0, 1) := by decide +kernel
theorem dX8_codeNow_13 : decode cX8_codeNow 13 = .ok (.iconst 5, 1) := by decide +kernel
theorem dX8_codeNow_14 : decode cX8_codeNow 14 = .ok (.invokevirtual 221, 3) := by decide +kernel
theorem dX8_codeNow_17 : decode cX8_codeNow 17 = .ok (.iconst 2, 1) := by decide +kernel
theorem dX8_codeNow_18 : decode cX8_codeNow 18 = .ok (.imul, 1) := by decide +kernel
theorem dX8_codeNow_19 : decode cX8_codeNow 19 = .ok (.idiv, 1) := by decide +kernel
theorem dX8_codeNow_20 : decode cX8_codeNow 20 = .ok (.ireturn, 1) := by decide +kernel
theorem dX8_paperCode_0 : decode cX8_paperCode 0 = .ok (.aload_n 0, 1) := by decide +kernel
theorem dX8_paperCode_1 : decode cX8_paperCode 1 = .ok (.iconst 1, 1) := by decide +kernel
theorem dX8_paperCode_2 : decode cX8_paperCode 2 = .ok (.putfield 258, 3) := by decide +kernel
theorem dX8_paperCode_5 : decode cX8_paperCode 5 = .ok (.aload_n 0, 1) := by decide +kernel
theorem dX8_paperCode_6 : decode cX8_paperCode 6 = .ok (.iload_n 1, 1) := by decide +kernel
theorem dX8_paperCode_7 : decode cX8_paperCode 7 = .ok (.aload_n 0, 1) := by decide +kernel
theorem dX8_paperCode_8 : decode cX8_paperCode 8 = .ok (.iconst 0, 1) := by decide +kernel
theorem dX8_paperCode_9 : decode cX8_paperCode 9 = .ok (.invokevirtual 221, 3) := by decide +kernel
theorem dX8_paperCode_12 : decode cX8_paperCode 12 = .ok (.aload_n 0, 1) := by decide +kernel
theorem dX8_paperCode_13 : decode cX8_paperCode 13 = .ok (.iconst 1, 1) := by decide +kernel
theorem dX8_paperCode_14 : decode cX8_paperCode 14 = .ok (.invokevirtual 221, 3) := by decide +kernel
theorem dX8_paperCode_17 : decode cX8_paperCode 17 = .ok (.invokevirtual 273, 3) := by decide +kernel
theorem dX8_paperCode_20 : decode cX8_paperCode 20 = .ok (.aload_n 0, 1) := by decide +kernel
theorem dX8_paperCode_21 : decode cX8_paperCode 21 = .ok (.iconst 0, 1) := by decide +kernel
theorem dX8_paperCode_22 : decode cX8_paperCode 22 = .ok (.putfield 258, 3) := by decide +kernel
theorem dX8_paperCode_25 : decode cX8_paperCode 25 = .ok (.aload_n 0, 1) := by decide +kernel
theorem dX8_paperCode_26 : decode cX8_paperCode 26 = .ok (.invokevirtual 276, 3) := by decide +kernel
theorem dX8_paperCode_29 : decode cX8_paperCode 29 = .ok (.ireturn, 1) := by decide +kernel
theorem dX8_isX_0 : decode cX8_isX 0 = .ok (.iload_n 0, 1) := by decide +kernel
theorem dX8_isX_1 : decode cX8_isX 1 = .ok (.ldc 250, 2) := by decide +kernel
theorem dX8_isX_3 : decode cX8_isX 3 = .ok (.ldc_w 279, 3) := by decide +kernel
theorem dX8_isX_6 : decode cX8_isX 6 = .ok (.invokestatic 129, 3) := by decide +kernel
theorem dX8_isX_9 : decode cX8_isX 9 = .ok (.ireturn, 1) := by decide +kernel
theorem dX8_convert_0 : decode cX8_convert 0 = .ok (.iload_n 1, 1) := by decide +kernel
theorem dX8_convert_1 : decode cX8_convert 1 = .ok (.invokestatic 280, 3) := by decide +kernel
theorem dX8_convert_4 : decode cX8_convert 4 = .ok (.ifCond .eq 11, 3) := by decide +kernel
theorem dX8_convert_7 : decode cX8_convert 7 = .ok (.aload_n 0, 1) := by decide +kernel
theorem dX8_convert_8 : decode cX8_convert 8 = .ok (.iconst 0, 1) := by decide +kernel
theorem dX8_convert_9 : decode cX8_convert 9 = .ok (.invokevirtual 221, 3) := by decide +kernel
theorem dX8_convert_12 : decode cX8_convert 12 = .ok (.ifCond .ne 7, 3) := by decide +kernel
theorem dX8_convert_15 : decode cX8_convert 15 = .ok (.ldc_w 283, 3) := by decide +kernel
theorem dX8_convert_18 : decode cX8_convert 18 = .ok (.ireturn, 1) := by decide +kernel
theorem dX8_convert_19 : decode cX8_convert 19 = .ok (.aload_n 0, 1) := by decide +kernel
theorem dX8_convert_20 : decode cX8_convert 20 = .ok (.iload_n 1, 1) := by decide +kernel
theorem dX8_convert_21 : decode cX8_convert 21 = .ok (.aload_n 0, 1) := by decide +kernel
theorem dX8_convert_22 : decode cX8_convert 22 = .ok (.iconst 0, 1) := by decide +kernel
theorem dX8_convert_23 : decode cX8_convert 23 = .ok (.invokevirtual 221, 3) := by decide +kernel
theorem dX8_convert_26 : decode cX8_convert 26 = .ok (.aload_n 0, 1) := by decide +kernel
theorem dX8_convert_27 : decode cX8_convert 27 = .ok (.iconst 1, 1) := by decide +kernel
theorem dX8_convert_28 : decode cX8_convert 28 = .ok (.invokevirtual 221, 3) := by decide +kernel
theorem dX8_convert_31 : decode cX8_convert 31 = .ok (.invokevirtual 273, 3) := by decide +kernel
