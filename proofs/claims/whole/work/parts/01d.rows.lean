theorem dX3_readProduct_57 : decode cX3_readProduct 57 = .ok (.putfield 43, 3) := by decide +kernel
theorem dX3_readProduct_60 : decode cX3_readProduct 60 = .ok (.aload_n 0, 1) := by decide +kernel
theorem dX3_readProduct_61 : decode cX3_readProduct 61 = .ok (.aload_n 1, 1) := by decide +kernel
theorem dX3_readProduct_62 : decode cX3_readProduct 62 = .ok (.iload_n 2, 1) := by decide +kernel
theorem dX3_readProduct_63 : decode cX3_readProduct 63 = .ok (.invokevirtual 65, 3) := by decide +kernel
theorem dX3_readProduct_66 : decode cX3_readProduct 66 = .ok (.aload_n 0, 1) := by decide +kernel
theorem dX3_readProduct_67 : decode cX3_readProduct 67 = .ok (.iload 4, 2) := by decide +kernel
theorem dX3_readProduct_69 : decode cX3_readProduct 69 = .ok (.iconst 0, 1) := by decide +kernel
theorem dX3_readProduct_70 : decode cX3_readProduct 70 = .ok (.invokevirtual 61, 3) := by decide +kernel
theorem dX3_readProduct_73 : decode cX3_readProduct 73 = .ok (.iinc 3 1, 3) := by decide +kernel
theorem dX3_readProduct_76 : decode cX3_readProduct 76 = .ok (.goto (-68), 3) := by decide +kernel
theorem dX3_readProduct_79 : decode cX3_readProduct 79 = .ok (.return_, 1) := by decide +kernel
theorem dX3_readThing_0 : decode cX3_readThing 0 = .ok (.aload_n 1, 1) := by decide +kernel
theorem dX3_readThing_1 : decode cX3_readThing 1 = .ok (.invokevirtual 53, 3) := by decide +kernel
theorem dX3_readThing_4 : decode cX3_readThing 4 = .ok (.ifCond .eq 18, 3) := by decide +kernel
theorem dX3_readThing_7 : decode cX3_readThing 7 = .ok (.aload_n 0, 1) := by decide +kernel
theorem dX3_readThing_8 : decode cX3_readThing 8 = .ok (.getfield 28, 3) := by decide +kernel
theorem dX3_readThing_11 : decode cX3_readThing 11 = .ok (.bipush 40, 2) := by decide +kernel
theorem dX3_readThing_13 : decode cX3_readThing 13 = .ok (.if_icmp .ge 9, 3) := by decide +kernel
theorem dX3_readThing_16 : decode cX3_readThing 16 = .ok (.iload_n 2, 1) := by decide +kernel
theorem dX3_readThing_17 : decode cX3_readThing 17 = .ok (.bipush 8, 2) := by decide +kernel
theorem dX3_readThing_19 : decode cX3_readThing 19 = .ok (.if_icmp .le 12, 3) := by decide +kernel
theorem dX3_readThing_22 : decode cX3_readThing 22 = .ok (.aload_n 1, 1) := by decide +kernel
theorem dX3_readThing_23 : decode cX3_readThing 23 = .ok (.aload_n 1, 1) := by decide +kernel
theorem dX3_readThing_24 : decode cX3_readThing 24 = .ok (.getfield 43, 3) := by decide +kernel
theorem dX3_readThing_27 : decode cX3_readThing 27 = .ok (.invokevirtual 46, 3) := by decide +kernel
theorem dX3_readThing_30 : decode cX3_readThing 30 = .ok (.return_, 1) := by decide +kernel
theorem dX3_readThing_31 : decode cX3_readThing 31 = .ok (.aload_n 0, 1) := by decide +kernel
theorem dX3_readThing_32 : decode cX3_readThing 32 = .ok (.dup, 1) := by decide +kernel
theorem dX3_readThing_33 : decode cX3_readThing 33 = .ok (.getfield 28, 3) := by decide +kernel
theorem dX3_readThing_36 : decode cX3_readThing 36 = .ok (.iconst 1, 1) := by decide +kernel
theorem dX3_readThing_37 : decode cX3_readThing 37 = .ok (.iadd, 1) := by decide +kernel
theorem dX3_readThing_38 : decode cX3_readThing 38 = .ok (.putfield 28, 3) := by decide +kernel
theorem dX3_readThing_41 : decode cX3_readThing 41 = .ok (.aload_n 1, 1) := by decide +kernel
theorem dX3_readThing_42 : decode cX3_readThing 42 = .ok (.invokevirtual 68, 3) := by decide +kernel
theorem dX3_readThing_45 : decode cX3_readThing 45 = .ok (.ifCond .eq 14, 3) := by decide +kernel
theorem dX3_readThing_48 : decode cX3_readThing 48 = .ok (.aload_n 0, 1) := by decide +kernel
theorem dX3_readThing_49 : decode cX3_readThing 49 = .ok (.bipush 48, 2) := by decide +kernel
theorem dX3_readThing_51 : decode cX3_readThing 51 = .ok (.aload_n 1, 1) := by decide +kernel
theorem dX3_readThing_52 : decode cX3_readThing 52 = .ok (.invokevirtual 71, 3) := by decide +kernel
theorem dX3_readThing_55 : decode cX3_readThing 55 = .ok (.invokevirtual 61, 3) := by decide +kernel
theorem dX3_readThing_58 : decode cX3_readThing 58 = .ok (.return_, 1) := by decide +kernel
theorem dX3_readThing_59 : decode cX3_readThing 59 = .ok (.aload_n 1, 1) := by decide +kernel
theorem dX3_readThing_60 : decode cX3_readThing 60 = .ok (.invokevirtual 57, 3) := by decide +kernel
theorem dX3_readThing_63 : decode cX3_readThing 63 = .ok (.istore_n 3, 1) := by decide +kernel
theorem dX3_readThing_64 : decode cX3_readThing 64 = .ok (.iload_n 3, 1) := by decide +kernel
theorem dX3_readThing_65 : decode cX3_readThing 65 = .ok (.bipush 105, 2) := by decide +kernel
theorem dX3_readThing_67 : decode cX3_readThing 67 = .ok (.if_icmp .eq 27, 3) := by decide +kernel
theorem dX3_readThing_70 : decode cX3_readThing 70 = .ok (.iload_n 3, 1) := by decide +kernel
theorem dX3_readThing_71 : decode cX3_readThing 71 = .ok (.bipush 115, 2) := by decide +kernel
theorem dX3_readThing_73 : decode cX3_readThing 73 = .ok (.if_icmp .eq 21, 3) := by decide +kernel
theorem dX3_readThing_76 : decode cX3_readThing 76 = .ok (.iload_n 3, 1) := by decide +kernel
theorem dX3_readThing_77 : decode cX3_readThing 77 = .ok (.bipush 119, 2) := by decide +kernel
theorem dX3_readThing_79 : decode cX3_readThing 79 = .ok (.if_icmp .eq 15, 3) := by decide +kernel
theorem dX3_readThing_82 : decode cX3_readThing 82 = .ok (.iload_n 3, 1) := by decide +kernel
theorem dX3_readThing_83 : decode cX3_readThing 83 = .ok (.bipush 104, 2) := by decide +kernel
theorem dX3_readThing_85 : decode cX3_readThing 85 = .ok (.if_icmp .eq 9, 3) := by decide +kernel
theorem dX3_readThing_88 : decode cX3_readThing 88 = .ok (.iload_n 3, 1) := by decide +kernel
theorem dX3_readThing_89 : decode cX3_readThing 89 = .ok (.bipush 116, 2) := by decide +kernel
theorem dX3_readThing_91 : decode cX3_readThing 91 = .ok (.if_icmp .ne 22, 3) := by decide +kernel
theorem dX3_readThing_94 : decode cX3_readThing 94 = .ok (.aload_n 1, 1) := by decide +kernel
theorem dX3_readThing_95 : decode cX3_readThing 95 = .ok (.dup, 1) := by decide +kernel
theorem dX3_readThing_96 : decode cX3_readThing 96 = .ok (.getfield 43, 3) := by decide +kernel
theorem dX3_readThing_99 : decode cX3_readThing 99 = .ok (.iconst 1, 1) := by decide +kernel
theorem dX3_readThing_100 : decode cX3_readThing 100 = .ok (.iadd, 1) := by decide +kernel
theorem dX3_readThing_101 : decode cX3_readThing 101 = .ok (.putfield 43, 3) := by decide +kernel
theorem dX3_readThing_104 : decode cX3_readThing 104 = .ok (.aload_n 0, 1) := by decide +kernel
theorem dX3_readThing_105 : decode cX3_readThing 105 = .ok (.iload_n 3, 1) := by decide +kernel
theorem dX3_readThing_106 : decode cX3_readThing 106 = .ok (.iconst 0, 1) := by decide +kernel
theorem dX3_readThing_107 : decode cX3_readThing 107 = .ok (.invokevirtual 61, 3) := by decide +kernel
theorem dX3_readThing_110 : decode cX3_readThing 110 = .ok (.goto 84, 3) := by decide +kernel
theorem dX3_readThing_113 : decode cX3_readThing 113 = .ok (.aload_n 1, 1) := by decide +kernel
theorem dX3_readThing_114 : decode cX3_readThing 114 = .ok (.bipush 40, 2) := by decide +kernel
theorem dX3_readThing_116 : decode cX3_readThing 116 = .ok (.invokevirtual 74, 3) := by decide +kernel
theorem dX3_readThing_119 : decode cX3_readThing 119 = .ok (.ifCond .eq 20, 3) := by decide +kernel
theorem dX3_readThing_122 : decode cX3_readThing 122 = .ok (.aload_n 0, 1) := by decide +kernel
theorem dX3_readThing_123 : decode cX3_readThing 123 = .ok (.aload_n 1, 1) := by decide +kernel
theorem dX3_readThing_124 : decode cX3_readThing 124 = .ok (.iload_n 2, 1) := by decide +kernel
theorem dX3_readThing_125 : decode cX3_readThing 125 = .ok (.iconst 1, 1) := by decide +kernel
theorem dX3_readThing_126 : decode cX3_readThing 126 = .ok (.iadd, 1) := by decide +kernel
theorem dX3_readThing_127 : decode cX3_readThing 127 = .ok (.invokevirtual 39, 3) := by decide +kernel
theorem dX3_readThing_130 : decode cX3_readThing 130 = .ok (.aload_n 1, 1) := by decide +kernel
theorem dX3_readThing_131 : decode cX3_readThing 131 = .ok (.bipush 41, 2) := by decide +kernel
theorem dX3_readThing_133 : decode cX3_readThing 133 = .ok (.invokevirtual 78, 3) := by decide +kernel
theorem dX3_readThing_136 : decode cX3_readThing 136 = .ok (.goto 58, 3) := by decide +kernel
theorem dX3_readThing_139 : decode cX3_readThing 139 = .ok (.aload_n 1, 1) := by decide +kernel
theorem dX3_readThing_140 : decode cX3_readThing 140 = .ok (.bipush 45, 2) := by decide +kernel
theorem dX3_readThing_142 : decode cX3_readThing 142 = .ok (.invokevirtual 74, 3) := by decide +kernel
theorem dX3_readThing_145 : decode cX3_readThing 145 = .ok (.ifCond .eq 21, 3) := by decide +kernel
theorem dX3_readThing_148 : decode cX3_readThing 148 = .ok (.aload_n 0, 1) := by decide +kernel
theorem dX3_readThing_149 : decode cX3_readThing 149 = .ok (.aload_n 1, 1) := by decide +kernel
theorem dX3_readThing_150 : decode cX3_readThing 150 = .ok (.iload_n 2, 1) := by decide +kernel
theorem dX3_readThing_151 : decode cX3_readThing 151 = .ok (.iconst 1, 1) := by decide +kernel
theorem dX3_readThing_152 : decode cX3_readThing 152 = .ok (.iadd, 1) := by decide +kernel
theorem dX3_readThing_153 : decode cX3_readThing 153 = .ok (.invokevirtual 65, 3) := by decide +kernel
theorem dX3_readThing_156 : decode cX3_readThing 156 = .ok (.aload_n 0, 1) := by decide +kernel
theorem dX3_readThing_157 : decode cX3_readThing 157 = .ok (.bipush 110, 2) := by decide +kernel
theorem dX3_readThing_159 : decode cX3_readThing 159 = .ok (.iconst 0, 1) := by decide +kernel
theorem dX3_readThing_160 : decode cX3_readThing 160 = .ok (.invokevirtual 61, 3) := by decide +kernel
theorem dX3_readThing_163 : decode cX3_readThing 163 = .ok (.goto 31, 3) := by decide +kernel
theorem dX3_readThing_166 : decode cX3_readThing 166 = .ok (.aload_n 1, 1) := by decide +kernel
theorem dX3_readThing_167 : decode cX3_readThing 167 = .ok (.bipush 91, 2) := by decide +kernel
theorem dX3_readThing_169 : decode cX3_readThing 169 = .ok (.invokevirtual 74, 3) := by decide +kernel
theorem dX3_readThing_172 : decode cX3_readThing 172 = .ok (.ifCond .eq 14, 3) := by decide +kernel
theorem dX3_readThing_175 : decode cX3_readThing 175 = .ok (.aload_n 0, 1) := by decide +kernel
theorem dX3_readThing_176 : decode cX3_readThing 176 = .ok (.aload_n 1, 1) := by decide +kernel
theorem dX3_readThing_177 : decode cX3_readThing 177 = .ok (.iload_n 2, 1) := by decide +kernel
theorem dX3_readThing_178 : decode cX3_readThing 178 = .ok (.iconst 1, 1) := by decide +kernel
theorem dX3_readThing_179 : decode cX3_readThing 179 = .ok (.iadd, 1) := by decide +kernel
theorem dX3_readThing_180 : decode cX3_readThing 180 = .ok (.invokevirtual 81, 3) := by decide +kernel
theorem dX3_readThing_183 : decode cX3_readThing 183 = .ok (.goto 11, 3) := by decide +kernel
theorem dX3_readThing_186 : decode cX3_readThing 186 = .ok (.aload_n 1, 1) := by decide +kernel
theorem dX3_readThing_187 : decode cX3_readThing 187 = .ok (.aload_n 1, 1) := by decide +kernel
theorem dX3_readThing_188 : decode cX3_readThing 188 = .ok (.getfield 43, 3) := by decide +kernel
theorem dX3_readThing_191 : decode cX3_readThing 191 = .ok (.invokevirtual 46, 3) := by decide +kernel
theorem dX3_readThing_194 : decode cX3_readThing 194 = .ok (.return_, 1) := by decide +kernel
theorem dX3_readChoice_0 : decode cX3_readChoice 0 = .ok (.aload_n 0, 1) := by decide +kernel
theorem dX3_readChoice_1 : decode cX3_readChoice 1 = .ok (.aload_n 1, 1) := by decide +kernel
theorem dX3_readChoice_2 : decode cX3_readChoice 2 = .ok (.iload_n 2, 1) := by decide +kernel
theorem dX3_readChoice_3 : decode cX3_readChoice 3 = .ok (.invokevirtual 39, 3) := by decide +kernel
theorem dX3_readChoice_6 : decode cX3_readChoice 6 = .ok (.aload_n 1, 1) := by decide +kernel
theorem dX3_readChoice_7 : decode cX3_readChoice 7 = .ok (.invokevirtual 57, 3) := by decide +kernel
theorem dX3_readChoice_10 : decode cX3_readChoice 10 = .ok (.istore_n 3, 1) := by decide +kernel
theorem dX3_readChoice_11 : decode cX3_readChoice 11 = .ok (.aload_n 1, 1) := by decide +kernel
theorem dX3_readChoice_12 : decode cX3_readChoice 12 = .ok (.bipush 60, 2) := by decide +kernel
theorem dX3_readChoice_14 : decode cX3_readChoice 14 = .ok (.invokevirtual 74, 3) := by decide +kernel
theorem dX3_readChoice_17 : decode cX3_readChoice 17 = .ok (.ifCond .ne 9, 3) := by decide +kernel
theorem dX3_readChoice_20 : decode cX3_readChoice 20 = .ok (.aload_n 1, 1) := by decide +kernel
theorem dX3_readChoice_21 : decode cX3_readChoice 21 = .ok (.bipush 61, 2) := by decide +kernel
theorem dX3_readChoice_23 : decode cX3_readChoice 23 = .ok (.invokevirtual 78, 3) := by decide +kernel
theorem dX3_readChoice_26 : decode cX3_readChoice 26 = .ok (.aload_n 0, 1) := by decide +kernel
theorem dX3_readChoice_27 : decode cX3_readChoice 27 = .ok (.aload_n 1, 1) := by decide +kernel
theorem dX3_readChoice_28 : decode cX3_readChoice 28 = .ok (.iload_n 2, 1) := by decide +kernel
theorem dX3_readChoice_29 : decode cX3_readChoice 29 = .ok (.invokevirtual 39, 3) := by decide +kernel
theorem dX3_readChoice_32 : decode cX3_readChoice 32 = .ok (.aload_n 1, 1) := by decide +kernel
theorem dX3_readChoice_33 : decode cX3_readChoice 33 = .ok (.bipush 63, 2) := by decide +kernel
theorem dX3_readChoice_35 : decode cX3_readChoice 35 = .ok (.invokevirtual 78, 3) := by decide +kernel
theorem dX3_readChoice_38 : decode cX3_readChoice 38 = .ok (.aload_n 0, 1) := by decide +kernel
theorem dX3_readChoice_39 : decode cX3_readChoice 39 = .ok (.aload_n 1, 1) := by decide +kernel
theorem dX3_readChoice_40 : decode cX3_readChoice 40 = .ok (.iload_n 2, 1) := by decide +kernel
theorem dX3_readChoice_41 : decode cX3_readChoice 41 = .ok (.invokevirtual 39, 3) := by decide +kernel
theorem dX3_readChoice_44 : decode cX3_readChoice 44 = .ok (.aload_n 1, 1) := by decide +kernel
theorem dX3_readChoice_45 : decode cX3_readChoice 45 = .ok (.bipush 58, 2) := by decide +kernel
theorem dX3_readChoice_47 : decode cX3_readChoice 47 = .ok (.invokevirtual 78, 3) := by decide +kernel
theorem dX3_readChoice_50 : decode cX3_readChoice 50 = .ok (.aload_n 0, 1) := by decide +kernel
theorem dX3_readChoice_51 : decode cX3_readChoice 51 = .ok (.aload_n 1, 1) := by decide +kernel
theorem dX3_readChoice_52 : decode cX3_readChoice 52 = .ok (.iload_n 2, 1) := by decide +kernel
theorem dX3_readChoice_53 : decode cX3_readChoice 53 = .ok (.invokevirtual 39, 3) := by decide +kernel
theorem dX3_readChoice_56 : decode cX3_readChoice 56 = .ok (.aload_n 1, 1) := by decide +kernel
theorem dX3_readChoice_57 : decode cX3_readChoice 57 = .ok (.bipush 93, 2) := by decide +kernel
theorem dX3_readChoice_59 : decode cX3_readChoice 59 = .ok (.invokevirtual 78, 3) := by decide +kernel
theorem dX3_readChoice_62 : decode cX3_readChoice 62 = .ok (.aload_n 0, 1) := by decide +kernel
theorem dX3_readChoice_63 : decode cX3_readChoice 63 = .ok (.iload_n 3, 1) := by decide +kernel
theorem dX3_readChoice_64 : decode cX3_readChoice 64 = .ok (.iconst 0, 1) := by decide +kernel
theorem dX3_readChoice_65 : decode cX3_readChoice 65 = .ok (.invokevirtual 61, 3) := by decide +kernel
theorem dX3_readChoice_68 : decode cX3_readChoice 68 = .ok (.return_, 1) := by decide +kernel
theorem dX3_add_0 : decode cX3_add 0 = .ok (.aload_n 0, 1) := by decide +kernel
theorem dX3_add_1 : decode cX3_add 1 = .ok (.getfield 21, 3) := by decide +kernel
theorem dX3_add_4 : decode cX3_add 4 = .ok (.bipush 80, 2) := by decide +kernel
theorem dX3_add_6 : decode cX3_add 6 = .ok (.if_icmp .ge 33, 3) := by decide +kernel
theorem dX3_add_9 : decode cX3_add 9 = .ok (.aload_n 0, 1) := by decide +kernel
theorem dX3_add_10 : decode cX3_add 10 = .ok (.getfield 11, 3) := by decide +kernel
theorem dX3_add_13 : decode cX3_add 13 = .ok (.aload_n 0, 1) := by decide +kernel
theorem dX3_add_14 : decode cX3_add 14 = .ok (.getfield 21, 3) := by decide +kernel
theorem dX3_add_17 : decode cX3_add 17 = .ok (.iload_n 1, 1) := by decide +kernel
theorem dX3_add_18 : decode cX3_add 18 = .ok (.iastore, 1) := by decide +kernel
theorem dX3_add_19 : decode cX3_add 19 = .ok (.aload_n 0, 1) := by decide +kernel
theorem dX3_add_20 : decode cX3_add 20 = .ok (.getfield 15, 3) := by decide +kernel
theorem dX3_add_23 : decode cX3_add 23 = .ok (.aload_n 0, 1) := by decide +kernel
theorem dX3_add_24 : decode cX3_add 24 = .ok (.getfield 21, 3) := by decide +kernel
theorem dX3_add_27 : decode cX3_add 27 = .ok (.iload_n 2, 1) := by decide +kernel
theorem dX3_add_28 : decode cX3_add 28 = .ok (.iastore, 1) := by decide +kernel
theorem dX3_add_29 : decode cX3_add 29 = .ok (.aload_n 0, 1) := by decide +kernel
theorem dX3_add_30 : decode cX3_add 30 = .ok (.dup, 1) := by decide +kernel
theorem dX3_add_31 : decode cX3_add 31 = .ok (.getfield 21, 3) := by decide +kernel
theorem dX3_add_34 : decode cX3_add 34 = .ok (.iconst 1, 1) := by decide +kernel
theorem dX3_add_35 : decode cX3_add 35 = .ok (.iadd, 1) := by decide +kernel
theorem dX3_add_36 : decode cX3_add 36 = .ok (.putfield 21, 3) := by decide +kernel
theorem dX3_add_39 : decode cX3_add 39 = .ok (.return_, 1) := by decide +kernel
theorem dX3_ask_0 : decode cX3_ask 0 = .ok (.aload_n 0, 1) := by decide +kernel
theorem dX3_ask_1 : decode cX3_ask 1 = .ok (.iconst 0, 1) := by decide +kernel
theorem dX3_ask_2 : decode cX3_ask 2 = .ok (.putfield 25, 3) := by decide +kernel
theorem dX3_ask_5 : decode cX3_ask 5 = .ok (.iconst 0, 1) := by decide +kernel
theorem dX3_ask_6 : decode cX3_ask 6 = .ok (.istore_n 3, 1) := by decide +kernel
theorem dX3_ask_7 : decode cX3_ask 7 = .ok (.iload_n 3, 1) := by decide +kernel
theorem dX3_ask_8 : decode cX3_ask 8 = .ok (.aload_n 0, 1) := by decide +kernel
theorem dX3_ask_9 : decode cX3_ask 9 = .ok (.getfield 21, 3) := by decide +kernel
theorem dX3_ask_12 : decode cX3_ask 12 = .ok (.if_icmp .ge 55, 3) := by decide +kernel
theorem dX3_ask_15 : decode cX3_ask 15 = .ok (.aload_n 0, 1) := by decide +kernel
theorem dX3_ask_16 : decode cX3_ask 16 = .ok (.getfield 11, 3) := by decide +kernel
theorem dX3_ask_19 : decode cX3_ask 19 = .ok (.iload_n 3, 1) := by decide +kernel
theorem dX3_ask_20 : decode cX3_ask 20 = .ok (.iaload, 1) := by decide +kernel
theorem dX3_ask_21 : decode cX3_ask 21 = .ok (.invokestatic 84, 3) := by decide +kernel
theorem dX3_ask_24 : decode cX3_ask 24 = .ok (.ifCond .eq 27, 3) := by decide +kernel
theorem dX3_ask_27 : decode cX3_ask 27 = .ok (.aload_n 0, 1) := by decide +kernel
theorem dX3_ask_28 : decode cX3_ask 28 = .ok (.aload_n 0, 1) := by decide +kernel
theorem dX3_ask_29 : decode cX3_ask 29 = .ok (.getfield 11, 3) := by decide +kernel
theorem dX3_ask_32 : decode cX3_ask 32 = .ok (.iload_n 3, 1) := by decide +kernel
theorem dX3_ask_33 : decode cX3_ask 33 = .ok (.iaload, 1) := by decide +kernel
theorem dX3_ask_34 : decode cX3_ask 34 = .ok (.aload_n 0, 1) := by decide +kernel
theorem dX3_ask_35 : decode cX3_ask 35 = .ok (.getfield 15, 3) := by decide +kernel
theorem dX3_ask_38 : decode cX3_ask 38 = .ok (.iload_n 3, 1) := by decide +kernel
theorem dX3_ask_39 : decode cX3_ask 39 = .ok (.iaload, 1) := by decide +kernel
theorem dX3_ask_40 : decode cX3_ask 40 = .ok (.aload_n 1, 1) := by decide +kernel
theorem dX3_ask_41 : decode cX3_ask 41 = .ok (.iload_n 2, 1) := by decide +kernel
theorem dX3_ask_42 : decode cX3_ask 42 = .ok (.invokestatic 87, 3) := by decide +kernel
theorem dX3_ask_45 : decode cX3_ask 45 = .ok (.invokevirtual 91, 3) := by decide +kernel
theorem dX3_ask_48 : decode cX3_ask 48 = .ok (.goto 13, 3) := by decide +kernel
theorem dX3_ask_51 : decode cX3_ask 51 = .ok (.aload_n 0, 1) := by decide +kernel
theorem dX3_ask_52 : decode cX3_ask 52 = .ok (.aload_n 0, 1) := by decide +kernel
theorem dX3_ask_53 : decode cX3_ask 53 = .ok (.getfield 11, 3) := by decide +kernel
theorem dX3_ask_56 : decode cX3_ask 56 = .ok (.iload_n 3, 1) := by decide +kernel
theorem dX3_ask_57 : decode cX3_ask 57 = .ok (.iaload, 1) := by decide +kernel
theorem dX3_ask_58 : decode cX3_ask 58 = .ok (.invokevirtual 94, 3) := by decide +kernel
theorem dX3_ask_61 : decode cX3_ask 61 = .ok (.iinc 3 1, 3) := by decide +kernel
theorem dX3_ask_64 : decode cX3_ask 64 = .ok (.goto (-57), 3) := by decide +kernel
theorem dX3_ask_67 : decode cX3_ask 67 = .ok (.aload_n 0, 1) := by decide +kernel
theorem dX3_ask_68 : decode cX3_ask 68 = .ok (.invokevirtual 97, 3) := by decide +kernel
theorem dX3_ask_71 : decode cX3_ask 71 = .ok (.ireturn, 1) := by decide +kernel
theorem dX3_isLeaf_0 : decode cX3_isLeaf 0 = .ok (.iload_n 0, 1) := by decide +kernel
theorem dX3_isLeaf_1 : decode cX3_isLeaf 1 = .ok (.bipush 48, 2) := by decide +kernel
theorem dX3_isLeaf_3 : decode cX3_isLeaf 3 = .ok (.if_icmp .eq 33, 3) := by decide +kernel
theorem dX3_isLeaf_6 : decode cX3_isLeaf 6 = .ok (.iload_n 0, 1) := by decide +kernel
theorem dX3_isLeaf_7 : decode cX3_isLeaf 7 = .ok (.bipush 105, 2) := by decide +kernel
theorem dX3_isLeaf_9 : decode cX3_isLeaf 9 = .ok (.if_icmp .eq 27, 3) := by decide +kernel
theorem dX3_isLeaf_12 : decode cX3_isLeaf 12 = .ok (.iload_n 0, 1) := by decide +kernel
theorem dX3_isLeaf_13 : decode cX3_isLeaf 13 = .ok (.bipush 115, 2) := by decide +kernel
theorem dX3_isLeaf_15 : decode cX3_isLeaf 15 = .ok (.if_icmp .eq 21, 3) := by decide +kernel
theorem dX3_isLeaf_18 : decode cX3_isLeaf 18 = .ok (.iload_n 0, 1) := by decide +kernel
theorem dX3_isLeaf_19 : decode cX3_isLeaf 19 = .ok (.bipush 119, 2) := by decide +kernel
theorem dX3_isLeaf_21 : decode cX3_isLeaf 21 = .ok (.if_icmp .eq 15, 3) := by decide +kernel
theorem dX3_isLeaf_24 : decode cX3_isLeaf 24 = .ok (.iload_n 0, 1) := by decide +kernel
theorem dX3_isLeaf_25 : decode cX3_isLeaf 25 = .ok (.bipush 104, 2) := by decide +kernel
theorem dX3_isLeaf_27 : decode cX3_isLeaf 27 = .ok (.if_icmp .eq 9, 3) := by decide +kernel
theorem dX3_isLeaf_30 : decode cX3_isLeaf 30 = .ok (.iload_n 0, 1) := by decide +kernel
theorem dX3_isLeaf_31 : decode cX3_isLeaf 31 = .ok (.bipush 116, 2) := by decide +kernel
theorem dX3_isLeaf_33 : decode cX3_isLeaf 33 = .ok (.if_icmp .ne 7, 3) := by decide +kernel
theorem dX3_isLeaf_36 : decode cX3_isLeaf 36 = .ok (.iconst 1, 1) := by decide +kernel
theorem dX3_isLeaf_37 : decode cX3_isLeaf 37 = .ok (.goto 4, 3) := by decide +kernel
theorem dX3_isLeaf_40 : decode cX3_isLeaf 40 = .ok (.iconst 0, 1) := by decide +kernel
theorem dX3_isLeaf_41 : decode cX3_isLeaf 41 = .ok (.ireturn, 1) := by decide +kernel
theorem dX3_leaf_0 : decode cX3_leaf 0 = .ok (.iload_n 0, 1) := by decide +kernel
theorem dX3_leaf_1 : decode cX3_leaf 1 = .ok (.lookupswitch 76 #[(104, 66), (105, 51), (115, 53), (116, 71), (119, 60)], 51) := by decide +kernel
theorem dX3_leaf_52 : decode cX3_leaf 52 = .ok (.iload_n 3, 1) := by decide +kernel
theorem dX3_leaf_53 : decode cX3_leaf 53 = .ok (.ireturn, 1) := by decide +kernel
theorem dX3_leaf_54 : decode cX3_leaf 54 = .ok (.aload_n 2, 1) := by decide +kernel
theorem dX3_leaf_55 : decode cX3_leaf 55 = .ok (.getfield 100, 3) := by decide +kernel
theorem dX3_leaf_58 : decode cX3_leaf 58 = .ok (.iload_n 3, 1) := by decide +kernel
theorem dX3_leaf_59 : decode cX3_leaf 59 = .ok (.iaload, 1) := by decide +kernel
theorem dX3_leaf_60 : decode cX3_leaf 60 = .ok (.ireturn, 1) := by decide +kernel
theorem dX3_leaf_61 : decode cX3_leaf 61 = .ok (.aload_n 2, 1) := by decide +kernel
theorem dX3_leaf_62 : decode cX3_leaf 62 = .ok (.iload_n 3, 1) := by decide +kernel
theorem dX3_leaf_63 : decode cX3_leaf 63 = .ok (.invokevirtual 105, 3) := by decide +kernel
theorem dX3_leaf_66 : decode cX3_leaf 66 = .ok (.ireturn, 1) := by decide +kernel
theorem dX3_leaf_67 : decode cX3_leaf 67 = .ok (.aload_n 2, 1) := by decide +kernel
theorem dX3_leaf_68 : decode cX3_leaf 68 = .ok (.getfield 109, 3) := by decide +kernel
theorem dX3_leaf_71 : decode cX3_leaf 71 = .ok (.ireturn, 1) := by decide +kernel
theorem dX3_leaf_72 : decode cX3_leaf 72 = .ok (.aload_n 2, 1) := by decide +kernel
theorem dX3_leaf_73 : decode cX3_leaf 73 = .ok (.getfield 112, 3) := by decide +kernel
theorem dX3_leaf_76 : decode cX3_leaf 76 = .ok (.ireturn, 1) := by decide +kernel
theorem dX3_leaf_77 : decode cX3_leaf 77 = .ok (.iload_n 1, 1) := by decide +kernel
theorem dX3_leaf_78 : decode cX3_leaf 78 = .ok (.ireturn, 1) := by decide +kernel
theorem dX3_reckon_0 : decode cX3_reckon 0 = .ok (.aload_n 0, 1) := by decide +kernel
theorem dX3_reckon_1 : decode cX3_reckon 1 = .ok (.invokevirtual 97, 3) := by decide +kernel
theorem dX3_reckon_4 : decode cX3_reckon 4 = .ok (.istore_n 2, 1) := by decide +kernel
theorem dX3_reckon_5 : decode cX3_reckon 5 = .ok (.iload_n 1, 1) := by decide +kernel
theorem dX3_reckon_6 : decode cX3_reckon 6 = .ok (.bipush 110, 2) := by decide +kernel
theorem dX3_reckon_8 : decode cX3_reckon 8 = .ok (.if_icmp .ne 10, 3) := by decide +kernel
theorem dX3_reckon_11 : decode cX3_reckon 11 = .ok (.aload_n 0, 1) := by decide +kernel
theorem dX3_reckon_12 : decode cX3_reckon 12 = .ok (.iload_n 2, 1) := by decide +kernel
theorem dX3_reckon_13 : decode cX3_reckon 13 = .ok (.ineg, 1) := by decide +kernel
theorem dX3_reckon_14 : decode cX3_reckon 14 = .ok (.invokevirtual 91, 3) := by decide +kernel
theorem dX3_reckon_17 : decode cX3_reckon 17 = .ok (.return_, 1) := by decide +kernel
theorem dX3_reckon_18 : decode cX3_reckon 18 = .ok (.aload_n 0, 1) := by decide +kernel
theorem dX3_reckon_19 : decode cX3_reckon 19 = .ok (.invokevirtual 97, 3) := by decide +kernel
theorem dX3_reckon_22 : decode cX3_reckon 22 = .ok (.istore_n 3, 1) := by decide +kernel
theorem dX3_reckon_23 : decode cX3_reckon 23 = .ok (.iload_n 1, 1) := by decide +kernel
theorem dX3_reckon_24 : decode cX3_reckon 24 = .ok (.bipush 60, 2) := by decide +kernel
theorem dX3_reckon_26 : decode cX3_reckon 26 = .ok (.if_icmp .eq 9, 3) := by decide +kernel
theorem dX3_reckon_29 : decode cX3_reckon 29 = .ok (.iload_n 1, 1) := by decide +kernel
theorem dX3_reckon_30 : decode cX3_reckon 30 = .ok (.bipush 61, 2) := by decide +kernel
theorem dX3_reckon_32 : decode cX3_reckon 32 = .ok (.if_icmp .ne 48, 3) := by decide +kernel
theorem dX3_reckon_35 : decode cX3_reckon 35 = .ok (.aload_n 0, 1) := by decide +kernel
theorem dX3_reckon_36 : decode cX3_reckon 36 = .ok (.invokevirtual 97, 3) := by decide +kernel
theorem dX3_reckon_39 : decode cX3_reckon 39 = .ok (.istore 4, 2) := by decide +kernel
theorem dX3_reckon_41 : decode cX3_reckon 41 = .ok (.aload_n 0, 1) := by decide +kernel
theorem dX3_reckon_42 : decode cX3_reckon 42 = .ok (.invokevirtual 97, 3) := by decide +kernel
theorem dX3_reckon_45 : decode cX3_reckon 45 = .ok (.istore 5, 2) := by decide +kernel
theorem dX3_reckon_47 : decode cX3_reckon 47 = .ok (.aload_n 0, 1) := by decide +kernel
theorem dX3_reckon_48 : decode cX3_reckon 48 = .ok (.iload_n 1, 1) := by decide +kernel
theorem dX3_reckon_49 : decode cX3_reckon 49 = .ok (.bipush 60, 2) := by decide +kernel
theorem dX3_reckon_51 : decode cX3_reckon 51 = .ok (.if_icmp .ne 13, 3) := by decide +kernel
theorem dX3_reckon_54 : decode cX3_reckon 54 = .ok (.iload 5, 2) := by decide +kernel
theorem dX3_reckon_56 : decode cX3_reckon 56 = .ok (.iload 4, 2) := by decide +kernel
theorem dX3_reckon_58 : decode cX3_reckon 58 = .ok (.if_icmp .ge 17, 3) := by decide +kernel
theorem dX3_reckon_61 : decode cX3_reckon 61 = .ok (.goto 10, 3) := by decide +kernel
theorem dX3_reckon_64 : decode cX3_reckon 64 = .ok (.iload 5, 2) := by decide +kernel
theorem dX3_reckon_66 : decode cX3_reckon 66 = .ok (.iload 4, 2) := by decide +kernel
theorem dX3_reckon_68 : decode cX3_reckon 68 = .ok (.if_icmp .ne 7, 3) := by decide +kernel
theorem dX3_reckon_71 : decode cX3_reckon 71 = .ok (.iload_n 3, 1) := by decide +kernel
theorem dX3_reckon_72 : decode cX3_reckon 72 = .ok (.goto 4, 3) := by decide +kernel
theorem dX3_reckon_75 : decode cX3_reckon 75 = .ok (.iload_n 2, 1) := by decide +kernel
theorem dX3_reckon_76 : decode cX3_reckon 76 = .ok (.invokevirtual 91, 3) := by decide +kernel
theorem dX3_reckon_79 : decode cX3_reckon 79 = .ok (.return_, 1) := by decide +kernel
theorem dX3_reckon_80 : decode cX3_reckon 80 = .ok (.aload_n 0, 1) := by decide +kernel
theorem dX3_reckon_81 : decode cX3_reckon 81 = .ok (.iload_n 1, 1) := by decide +kernel
theorem dX3_reckon_82 : decode cX3_reckon 82 = .ok (.iload_n 3, 1) := by decide +kernel
theorem dX3_reckon_83 : decode cX3_reckon 83 = .ok (.iload_n 2, 1) := by decide +kernel
theorem dX3_reckon_84 : decode cX3_reckon 84 = .ok (.invokestatic 115, 3) := by decide +kernel
theorem dX3_reckon_87 : decode cX3_reckon 87 = .ok (.invokevirtual 91, 3) := by decide +kernel
theorem dX3_reckon_90 : decode cX3_reckon 90 = .ok (.return_, 1) := by decide +kernel
theorem dX3_joined_0 : decode cX3_joined 0 = .ok (.iload_n 0, 1) := by decide +kernel
theorem dX3_joined_1 : decode cX3_joined 1 = .ok (.tableswitch 95 37 47 #[83, 95, 95, 95, 95, 67, 59, 95, 63, 95, 71], 59) := by decide +kernel
theorem dX3_joined_60 : decode cX3_joined 60 = .ok (.iload_n 1, 1) := by decide +kernel
theorem dX3_joined_61 : decode cX3_joined 61 = .ok (.iload_n 2, 1) := by decide +kernel
theorem dX3_joined_62 : decode cX3_joined 62 = .ok (.iadd, 1) := by decide +kernel
theorem dX3_joined_63 : decode cX3_joined 63 = .ok (.ireturn, 1) := by decide +kernel
theorem dX3_joined_64 : decode cX3_joined 64 = .ok (.iload_n 1, 1) := by decide +kernel
theorem dX3_joined_65 : decode cX3_joined 65 = .ok (.iload_n 2, 1) := by decide +kernel
theorem dX3_joined_66 : decode cX3_joined 66 = .ok (.isub, 1) := by decide +kernel
theorem dX3_joined_67 : decode cX3_joined 67 = .ok (.ireturn, 1) := by decide +kernel
theorem dX3_joined_68 : decode cX3_joined 68 = .ok (.iload_n 1, 1) := by decide +kernel
theorem dX3_joined_69 : decode cX3_joined 69 = .ok (.iload_n 2, 1) := by decide +kernel
theorem dX3_joined_70 : decode cX3_joined 70 = .ok (.imul, 1) := by decide +kernel
theorem dX3_joined_71 : decode cX3_joined 71 = .ok (.ireturn, 1) := by decide +kernel
theorem dX3_joined_72 : decode cX3_joined 72 = .ok (.iload_n 2, 1) := by decide +kernel
theorem dX3_joined_73 : decode cX3_joined 73 = .ok (.ifCond .ne 7, 3) := by decide +kernel
theorem dX3_joined_76 : decode cX3_joined 76 = .ok (.iconst 0, 1) := by decide +kernel
theorem dX3_joined_77 : decode cX3_joined 77 = .ok (.goto 6, 3) := by decide +kernel
theorem dX3_joined_80 : decode cX3_joined 80 = .ok (.iload_n 1, 1) := by decide +kernel
theorem dX3_joined_81 : decode cX3_joined 81 = .ok (.iload_n 2, 1) := by decide +kernel
theorem dX3_joined_82 : decode cX3_joined 82 = .ok (.idiv, 1) := by decide +kernel
theorem dX3_joined_83 : decode cX3_joined 83 = .ok (.ireturn, 1) := by decide +kernel
theorem dX3_joined_84 : decode cX3_joined 84 = .ok (.iload_n 2, 1) := by decide +kernel
theorem dX3_joined_85 : decode cX3_joined 85 = .ok (.ifCond .ne 7, 3) := by decide +kernel
theorem dX3_joined_88 : decode cX3_joined 88 = .ok (.iconst 0, 1) := by decide +kernel
theorem dX3_joined_89 : decode cX3_joined 89 = .ok (.goto 6, 3) := by decide +kernel
theorem dX3_joined_92 : decode cX3_joined 92 = .ok (.iload_n 1, 1) := by decide +kernel
theorem dX3_joined_93 : decode cX3_joined 93 = .ok (.iload_n 2, 1) := by decide +kernel
theorem dX3_joined_94 : decode cX3_joined 94 = .ok (.irem, 1) := by decide +kernel
theorem dX3_joined_95 : decode cX3_joined 95 = .ok (.ireturn, 1) := by decide +kernel
theorem dX3_joined_96 : decode cX3_joined 96 = .ok (.iconst 0, 1) := by decide +kernel
theorem dX3_joined_97 : decode cX3_joined 97 = .ok (.ireturn, 1) := by decide +kernel
theorem dX3_push_0 : decode cX3_push 0 = .ok (.aload_n 0, 1) := by decide +kernel
theorem dX3_push_1 : decode cX3_push 1 = .ok (.getfield 25, 3) := by decide +kernel
theorem dX3_push_4 : decode cX3_push 4 = .ok (.bipush 40, 2) := by decide +kernel
theorem dX3_push_6 : decode cX3_push 6 = .ok (.if_icmp .ge 23, 3) := by decide +kernel
theorem dX3_push_9 : decode cX3_push 9 = .ok (.aload_n 0, 1) := by decide +kernel
theorem dX3_push_10 : decode cX3_push 10 = .ok (.getfield 18, 3) := by decide +kernel
theorem dX3_push_13 : decode cX3_push 13 = .ok (.aload_n 0, 1) := by decide +kernel
theorem dX3_push_14 : decode cX3_push 14 = .ok (.getfield 25, 3) := by decide +kernel
theorem dX3_push_17 : decode cX3_push 17 = .ok (.iload_n 1, 1) := by decide +kernel
theorem dX3_push_18 : decode cX3_push 18 = .ok (.iastore, 1) := by decide +kernel
theorem dX3_push_19 : decode cX3_push 19 = .ok (.aload_n 0, 1) := by decide +kernel
theorem dX3_push_20 : decode cX3_push 20 = .ok (.dup, 1) := by decide +kernel
theorem dX3_push_21 : decode cX3_push 21 = .ok (.getfield 25, 3) := by decide +kernel
theorem dX3_push_24 : decode cX3_push 24 = .ok (.iconst 1, 1) := by decide +kernel
theorem dX3_push_25 : decode cX3_push 25 = .ok (.iadd, 1) := by decide +kernel
theorem dX3_push_26 : decode cX3_push 26 = .ok (.putfield 25, 3) := by decide +kernel
theorem dX3_push_29 : decode cX3_push 29 = .ok (.return_, 1) := by decide +kernel
theorem dX3_pop_0 : decode cX3_pop 0 = .ok (.aload_n 0, 1) := by decide +kernel
theorem dX3_pop_1 : decode cX3_pop 1 = .ok (.getfield 25, 3) := by decide +kernel
theorem dX3_pop_4 : decode cX3_pop 4 = .ok (.iconst 1, 1) := by decide +kernel
theorem dX3_pop_5 : decode cX3_pop 5 = .ok (.if_icmp .ge 5, 3) := by decide +kernel
theorem dX3_pop_8 : decode cX3_pop 8 = .ok (.iconst 0, 1) := by decide +kernel
theorem dX3_pop_9 : decode cX3_pop 9 = .ok (.ireturn, 1) := by decide +kernel
theorem dX3_pop_10 : decode cX3_pop 10 = .ok (.aload_n 0, 1) := by decide +kernel
theorem dX3_pop_11 : decode cX3_pop 11 = .ok (.dup, 1) := by decide +kernel
theorem dX3_pop_12 : decode cX3_pop 12 = .ok (.getfield 25, 3) := by decide +kernel
theorem dX3_pop_15 : decode cX3_pop 15 = .ok (.iconst 1, 1) := by decide +kernel
theorem dX3_pop_16 : decode cX3_pop 16 = .ok (.isub, 1) := by decide +kernel
theorem dX3_pop_17 : decode cX3_pop 17 = .ok (.putfield 25, 3) := by decide +kernel
theorem dX3_pop_20 : decode cX3_pop 20 = .ok (.aload_n 0, 1) := by decide +kernel
theorem dX3_pop_21 : decode cX3_pop 21 = .ok (.getfield 18, 3) := by decide +kernel
theorem dX3_pop_24 : decode cX3_pop 24 = .ok (.aload_n 0, 1) := by decide +kernel
theorem dX3_pop_25 : decode cX3_pop 25 = .ok (.getfield 25, 3) := by decide +kernel
theorem dX3_pop_28 : decode cX3_pop 28 = .ok (.iaload, 1) := by decide +kernel
theorem dX3_pop_29 : decode cX3_pop 29 = .ok (.ireturn, 1) := by decide +kernel
theorem dX4_init_0 : decode cX4_init 0 = .ok (.aload_n 0, 1) := by decide +kernel
theorem dX4_init_1 : decode cX4_init 1 = .ok (.invokespecial 3, 3) := by decide +kernel
theorem dX4_init_4 : decode cX4_init 4 = .ok (.aload_n 0, 1) := by decide +kernel
theorem dX4_init_5 : decode cX4_init 5 = .ok (.sipush 4096, 3) := by decide +kernel
theorem dX4_init_8 : decode cX4_init 8 = .ok (.newarray .int, 2) := by decide +kernel
theorem dX4_init_10 : decode cX4_init 10 = .ok (.putfield 11, 3) := by decide +kernel
theorem dX4_init_13 : decode cX4_init 13 = .ok (.aload_n 0, 1) := by decide +kernel
theorem dX4_init_14 : decode cX4_init 14 = .ok (.iconst 0, 1) := by decide +kernel
theorem dX4_init_15 : decode cX4_init 15 = .ok (.putfield 15, 3) := by decide +kernel
theorem dX4_init_18 : decode cX4_init 18 = .ok (.aload_n 0, 1) := by decide +kernel
theorem dX4_init_19 : decode cX4_init 19 = .ok (.iconst 0, 1) := by decide +kernel
theorem dX4_init_20 : decode cX4_init 20 = .ok (.putfield 19, 3) := by decide +kernel
theorem dX4_init_23 : decode cX4_init 23 = .ok (.aload_n 0, 1) := by decide +kernel
theorem dX4_init_24 : decode cX4_init 24 = .ok (.iconst 0, 1) := by decide +kernel
theorem dX4_init_25 : decode cX4_init 25 = .ok (.putfield 22, 3) := by decide +kernel
theorem dX4_init_28 : decode cX4_init 28 = .ok (.aload_n 0, 1) := by decide +kernel
theorem dX4_init_29 : decode cX4_init 29 = .ok (.iconst 0, 1) := by decide +kernel
theorem dX4_init_30 : decode cX4_init 30 = .ok (.putfield 25, 3) := by decide +kernel
theorem dX4_init_33 : decode cX4_init 33 = .ok (.aload_n 0, 1) := by decide +kernel
theorem dX4_init_34 : decode cX4_init 34 = .ok (.iconst 0, 1) := by decide +kernel
theorem dX4_init_35 : decode cX4_init 35 = .ok (.putfield 28, 3) := by decide +kernel
theorem dX4_init_38 : decode cX4_init 38 = .ok (.aload_n 0, 1) := by decide +kernel
theorem dX4_init_39 : decode cX4_init 39 = .ok (.iconst 0, 1) := by decide +kernel
theorem dX4_init_40 : decode cX4_init 40 = .ok (.putfield 31, 3) := by decide +kernel
theorem dX4_init_43 : decode cX4_init 43 = .ok (.aload_n 0, 1) := by decide +kernel
theorem dX4_init_44 : decode cX4_init 44 = .ok (.iconst 0, 1) := by decide +kernel
theorem dX4_init_45 : decode cX4_init 45 = .ok (.putfield 34, 3) := by decide +kernel
theorem dX4_init_48 : decode cX4_init 48 = .ok (.aload_n 0, 1) := by decide +kernel
theorem dX4_init_49 : decode cX4_init 49 = .ok (.iconst 0, 1) := by decide +kernel
theorem dX4_init_50 : decode cX4_init 50 = .ok (.putfield 37, 3) := by decide +kernel
theorem dX4_init_53 : decode cX4_init 53 = .ok (.aload_n 0, 1) := by decide +kernel
theorem dX4_init_54 : decode cX4_init 54 = .ok (.iconst 0, 1) := by decide +kernel
theorem dX4_init_55 : decode cX4_init 55 = .ok (.putfield 40, 3) := by decide +kernel
theorem dX4_init_58 : decode cX4_init 58 = .ok (.aload_n 0, 1) := by decide +kernel
theorem dX4_init_59 : decode cX4_init 59 = .ok (.iconst 0, 1) := by decide +kernel
theorem dX4_init_60 : decode cX4_init 60 = .ok (.putfield 43, 3) := by decide +kernel
theorem dX4_init_63 : decode cX4_init 63 = .ok (.aload_n 0, 1) := by decide +kernel
theorem dX4_init_64 : decode cX4_init 64 = .ok (.iconst (-1), 1) := by decide +kernel
theorem dX4_init_65 : decode cX4_init 65 = .ok (.putfield 46, 3) := by decide +kernel
theorem dX4_init_68 : decode cX4_init 68 = .ok (.return_, 1) := by decide +kernel
theorem dX4_measure_0 : decode cX4_measure 0 = .ok (.aload_n 0, 1) := by decide +kernel
theorem dX4_measure_1 : decode cX4_measure 1 = .ok (.iconst 0, 1) := by decide +kernel
theorem dX4_measure_2 : decode cX4_measure 2 = .ok (.putfield 15, 3) := by decide +kernel
theorem dX4_measure_5 : decode cX4_measure 5 = .ok (.aload_n 0, 1) := by decide +kernel
theorem dX4_measure_6 : decode cX4_measure 6 = .ok (.iconst 0, 1) := by decide +kernel
theorem dX4_measure_7 : decode cX4_measure 7 = .ok (.putfield 19, 3) := by decide +kernel
theorem dX4_measure_10 : decode cX4_measure 10 = .ok (.aload_n 0, 1) := by decide +kernel
theorem dX4_measure_11 : decode cX4_measure 11 = .ok (.iconst (-1), 1) := by decide +kernel
theorem dX4_measure_12 : decode cX4_measure 12 = .ok (.putfield 22, 3) := by decide +kernel
theorem dX4_measure_15 : decode cX4_measure 15 = .ok (.aload_n 0, 1) := by decide +kernel
theorem dX4_measure_16 : decode cX4_measure 16 = .ok (.iload_n 2, 1) := by decide +kernel
theorem dX4_measure_17 : decode cX4_measure 17 = .ok (.putfield 25, 3) := by decide +kernel
theorem dX4_measure_20 : decode cX4_measure 20 = .ok (.iload 4, 2) := by decide +kernel
theorem dX4_measure_22 : decode cX4_measure 22 = .ok (.iconst 1, 1) := by decide +kernel
theorem dX4_measure_23 : decode cX4_measure 23 = .ok (.if_icmp .ge 7, 3) := by decide +kernel
theorem dX4_measure_26 : decode cX4_measure 26 = .ok (.iconst 0, 1) := by decide +kernel
theorem dX4_measure_27 : decode cX4_measure 27 = .ok (.goto 11, 3) := by decide +kernel
theorem dX4_measure_30 : decode cX4_measure 30 = .ok (.iload_n 3, 1) := by decide +kernel
theorem dX4_measure_31 : decode cX4_measure 31 = .ok (.iload_n 2, 1) := by decide +kernel
theorem dX4_measure_32 : decode cX4_measure 32 = .ok (.isub, 1) := by decide +kernel
theorem dX4_measure_33 : decode cX4_measure 33 = .ok (.iload 4, 2) := by decide +kernel
theorem dX4_measure_35 : decode cX4_measure 35 = .ok (.idiv, 1) := by decide +kernel
theorem dX4_measure_36 : decode cX4_measure 36 = .ok (.iconst 1, 1) := by decide +kernel
theorem dX4_measure_37 : decode cX4_measure 37 = .ok (.iadd, 1) := by decide +kernel
theorem dX4_measure_38 : decode cX4_measure 38 = .ok (.istore 5, 2) := by decide +kernel
theorem dX4_measure_40 : decode cX4_measure 40 = .ok (.iconst 0, 1) := by decide +kernel
theorem dX4_measure_41 : decode cX4_measure 41 = .ok (.istore 6, 2) := by decide +kernel
theorem dX4_measure_43 : decode cX4_measure 43 = .ok (.iload 6, 2) := by decide +kernel
theorem dX4_measure_45 : decode cX4_measure 45 = .ok (.iload 5, 2) := by decide +kernel
theorem dX4_measure_47 : decode cX4_measure 47 = .ok (.if_icmp .ge 118, 3) := by decide +kernel
theorem dX4_measure_50 : decode cX4_measure 50 = .ok (.iload 6, 2) := by decide +kernel
theorem dX4_measure_52 : decode cX4_measure 52 = .ok (.sipush 4096, 3) := by decide +kernel
theorem dX4_measure_55 : decode cX4_measure 55 = .ok (.if_icmp .ge 110, 3) := by decide +kernel
theorem dX4_measure_58 : decode cX4_measure 58 = .ok (.iload_n 2, 1) := by decide +kernel
theorem dX4_measure_59 : decode cX4_measure 59 = .ok (.iload 6, 2) := by decide +kernel
theorem dX4_measure_61 : decode cX4_measure 61 = .ok (.iload 4, 2) := by decide +kernel
theorem dX4_measure_63 : decode cX4_measure 63 = .ok (.imul, 1) := by decide +kernel
theorem dX4_measure_64 : decode cX4_measure 64 = .ok (.iadd, 1) := by decide +kernel
theorem dX4_measure_65 : decode cX4_measure 65 = .ok (.istore 7, 2) := by decide +kernel
theorem dX4_measure_67 : decode cX4_measure 67 = .ok (.aload_n 1, 1) := by decide +kernel
theorem dX4_measure_68 : decode cX4_measure 68 = .ok (.iload 7, 2) := by decide +kernel
theorem dX4_measure_70 : decode cX4_measure 70 = .ok (.invokevirtual 49, 3) := by decide +kernel
theorem dX4_measure_73 : decode cX4_measure 73 = .ok (.istore 8, 2) := by decide +kernel
theorem dX4_measure_75 : decode cX4_measure 75 = .ok (.iload 6, 2) := by decide +kernel
theorem dX4_measure_77 : decode cX4_measure 77 = .ok (.ifCond .le 27, 3) := by decide +kernel
theorem dX4_measure_80 : decode cX4_measure 80 = .ok (.iload 8, 2) := by decide +kernel
theorem dX4_measure_82 : decode cX4_measure 82 = .ok (.aload_n 0, 1) := by decide +kernel
theorem dX4_measure_83 : decode cX4_measure 83 = .ok (.getfield 11, 3) := by decide +kernel
theorem dX4_measure_86 : decode cX4_measure 86 = .ok (.iload 6, 2) := by decide +kernel
theorem dX4_measure_88 : decode cX4_measure 88 = .ok (.iconst 1, 1) := by decide +kernel
theorem dX4_measure_89 : decode cX4_measure 89 = .ok (.isub, 1) := by decide +kernel
theorem dX4_measure_90 : decode cX4_measure 90 = .ok (.iaload, 1) := by decide +kernel
theorem dX4_measure_91 : decode cX4_measure 91 = .ok (.if_icmp .ge 13, 3) := by decide +kernel
theorem dX4_measure_94 : decode cX4_measure 94 = .ok (.aload_n 0, 1) := by decide +kernel
theorem dX4_measure_95 : decode cX4_measure 95 = .ok (.dup, 1) := by decide +kernel
theorem dX4_measure_96 : decode cX4_measure 96 = .ok (.getfield 19, 3) := by decide +kernel
theorem dX4_measure_99 : decode cX4_measure 99 = .ok (.iconst 1, 1) := by decide +kernel
theorem dX4_measure_100 : decode cX4_measure 100 = .ok (.iadd, 1) := by decide +kernel
theorem dX4_measure_101 : decode cX4_measure 101 = .ok (.putfield 19, 3) := by decide +kernel
theorem dX4_measure_104 : decode cX4_measure 104 = .ok (.iload 8, 2) := by decide +kernel
theorem dX4_measure_106 : decode cX4_measure 106 = .ok (.aload_n 1, 1) := by decide +kernel
theorem dX4_measure_107 : decode cX4_measure 107 = .ok (.getfield 55, 3) := by decide +kernel
theorem dX4_measure_110 : decode cX4_measure 110 = .ok (.imul, 1) := by decide +kernel
theorem dX4_measure_111 : decode cX4_measure 111 = .ok (.iload 7, 2) := by decide +kernel
theorem dX4_measure_113 : decode cX4_measure 113 = .ok (.isub, 1) := by decide +kernel
theorem dX4_measure_114 : decode cX4_measure 114 = .ok (.invokestatic 58, 3) := by decide +kernel
theorem dX4_measure_117 : decode cX4_measure 117 = .ok (.istore 9, 2) := by decide +kernel
theorem dX4_measure_119 : decode cX4_measure 119 = .ok (.iload 9, 2) := by decide +kernel
theorem dX4_measure_121 : decode cX4_measure 121 = .ok (.aload_n 0, 1) := by decide +kernel
theorem dX4_measure_122 : decode cX4_measure 122 = .ok (.getfield 22, 3) := by decide +kernel
theorem dX4_measure_125 : decode cX4_measure 125 = .ok (.if_icmp .le 15, 3) := by decide +kernel
theorem dX4_measure_128 : decode cX4_measure 128 = .ok (.aload_n 0, 1) := by decide +kernel
theorem dX4_measure_129 : decode cX4_measure 129 = .ok (.iload 9, 2) := by decide +kernel
theorem dX4_measure_131 : decode cX4_measure 131 = .ok (.putfield 22, 3) := by decide +kernel
theorem dX4_measure_134 : decode cX4_measure 134 = .ok (.aload_n 0, 1) := by decide +kernel
theorem dX4_measure_135 : decode cX4_measure 135 = .ok (.iload 7, 2) := by decide +kernel
theorem dX4_measure_137 : decode cX4_measure 137 = .ok (.putfield 25, 3) := by decide +kernel
theorem dX4_measure_140 : decode cX4_measure 140 = .ok (.aload_n 0, 1) := by decide +kernel
theorem dX4_measure_141 : decode cX4_measure 141 = .ok (.getfield 11, 3) := by decide +kernel
theorem dX4_measure_144 : decode cX4_measure 144 = .ok (.iload 6, 2) := by decide +kernel
theorem dX4_measure_146 : decode cX4_measure 146 = .ok (.iload 8, 2) := by decide +kernel
theorem dX4_measure_148 : decode cX4_measure 148 = .ok (.iastore, 1) := by decide +kernel
theorem dX4_measure_149 : decode cX4_measure 149 = .ok (.aload_n 0, 1) := by decide +kernel
theorem dX4_measure_150 : decode cX4_measure 150 = .ok (.dup, 1) := by decide +kernel
theorem dX4_measure_151 : decode cX4_measure 151 = .ok (.getfield 15, 3) := by decide +kernel
theorem dX4_measure_154 : decode cX4_measure 154 = .ok (.iconst 1, 1) := by decide +kernel
theorem dX4_measure_155 : decode cX4_measure 155 = .ok (.iadd, 1) := by decide +kernel
theorem dX4_measure_156 : decode cX4_measure 156 = .ok (.putfield 15, 3) := by decide +kernel
theorem dX4_measure_159 : decode cX4_measure 159 = .ok (.iinc 6 1, 3) := by decide +kernel
theorem dX4_measure_162 : decode cX4_measure 162 = .ok (.goto (-119), 3) := by decide +kernel
theorem dX4_measure_165 : decode cX4_measure 165 = .ok (.return_, 1) := by decide +kernel
theorem dX4_addUp_0 : decode cX4_addUp 0 = .ok (.aload_n 0, 1) := by decide +kernel
theorem dX4_addUp_1 : decode cX4_addUp 1 = .ok (.getfield 11, 3) := by decide +kernel
theorem dX4_addUp_4 : decode cX4_addUp 4 = .ok (.iconst 0, 1) := by decide +kernel
theorem dX4_addUp_5 : decode cX4_addUp 5 = .ok (.iconst 0, 1) := by decide +kernel
theorem dX4_addUp_6 : decode cX4_addUp 6 = .ok (.iastore, 1) := by decide +kernel
theorem dX4_addUp_7 : decode cX4_addUp 7 = .ok (.aload_n 0, 1) := by decide +kernel
theorem dX4_addUp_8 : decode cX4_addUp 8 = .ok (.iconst 1, 1) := by decide +kernel
theorem dX4_addUp_9 : decode cX4_addUp 9 = .ok (.putfield 15, 3) := by decide +kernel
theorem dX4_addUp_12 : decode cX4_addUp 12 = .ok (.iconst 0, 1) := by decide +kernel
theorem dX4_addUp_13 : decode cX4_addUp 13 = .ok (.istore_n 2, 1) := by decide +kernel
theorem dX4_addUp_14 : decode cX4_addUp 14 = .ok (.iload_n 2, 1) := by decide +kernel
theorem dX4_addUp_15 : decode cX4_addUp 15 = .ok (.aload_n 1, 1) := by decide +kernel
theorem dX4_addUp_16 : decode cX4_addUp 16 = .ok (.getfield 63, 3) := by decide +kernel
theorem dX4_addUp_19 : decode cX4_addUp 19 = .ok (.if_icmp .ge 71, 3) := by decide +kernel
theorem dX4_addUp_22 : decode cX4_addUp 22 = .ok (.aload_n 0, 1) := by decide +kernel
theorem dX4_addUp_23 : decode cX4_addUp 23 = .ok (.getfield 15, 3) := by decide +kernel
theorem dX4_addUp_26 : decode cX4_addUp 26 = .ok (.iconst 2, 1) := by decide +kernel
theorem dX4_addUp_27 : decode cX4_addUp 27 = .ok (.imul, 1) := by decide +kernel
theorem dX4_addUp_28 : decode cX4_addUp 28 = .ok (.sipush 4096, 3) := by decide +kernel
theorem dX4_addUp_31 : decode cX4_addUp 31 = .ok (.if_icmp .gt 59, 3) := by decide +kernel
theorem dX4_addUp_34 : decode cX4_addUp 34 = .ok (.iconst 0, 1) := by decide +kernel
theorem dX4_addUp_35 : decode cX4_addUp 35 = .ok (.istore_n 3, 1) := by decide +kernel
theorem dX4_addUp_36 : decode cX4_addUp 36 = .ok (.iload_n 3, 1) := by decide +kernel
theorem dX4_addUp_37 : decode cX4_addUp 37 = .ok (.aload_n 0, 1) := by decide +kernel
theorem dX4_addUp_38 : decode cX4_addUp 38 = .ok (.getfield 15, 3) := by decide +kernel
theorem dX4_addUp_41 : decode cX4_addUp 41 = .ok (.if_icmp .ge 33, 3) := by decide +kernel
theorem dX4_addUp_44 : decode cX4_addUp 44 = .ok (.aload_n 0, 1) := by decide +kernel
theorem dX4_addUp_45 : decode cX4_addUp 45 = .ok (.getfield 11, 3) := by decide +kernel
theorem dX4_addUp_48 : decode cX4_addUp 48 = .ok (.aload_n 0, 1) := by decide +kernel
theorem dX4_addUp_49 : decode cX4_addUp 49 = .ok (.getfield 15, 3) := by decide +kernel
theorem dX4_addUp_52 : decode cX4_addUp 52 = .ok (.iload_n 3, 1) := by decide +kernel
theorem dX4_addUp_53 : decode cX4_addUp 53 = .ok (.iadd, 1) := by decide +kernel
theorem dX4_addUp_54 : decode cX4_addUp 54 = .ok (.aload_n 0, 1) := by decide +kernel
theorem dX4_addUp_55 : decode cX4_addUp 55 = .ok (.getfield 11, 3) := by decide +kernel
theorem dX4_addUp_58 : decode cX4_addUp 58 = .ok (.iload_n 3, 1) := by decide +kernel
theorem dX4_addUp_59 : decode cX4_addUp 59 = .ok (.iaload, 1) := by decide +kernel
theorem dX4_addUp_60 : decode cX4_addUp 60 = .ok (.aload_n 1, 1) := by decide +kernel
theorem dX4_addUp_61 : decode cX4_addUp 61 = .ok (.getfield 66, 3) := by decide +kernel
theorem dX4_addUp_64 : decode cX4_addUp 64 = .ok (.iload_n 2, 1) := by decide +kernel
theorem dX4_addUp_65 : decode cX4_addUp 65 = .ok (.iaload, 1) := by decide +kernel
theorem dX4_addUp_66 : decode cX4_addUp 66 = .ok (.iadd, 1) := by decide +kernel
theorem dX4_addUp_67 : decode cX4_addUp 67 = .ok (.iastore, 1) := by decide +kernel
theorem dX4_addUp_68 : decode cX4_addUp 68 = .ok (.iinc 3 1, 3) := by decide +kernel
theorem dX4_addUp_71 : decode cX4_addUp 71 = .ok (.goto (-35), 3) := by decide +kernel
theorem dX4_addUp_74 : decode cX4_addUp 74 = .ok (.aload_n 0, 1) := by decide +kernel
theorem dX4_addUp_75 : decode cX4_addUp 75 = .ok (.dup, 1) := by decide +kernel
theorem dX4_addUp_76 : decode cX4_addUp 76 = .ok (.getfield 15, 3) := by decide +kernel
theorem dX4_addUp_79 : decode cX4_addUp 79 = .ok (.iconst 2, 1) := by decide +kernel
theorem dX4_addUp_80 : decode cX4_addUp 80 = .ok (.imul, 1) := by decide +kernel
theorem dX4_addUp_81 : decode cX4_addUp 81 = .ok (.putfield 15, 3) := by decide +kernel
theorem dX4_addUp_84 : decode cX4_addUp 84 = .ok (.iinc 2 1, 3) := by decide +kernel
theorem dX4_addUp_87 : decode cX4_addUp 87 = .ok (.goto (-73), 3) := by decide +kernel
theorem dX4_addUp_90 : decode cX4_addUp 90 = .ok (.return_, 1) := by decide +kernel
theorem dX4_howOften_0 : decode cX4_howOften 0 = .ok (.iconst 0, 1) := by decide +kernel
theorem dX4_howOften_1 : decode cX4_howOften 1 = .ok (.istore_n 2, 1) := by decide +kernel
theorem dX4_howOften_2 : decode cX4_howOften 2 = .ok (.iconst 0, 1) := by decide +kernel
theorem dX4_howOften_3 : decode cX4_howOften 3 = .ok (.istore_n 3, 1) := by decide +kernel
theorem dX4_howOften_4 : decode cX4_howOften 4 = .ok (.iload_n 3, 1) := by decide +kernel
theorem dX4_howOften_5 : decode cX4_howOften 5 = .ok (.aload_n 0, 1) := by decide +kernel
theorem dX4_howOften_6 : decode cX4_howOften 6 = .ok (.getfield 15, 3) := by decide +kernel
theorem dX4_howOften_9 : decode cX4_howOften 9 = .ok (.if_icmp .ge 22, 3) := by decide +kernel
theorem dX4_howOften_12 : decode cX4_howOften 12 = .ok (.aload_n 0, 1) := by decide +kernel
theorem dX4_howOften_13 : decode cX4_howOften 13 = .ok (.getfield 11, 3) := by decide +kernel
theorem dX4_howOften_16 : decode cX4_howOften 16 = .ok (.iload_n 3, 1) := by decide +kernel
theorem dX4_howOften_17 : decode cX4_howOften 17 = .ok (.iaload, 1) := by decide +kernel
theorem dX4_howOften_18 : decode cX4_howOften 18 = .ok (.iload_n 1, 1) := by decide +kernel
theorem dX4_howOften_19 : decode cX4_howOften 19 = .ok (.if_icmp .ne 6, 3) := by decide +kernel
theorem dX4_howOften_22 : decode cX4_howOften 22 = .ok (.iinc 2 1, 3) := by decide +kernel
theorem dX4_howOften_25 : decode cX4_howOften 25 = .ok (.iinc 3 1, 3) := by decide +kernel
theorem dX4_howOften_28 : decode cX4_howOften 28 = .ok (.goto (-24), 3) := by decide +kernel
theorem dX4_howOften_31 : decode cX4_howOften 31 = .ok (.iload_n 2, 1) := by decide +kernel
theorem dX4_howOften_32 : decode cX4_howOften 32 = .ok (.ireturn, 1) := by decide +kernel
theorem dX4_isWhole_0 : decode cX4_isWhole 0 = .ok (.aload_n 0, 1) := by decide +kernel
theorem dX4_isWhole_1 : decode cX4_isWhole 1 = .ok (.aload_n 1, 1) := by decide +kernel
theorem dX4_isWhole_2 : decode cX4_isWhole 2 = .ok (.iconst 0, 1) := by decide +kernel
theorem dX4_isWhole_3 : decode cX4_isWhole 3 = .ok (.aload_n 1, 1) := by decide +kernel
theorem dX4_isWhole_4 : decode cX4_isWhole 4 = .ok (.invokevirtual 69, 3) := by decide +kernel
theorem dX4_isWhole_7 : decode cX4_isWhole 7 = .ok (.aload_n 1, 1) := by decide +kernel
theorem dX4_isWhole_8 : decode cX4_isWhole 8 = .ok (.getfield 55, 3) := by decide +kernel
theorem dX4_isWhole_11 : decode cX4_isWhole 11 = .ok (.invokevirtual 73, 3) := by decide +kernel
theorem dX4_isWhole_14 : decode cX4_isWhole 14 = .ok (.aload_n 0, 1) := by decide +kernel
theorem dX4_isWhole_15 : decode cX4_isWhole 15 = .ok (.invokevirtual 77, 3) := by decide +kernel
theorem dX4_isWhole_18 : decode cX4_isWhole 18 = .ok (.aload_n 0, 1) := by decide +kernel
theorem dX4_isWhole_19 : decode cX4_isWhole 19 = .ok (.getfield 43, 3) := by decide +kernel
theorem dX4_isWhole_22 : decode cX4_isWhole 22 = .ok (.ifCond .ne 7, 3) := by decide +kernel
theorem dX4_isWhole_25 : decode cX4_isWhole 25 = .ok (.iconst 1, 1) := by decide +kernel
theorem dX4_isWhole_26 : decode cX4_isWhole 26 = .ok (.goto 4, 3) := by decide +kernel
theorem dX4_isWhole_29 : decode cX4_isWhole 29 = .ok (.iconst 0, 1) := by decide +kernel
theorem dX4_isWhole_30 : decode cX4_isWhole 30 = .ok (.ireturn, 1) := by decide +kernel
theorem dX4_sortOut_0 : decode cX4_sortOut 0 = .ok (.aload_n 0, 1) := by decide +kernel
theorem dX4_sortOut_1 : decode cX4_sortOut 1 = .ok (.invokevirtual 80, 3) := by decide +kernel
theorem dX4_sortOut_4 : decode cX4_sortOut 4 = .ok (.aload_n 0, 1) := by decide +kernel
theorem dX4_sortOut_5 : decode cX4_sortOut 5 = .ok (.iconst 0, 1) := by decide +kernel
theorem dX4_sortOut_6 : decode cX4_sortOut 6 = .ok (.putfield 28, 3) := by decide +kernel
theorem dX4_sortOut_9 : decode cX4_sortOut 9 = .ok (.aload_n 0, 1) := by decide +kernel
theorem dX4_sortOut_10 : decode cX4_sortOut 10 = .ok (.iconst 0, 1) := by decide +kernel
theorem dX4_sortOut_11 : decode cX4_sortOut 11 = .ok (.putfield 31, 3) := by decide +kernel
theorem dX4_sortOut_14 : decode cX4_sortOut 14 = .ok (.aload_n 0, 1) := by decide +kernel
theorem dX4_sortOut_15 : decode cX4_sortOut 15 = .ok (.iconst 0, 1) := by decide +kernel
theorem dX4_sortOut_16 : decode cX4_sortOut 16 = .ok (.putfield 34, 3) := by decide +kernel
theorem dX4_sortOut_19 : decode cX4_sortOut 19 = .ok (.aload_n 0, 1) := by decide +kernel
theorem dX4_sortOut_20 : decode cX4_sortOut 20 = .ok (.iconst (-1), 1) := by decide +kernel
theorem dX4_sortOut_21 : decode cX4_sortOut 21 = .ok (.putfield 46, 3) := by decide +kernel
theorem dX4_sortOut_24 : decode cX4_sortOut 24 = .ok (.aload_n 0, 1) := by decide +kernel
theorem dX4_sortOut_25 : decode cX4_sortOut 25 = .ok (.aload_n 0, 1) := by decide +kernel
theorem dX4_sortOut_26 : decode cX4_sortOut 26 = .ok (.getfield 15, 3) := by decide +kernel
theorem dX4_sortOut_29 : decode cX4_sortOut 29 = .ok (.ifCond .le 12, 3) := by decide +kernel
theorem dX4_sortOut_32 : decode cX4_sortOut 32 = .ok (.aload_n 0, 1) := by decide +kernel
theorem dX4_sortOut_33 : decode cX4_sortOut 33 = .ok (.getfield 11, 3) := by decide +kernel
theorem dX4_sortOut_36 : decode cX4_sortOut 36 = .ok (.iconst 0, 1) := by decide +kernel
theorem dX4_sortOut_37 : decode cX4_sortOut 37 = .ok (.iaload, 1) := by decide +kernel
theorem dX4_sortOut_38 : decode cX4_sortOut 38 = .ok (.goto 4, 3) := by decide +kernel
theorem dX4_sortOut_41 : decode cX4_sortOut 41 = .ok (.iconst 0, 1) := by decide +kernel
theorem dX4_sortOut_42 : decode cX4_sortOut 42 = .ok (.putfield 37, 3) := by decide +kernel
theorem dX4_sortOut_45 : decode cX4_sortOut 45 = .ok (.aload_n 0, 1) := by decide +kernel
theorem dX4_sortOut_46 : decode cX4_sortOut 46 = .ok (.aload_n 0, 1) := by decide +kernel
theorem dX4_sortOut_47 : decode cX4_sortOut 47 = .ok (.getfield 15, 3) := by decide +kernel
theorem dX4_sortOut_50 : decode cX4_sortOut 50 = .ok (.ifCond .le 17, 3) := by decide +kernel
theorem dX4_sortOut_53 : decode cX4_sortOut 53 = .ok (.aload_n 0, 1) := by decide +kernel
theorem dX4_sortOut_54 : decode cX4_sortOut 54 = .ok (.getfield 11, 3) := by decide +kernel
theorem dX4_sortOut_57 : decode cX4_sortOut 57 = .ok (.aload_n 0, 1) := by decide +kernel
theorem dX4_sortOut_58 : decode cX4_sortOut 58 = .ok (.getfield 15, 3) := by decide +kernel
theorem dX4_sortOut_61 : decode cX4_sortOut 61 = .ok (.iconst 1, 1) := by decide +kernel
theorem dX4_sortOut_62 : decode cX4_sortOut 62 = .ok (.isub, 1) := by decide +kernel
theorem dX4_sortOut_63 : decode cX4_sortOut 63 = .ok (.iaload, 1) := by decide +kernel
theorem dX4_sortOut_64 : decode cX4_sortOut 64 = .ok (.goto 4, 3) := by decide +kernel
theorem dX4_sortOut_67 : decode cX4_sortOut 67 = .ok (.iconst 0, 1) := by decide +kernel
theorem dX4_sortOut_68 : decode cX4_sortOut 68 = .ok (.putfield 40, 3) := by decide +kernel
theorem dX4_sortOut_71 : decode cX4_sortOut 71 = .ok (.iconst 0, 1) := by decide +kernel
theorem dX4_sortOut_72 : decode cX4_sortOut 72 = .ok (.istore_n 1, 1) := by decide +kernel
theorem dX4_sortOut_73 : decode cX4_sortOut 73 = .ok (.iconst 0, 1) := by decide +kernel
theorem dX4_sortOut_74 : decode cX4_sortOut 74 = .ok (.istore_n 2, 1) := by decide +kernel
theorem dX4_sortOut_75 : decode cX4_sortOut 75 = .ok (.iload_n 2, 1) := by decide +kernel
theorem dX4_sortOut_76 : decode cX4_sortOut 76 = .ok (.aload_n 0, 1) := by decide +kernel
theorem dX4_sortOut_77 : decode cX4_sortOut 77 = .ok (.getfield 15, 3) := by decide +kernel
theorem dX4_sortOut_80 : decode cX4_sortOut 80 = .ok (.if_icmp .ge 116, 3) := by decide +kernel
theorem dX4_sortOut_83 : decode cX4_sortOut 83 = .ok (.iload_n 2, 1) := by decide +kernel
theorem dX4_sortOut_84 : decode cX4_sortOut 84 = .ok (.ifCond .le 26, 3) := by decide +kernel
theorem dX4_sortOut_87 : decode cX4_sortOut 87 = .ok (.aload_n 0, 1) := by decide +kernel
theorem dX4_sortOut_88 : decode cX4_sortOut 88 = .ok (.getfield 11, 3) := by decide +kernel
theorem dX4_sortOut_91 : decode cX4_sortOut 91 = .ok (.iload_n 2, 1) := by decide +kernel
theorem dX4_sortOut_92 : decode cX4_sortOut 92 = .ok (.iaload, 1) := by decide +kernel
theorem dX4_sortOut_93 : decode cX4_sortOut 93 = .ok (.aload_n 0, 1) := by decide +kernel
theorem dX4_sortOut_94 : decode cX4_sortOut 94 = .ok (.getfield 11, 3) := by decide +kernel
theorem dX4_sortOut_97 : decode cX4_sortOut 97 = .ok (.iload_n 2, 1) := by decide +kernel
theorem dX4_sortOut_98 : decode cX4_sortOut 98 = .ok (.iconst 1, 1) := by decide +kernel
theorem dX4_sortOut_99 : decode cX4_sortOut 99 = .ok (.isub, 1) := by decide +kernel
theorem dX4_sortOut_100 : decode cX4_sortOut 100 = .ok (.iaload, 1) := by decide +kernel
theorem dX4_sortOut_101 : decode cX4_sortOut 101 = .ok (.if_icmp .ne 9, 3) := by decide +kernel
theorem dX4_sortOut_104 : decode cX4_sortOut 104 = .ok (.iinc 1 1, 3) := by decide +kernel
theorem dX4_sortOut_107 : decode cX4_sortOut 107 = .ok (.goto 60, 3) := by decide +kernel
theorem dX4_sortOut_110 : decode cX4_sortOut 110 = .ok (.iconst 1, 1) := by decide +kernel
theorem dX4_sortOut_111 : decode cX4_sortOut 111 = .ok (.istore_n 1, 1) := by decide +kernel
theorem dX4_sortOut_112 : decode cX4_sortOut 112 = .ok (.aload_n 0, 1) := by decide +kernel
theorem dX4_sortOut_113 : decode cX4_sortOut 113 = .ok (.dup, 1) := by decide +kernel
theorem dX4_sortOut_114 : decode cX4_sortOut 114 = .ok (.getfield 28, 3) := by decide +kernel
theorem dX4_sortOut_117 : decode cX4_sortOut 117 = .ok (.iconst 1, 1) := by decide +kernel
theorem dX4_sortOut_118 : decode cX4_sortOut 118 = .ok (.iadd, 1) := by decide +kernel
theorem dX4_sortOut_119 : decode cX4_sortOut 119 = .ok (.putfield 28, 3) := by decide +kernel
theorem dX4_sortOut_122 : decode cX4_sortOut 122 = .ok (.iload_n 2, 1) := by decide +kernel
theorem dX4_sortOut_123 : decode cX4_sortOut 123 = .ok (.ifCond .le 44, 3) := by decide +kernel
theorem dX4_sortOut_126 : decode cX4_sortOut 126 = .ok (.aload_n 0, 1) := by decide +kernel
theorem dX4_sortOut_127 : decode cX4_sortOut 127 = .ok (.getfield 46, 3) := by decide +kernel
theorem dX4_sortOut_130 : decode cX4_sortOut 130 = .ok (.iconst (-1), 1) := by decide +kernel
theorem dX4_sortOut_131 : decode cX4_sortOut 131 = .ok (.if_icmp .ne 36, 3) := by decide +kernel
theorem dX4_sortOut_134 : decode cX4_sortOut 134 = .ok (.aload_n 0, 1) := by decide +kernel
theorem dX4_sortOut_135 : decode cX4_sortOut 135 = .ok (.getfield 11, 3) := by decide +kernel
theorem dX4_sortOut_138 : decode cX4_sortOut 138 = .ok (.iload_n 2, 1) := by decide +kernel
theorem dX4_sortOut_139 : decode cX4_sortOut 139 = .ok (.iaload, 1) := by decide +kernel
theorem dX4_sortOut_140 : decode cX4_sortOut 140 = .ok (.aload_n 0, 1) := by decide +kernel
theorem dX4_sortOut_141 : decode cX4_sortOut 141 = .ok (.getfield 11, 3) := by decide +kernel
theorem dX4_sortOut_144 : decode cX4_sortOut 144 = .ok (.iload_n 2, 1) := by decide +kernel
theorem dX4_sortOut_145 : decode cX4_sortOut 145 = .ok (.iconst 1, 1) := by decide +kernel
theorem dX4_sortOut_146 : decode cX4_sortOut 146 = .ok (.isub, 1) := by decide +kernel
theorem dX4_sortOut_147 : decode cX4_sortOut 147 = .ok (.iaload, 1) := by decide +kernel
theorem dX4_sortOut_148 : decode cX4_sortOut 148 = .ok (.iconst 1, 1) := by decide +kernel
theorem dX4_sortOut_149 : decode cX4_sortOut 149 = .ok (.iadd, 1) := by decide +kernel
theorem dX4_sortOut_150 : decode cX4_sortOut 150 = .ok (.if_icmp .le 17, 3) := by decide +kernel
theorem dX4_sortOut_153 : decode cX4_sortOut 153 = .ok (.aload_n 0, 1) := by decide +kernel
theorem dX4_sortOut_154 : decode cX4_sortOut 154 = .ok (.aload_n 0, 1) := by decide +kernel
theorem dX4_sortOut_155 : decode cX4_sortOut 155 = .ok (.getfield 11, 3) := by decide +kernel
theorem dX4_sortOut_158 : decode cX4_sortOut 158 = .ok (.iload_n 2, 1) := by decide +kernel
theorem dX4_sortOut_159 : decode cX4_sortOut 159 = .ok (.iconst 1, 1) := by decide +kernel
theorem dX4_sortOut_160 : decode cX4_sortOut 160 = .ok (.isub, 1) := by decide +kernel
theorem dX4_sortOut_161 : decode cX4_sortOut 161 = .ok (.iaload, 1) := by decide +kernel
theorem dX4_sortOut_162 : decode cX4_sortOut 162 = .ok (.iconst 1, 1) := by decide +kernel
theorem dX4_sortOut_163 : decode cX4_sortOut 163 = .ok (.iadd, 1) := by decide +kernel
theorem dX4_sortOut_164 : decode cX4_sortOut 164 = .ok (.putfield 46, 3) := by decide +kernel
theorem dX4_sortOut_167 : decode cX4_sortOut 167 = .ok (.iload_n 1, 1) := by decide +kernel
theorem dX4_sortOut_168 : decode cX4_sortOut 168 = .ok (.aload_n 0, 1) := by decide +kernel
theorem dX4_sortOut_169 : decode cX4_sortOut 169 = .ok (.getfield 31, 3) := by decide +kernel
theorem dX4_sortOut_172 : decode cX4_sortOut 172 = .ok (.if_icmp .le 18, 3) := by decide +kernel
theorem dX4_sortOut_175 : decode cX4_sortOut 175 = .ok (.aload_n 0, 1) := by decide +kernel
theorem dX4_sortOut_176 : decode cX4_sortOut 176 = .ok (.iload_n 1, 1) := by decide +kernel
theorem dX4_sortOut_177 : decode cX4_sortOut 177 = .ok (.putfield 31, 3) := by decide +kernel
theorem dX4_sortOut_180 : decode cX4_sortOut 180 = .ok (.aload_n 0, 1) := by decide +kernel
theorem dX4_sortOut_181 : decode cX4_sortOut 181 = .ok (.aload_n 0, 1) := by decide +kernel
theorem dX4_sortOut_182 : decode cX4_sortOut 182 = .ok (.getfield 11, 3) := by decide +kernel
theorem dX4_sortOut_185 : decode cX4_sortOut 185 = .ok (.iload_n 2, 1) := by decide +kernel
theorem dX4_sortOut_186 : decode cX4_sortOut 186 = .ok (.iaload, 1) := by decide +kernel
theorem dX4_sortOut_187 : decode cX4_sortOut 187 = .ok (.putfield 34, 3) := by decide +kernel
theorem dX4_sortOut_190 : decode cX4_sortOut 190 = .ok (.iinc 2 1, 3) := by decide +kernel
theorem dX4_sortOut_193 : decode cX4_sortOut 193 = .ok (.goto (-118), 3) := by decide +kernel
theorem dX4_sortOut_196 : decode cX4_sortOut 196 = .ok (.aload_n 0, 1) := by decide +kernel
theorem dX4_sortOut_197 : decode cX4_sortOut 197 = .ok (.aload_n 0, 1) := by decide +kernel
theorem dX4_sortOut_198 : decode cX4_sortOut 198 = .ok (.getfield 40, 3) := by decide +kernel
theorem dX4_sortOut_201 : decode cX4_sortOut 201 = .ok (.aload_n 0, 1) := by decide +kernel
theorem dX4_sortOut_202 : decode cX4_sortOut 202 = .ok (.getfield 37, 3) := by decide +kernel
theorem dX4_sortOut_205 : decode cX4_sortOut 205 = .ok (.isub, 1) := by decide +kernel
theorem dX4_sortOut_206 : decode cX4_sortOut 206 = .ok (.iconst 1, 1) := by decide +kernel
theorem dX4_sortOut_207 : decode cX4_sortOut 207 = .ok (.iadd, 1) := by decide +kernel
theorem dX4_sortOut_208 : decode cX4_sortOut 208 = .ok (.aload_n 0, 1) := by decide +kernel
theorem dX4_sortOut_209 : decode cX4_sortOut 209 = .ok (.getfield 28, 3) := by decide +kernel
theorem dX4_sortOut_212 : decode cX4_sortOut 212 = .ok (.isub, 1) := by decide +kernel
theorem dX4_sortOut_213 : decode cX4_sortOut 213 = .ok (.putfield 43, 3) := by decide +kernel
theorem dX4_sortOut_216 : decode cX4_sortOut 216 = .ok (.return_, 1) := by decide +kernel
theorem dX4_sort_0 : decode cX4_sort 0 = .ok (.iconst 0, 1) := by decide +kernel
theorem dX4_sort_1 : decode cX4_sort 1 = .ok (.istore_n 1, 1) := by decide +kernel
theorem dX4_sort_2 : decode cX4_sort 2 = .ok (.iload_n 1, 1) := by decide +kernel
theorem dX4_sort_3 : decode cX4_sort 3 = .ok (.getstatic 83, 3) := by decide +kernel
theorem dX4_sort_6 : decode cX4_sort 6 = .ok (.arraylength, 1) := by decide +kernel
theorem dX4_sort_7 : decode cX4_sort 7 = .ok (.if_icmp .ge 96, 3) := by decide +kernel
theorem dX4_sort_10 : decode cX4_sort 10 = .ok (.getstatic 83, 3) := by decide +kernel
theorem dX4_sort_13 : decode cX4_sort 13 = .ok (.iload_n 1, 1) := by decide +kernel
theorem dX4_sort_14 : decode cX4_sort 14 = .ok (.iaload, 1) := by decide +kernel
theorem dX4_sort_15 : decode cX4_sort 15 = .ok (.istore_n 2, 1) := by decide +kernel
theorem dX4_sort_16 : decode cX4_sort 16 = .ok (.iload_n 2, 1) := by decide +kernel
theorem dX4_sort_17 : decode cX4_sort 17 = .ok (.istore_n 3, 1) := by decide +kernel
theorem dX4_sort_18 : decode cX4_sort 18 = .ok (.iload_n 3, 1) := by decide +kernel
theorem dX4_sort_19 : decode cX4_sort 19 = .ok (.aload_n 0, 1) := by decide +kernel
theorem dX4_sort_20 : decode cX4_sort 20 = .ok (.getfield 15, 3) := by decide +kernel
theorem dX4_sort_23 : decode cX4_sort 23 = .ok (.if_icmp .ge 74, 3) := by decide +kernel
theorem dX4_sort_26 : decode cX4_sort 26 = .ok (.aload_n 0, 1) := by decide +kernel
theorem dX4_sort_27 : decode cX4_sort 27 = .ok (.getfield 11, 3) := by decide +kernel
theorem dX4_sort_30 : decode cX4_sort 30 = .ok (.iload_n 3, 1) := by decide +kernel
theorem dX4_sort_31 : decode cX4_sort 31 = .ok (.iaload, 1) := by decide +kernel
theorem dX4_sort_32 : decode cX4_sort 32 = .ok (.istore 4, 2) := by decide +kernel
theorem dX4_sort_34 : decode cX4_sort 34 = .ok (.iload_n 3, 1) := by decide +kernel
theorem dX4_sort_35 : decode cX4_sort 35 = .ok (.istore 5, 2) := by decide +kernel
theorem dX4_sort_37 : decode cX4_sort 37 = .ok (.iload 5, 2) := by decide +kernel
theorem dX4_sort_39 : decode cX4_sort 39 = .ok (.iload_n 2, 1) := by decide +kernel
theorem dX4_sort_40 : decode cX4_sort 40 = .ok (.if_icmp .lt 42, 3) := by decide +kernel
theorem dX4_sort_43 : decode cX4_sort 43 = .ok (.aload_n 0, 1) := by decide +kernel
theorem dX4_sort_44 : decode cX4_sort 44 = .ok (.getfield 11, 3) := by decide +kernel
theorem dX4_sort_47 : decode cX4_sort 47 = .ok (.iload 5, 2) := by decide +kernel
theorem dX4_sort_49 : decode cX4_sort 49 = .ok (.iload_n 2, 1) := by decide +kernel
theorem dX4_sort_50 : decode cX4_sort 50 = .ok (.isub, 1) := by decide +kernel
theorem dX4_sort_51 : decode cX4_sort 51 = .ok (.iaload, 1) := by decide +kernel
theorem dX4_sort_52 : decode cX4_sort 52 = .ok (.iload 4, 2) := by decide +kernel
theorem dX4_sort_54 : decode cX4_sort 54 = .ok (.if_icmp .le 28, 3) := by decide +kernel
theorem dX4_sort_57 : decode cX4_sort 57 = .ok (.aload_n 0, 1) := by decide +kernel
theorem dX4_sort_58 : decode cX4_sort 58 = .ok (.getfield 11, 3) := by decide +kernel
theorem dX4_sort_61 : decode cX4_sort 61 = .ok (.iload 5, 2) := by decide +kernel
theorem dX4_sort_63 : decode cX4_sort 63 = .ok (.aload_n 0, 1) := by decide +kernel
theorem dX4_sort_64 : decode cX4_sort 64 = .ok (.getfield 11, 3) := by decide +kernel
theorem dX4_sort_67 : decode cX4_sort 67 = .ok (.iload 5, 2) := by decide +kernel
theorem dX4_sort_69 : decode cX4_sort 69 = .ok (.iload_n 2, 1) := by decide +kernel
theorem dX4_sort_70 : decode cX4_sort 70 = .ok (.isub, 1) := by decide +kernel
theorem dX4_sort_71 : decode cX4_sort 71 = .ok (.iaload, 1) := by decide +kernel
theorem dX4_sort_72 : decode cX4_sort 72 = .ok (.iastore, 1) := by decide +kernel
theorem dX4_sort_73 : decode cX4_sort 73 = .ok (.iload 5, 2) := by decide +kernel
theorem dX4_sort_75 : decode cX4_sort 75 = .ok (.iload_n 2, 1) := by decide +kernel
theorem dX4_sort_76 : decode cX4_sort 76 = .ok (.isub, 1) := by decide +kernel
theorem dX4_sort_77 : decode cX4_sort 77 = .ok (.istore 5, 2) := by decide +kernel
theorem dX4_sort_79 : decode cX4_sort 79 = .ok (.goto (-42), 3) := by decide +kernel
theorem dX4_sort_82 : decode cX4_sort 82 = .ok (.aload_n 0, 1) := by decide +kernel
theorem dX4_sort_83 : decode cX4_sort 83 = .ok (.getfield 11, 3) := by decide +kernel
theorem dX4_sort_86 : decode cX4_sort 86 = .ok (.iload 5, 2) := by decide +kernel
theorem dX4_sort_88 : decode cX4_sort 88 = .ok (.iload 4, 2) := by decide +kernel
theorem dX4_sort_90 : decode cX4_sort 90 = .ok (.iastore, 1) := by decide +kernel
theorem dX4_sort_91 : decode cX4_sort 91 = .ok (.iinc 3 1, 3) := by decide +kernel
theorem dX4_sort_94 : decode cX4_sort 94 = .ok (.goto (-76), 3) := by decide +kernel
theorem dX4_sort_97 : decode cX4_sort 97 = .ok (.iinc 1 1, 3) := by decide +kernel
theorem dX4_sort_100 : decode cX4_sort 100 = .ok (.goto (-98), 3) := by decide +kernel
theorem dX4_sort_103 : decode cX4_sort 103 = .ok (.return_, 1) := by decide +kernel
theorem dX4_tell_0 : decode cX4_tell 0 = .ok (.iload_n 1, 1) := by decide +kernel
theorem dX4_tell_1 : decode cX4_tell 1 = .ok (.tableswitch 96 0 8 #[51, 56, 61, 66, 71, 76, 81, 86, 91], 51) := by decide +kernel
theorem dX4_tell_52 : decode cX4_tell 52 = .ok (.aload_n 0, 1) := by decide +kernel
theorem dX4_tell_53 : decode cX4_tell 53 = .ok (.getfield 28, 3) := by decide +kernel
theorem dX4_tell_56 : decode cX4_tell 56 = .ok (.ireturn, 1) := by decide +kernel
theorem dX4_tell_57 : decode cX4_tell 57 = .ok (.aload_n 0, 1) := by decide +kernel
theorem dX4_tell_58 : decode cX4_tell 58 = .ok (.getfield 43, 3) := by decide +kernel
theorem dX4_tell_61 : decode cX4_tell 61 = .ok (.ireturn, 1) := by decide +kernel
theorem dX4_tell_62 : decode cX4_tell 62 = .ok (.aload_n 0, 1) := by decide +kernel
theorem dX4_tell_63 : decode cX4_tell 63 = .ok (.getfield 19, 3) := by decide +kernel
theorem dX4_tell_66 : decode cX4_tell 66 = .ok (.ireturn, 1) := by decide +kernel
theorem dX4_tell_67 : decode cX4_tell 67 = .ok (.aload_n 0, 1) := by decide +kernel
theorem dX4_tell_68 : decode cX4_tell 68 = .ok (.getfield 22, 3) := by decide +kernel
theorem dX4_tell_71 : decode cX4_tell 71 = .ok (.ireturn, 1) := by decide +kernel
theorem dX4_tell_72 : decode cX4_tell 72 = .ok (.aload_n 0, 1) := by decide +kernel
theorem dX4_tell_73 : decode cX4_tell 73 = .ok (.getfield 25, 3) := by decide +kernel
theorem dX4_tell_76 : decode cX4_tell 76 = .ok (.ireturn, 1) := by decide +kernel
theorem dX4_tell_77 : decode cX4_tell 77 = .ok (.aload_n 0, 1) := by decide +kernel
theorem dX4_tell_78 : decode cX4_tell 78 = .ok (.getfield 34, 3) := by decide +kernel
theorem dX4_tell_81 : decode cX4_tell 81 = .ok (.ireturn, 1) := by decide +kernel
theorem dX4_tell_82 : decode cX4_tell 82 = .ok (.aload_n 0, 1) := by decide +kernel
theorem dX4_tell_83 : decode cX4_tell 83 = .ok (.getfield 31, 3) := by decide +kernel
theorem dX4_tell_86 : decode cX4_tell 86 = .ok (.ireturn, 1) := by decide +kernel
theorem dX4_tell_87 : decode cX4_tell 87 = .ok (.aload_n 0, 1) := by decide +kernel
theorem dX4_tell_88 : decode cX4_tell 88 = .ok (.getfield 37, 3) := by decide +kernel
theorem dX4_tell_91 : decode cX4_tell 91 = .ok (.ireturn, 1) := by decide +kernel
theorem dX4_tell_92 : decode cX4_tell 92 = .ok (.aload_n 0, 1) := by decide +kernel
theorem dX4_tell_93 : decode cX4_tell 93 = .ok (.getfield 40, 3) := by decide +kernel
theorem dX4_tell_96 : decode cX4_tell 96 = .ok (.ireturn, 1) := by decide +kernel
theorem dX4_tell_97 : decode cX4_tell 97 = .ok (.aload_n 0, 1) := by decide +kernel
theorem dX4_tell_98 : decode cX4_tell 98 = .ok (.getfield 46, 3) := by decide +kernel
theorem dX4_tell_101 : decode cX4_tell 101 = .ok (.ireturn, 1) := by decide +kernel
theorem dX5_init_0 : decode cX5_init 0 = .ok (.aload_n 0, 1) := by decide +kernel
theorem dX5_init_1 : decode cX5_init 1 = .ok (.invokespecial 3, 3) := by decide +kernel
theorem dX5_init_4 : decode cX5_init 4 = .ok (.aload_n 0, 1) := by decide +kernel
theorem dX5_init_5 : decode cX5_init 5 = .ok (.sipush 400, 3) := by decide +kernel
theorem dX5_init_8 : decode cX5_init 8 = .ok (.newarray .int, 2) := by decide +kernel
theorem dX5_init_10 : decode cX5_init 10 = .ok (.putfield 9, 3) := by decide +kernel
theorem dX5_init_13 : decode cX5_init 13 = .ok (.aload_n 0, 1) := by decide +kernel
theorem dX5_init_14 : decode cX5_init 14 = .ok (.iconst 0, 1) := by decide +kernel
theorem dX5_init_15 : decode cX5_init 15 = .ok (.putfield 15, 3) := by decide +kernel
theorem dX5_init_18 : decode cX5_init 18 = .ok (.aload_n 0, 1) := by decide +kernel
theorem dX5_init_19 : decode cX5_init 19 = .ok (.iconst 0, 1) := by decide +kernel
theorem dX5_init_20 : decode cX5_init 20 = .ok (.putfield 19, 3) := by decide +kernel
theorem dX5_init_23 : decode cX5_init 23 = .ok (.aload_n 0, 1) := by decide +kernel
theorem dX5_init_24 : decode cX5_init 24 = .ok (.iconst (-1), 1) := by decide +kernel
theorem dX5_init_25 : decode cX5_init 25 = .ok (.putfield 22, 3) := by decide +kernel
theorem dX5_init_28 : decode cX5_init 28 = .ok (.return_, 1) := by decide +kernel
theorem dX5_append_0 : decode cX5_append 0 = .ok (.bipush 24, 2) := by decide +kernel
theorem dX5_append_2 : decode cX5_append 2 = .ok (.istore_n 2, 1) := by decide +kernel
theorem dX5_append_3 : decode cX5_append 3 = .ok (.iload_n 2, 1) := by decide +kernel
theorem dX5_append_4 : decode cX5_append 4 = .ok (.ifCond .lt 47, 3) := by decide +kernel
theorem dX5_append_7 : decode cX5_append 7 = .ok (.aload_n 0, 1) := by decide +kernel
theorem dX5_append_8 : decode cX5_append 8 = .ok (.getfield 15, 3) := by decide +kernel
theorem dX5_append_11 : decode cX5_append 11 = .ok (.aload_n 0, 1) := by decide +kernel
theorem dX5_append_12 : decode cX5_append 12 = .ok (.getfield 9, 3) := by decide +kernel
theorem dX5_append_15 : decode cX5_append 15 = .ok (.arraylength, 1) := by decide +kernel
theorem dX5_append_16 : decode cX5_append 16 = .ok (.if_icmp .ge 29, 3) := by decide +kernel
theorem dX5_append_19 : decode cX5_append 19 = .ok (.aload_n 0, 1) := by decide +kernel
theorem dX5_append_20 : decode cX5_append 20 = .ok (.getfield 9, 3) := by decide +kernel
theorem dX5_append_23 : decode cX5_append 23 = .ok (.aload_n 0, 1) := by decide +kernel
theorem dX5_append_24 : decode cX5_append 24 = .ok (.getfield 15, 3) := by decide +kernel
theorem dX5_append_27 : decode cX5_append 27 = .ok (.iload_n 1, 1) := by decide +kernel
theorem dX5_append_28 : decode cX5_append 28 = .ok (.iload_n 2, 1) := by decide +kernel
theorem dX5_append_29 : decode cX5_append 29 = .ok (.iushr, 1) := by decide +kernel
theorem dX5_append_30 : decode cX5_append 30 = .ok (.sipush 255, 3) := by decide +kernel
theorem dX5_append_33 : decode cX5_append 33 = .ok (.iand, 1) := by decide +kernel
theorem dX5_append_34 : decode cX5_append 34 = .ok (.iastore, 1) := by decide +kernel
theorem dX5_append_35 : decode cX5_append 35 = .ok (.aload_n 0, 1) := by decide +kernel
theorem dX5_append_36 : decode cX5_append 36 = .ok (.dup, 1) := by decide +kernel
theorem dX5_append_37 : decode cX5_append 37 = .ok (.getfield 15, 3) := by decide +kernel
theorem dX5_append_40 : decode cX5_append 40 = .ok (.iconst 1, 1) := by decide +kernel
theorem dX5_append_41 : decode cX5_append 41 = .ok (.iadd, 1) := by decide +kernel
theorem dX5_append_42 : decode cX5_append 42 = .ok (.putfield 15, 3) := by decide +kernel
theorem dX5_append_45 : decode cX5_append 45 = .ok (.iinc 2 (-8), 3) := by decide +kernel
theorem dX5_append_48 : decode cX5_append 48 = .ok (.goto (-45), 3) := by decide +kernel
theorem dX5_append_51 : decode cX5_append 51 = .ok (.return_, 1) := by decide +kernel
theorem dX5_rewind_0 : decode cX5_rewind 0 = .ok (.aload_n 0, 1) := by decide +kernel
theorem dX5_rewind_1 : decode cX5_rewind 1 = .ok (.iconst 0, 1) := by decide +kernel
theorem dX5_rewind_2 : decode cX5_rewind 2 = .ok (.putfield 19, 3) := by decide +kernel
theorem dX5_rewind_5 : decode cX5_rewind 5 = .ok (.aload_n 0, 1) := by decide +kernel
theorem dX5_rewind_6 : decode cX5_rewind 6 = .ok (.iconst (-1), 1) := by decide +kernel
theorem dX5_rewind_7 : decode cX5_rewind 7 = .ok (.putfield 22, 3) := by decide +kernel
theorem dX5_rewind_10 : decode cX5_rewind 10 = .ok (.return_, 1) := by decide +kernel
theorem dX5_goesOn_0 : decode cX5_goesOn 0 = .ok (.aload_n 0, 1) := by decide +kernel
theorem dX5_goesOn_1 : decode cX5_goesOn 1 = .ok (.getfield 22, 3) := by decide +kernel
theorem dX5_goesOn_4 : decode cX5_goesOn 4 = .ok (.iconst (-1), 1) := by decide +kernel
theorem dX5_goesOn_5 : decode cX5_goesOn 5 = .ok (.if_icmp .ne 18, 3) := by decide +kernel
theorem dX5_goesOn_8 : decode cX5_goesOn 8 = .ok (.aload_n 0, 1) := by decide +kernel
theorem dX5_goesOn_9 : decode cX5_goesOn 9 = .ok (.getfield 19, 3) := by decide +kernel
theorem dX5_goesOn_12 : decode cX5_goesOn 12 = .ok (.aload_n 0, 1) := by decide +kernel
theorem dX5_goesOn_13 : decode cX5_goesOn 13 = .ok (.getfield 15, 3) := by decide +kernel
theorem dX5_goesOn_16 : decode cX5_goesOn 16 = .ok (.if_icmp .ge 7, 3) := by decide +kernel
theorem dX5_goesOn_19 : decode cX5_goesOn 19 = .ok (.iconst 1, 1) := by decide +kernel
theorem dX5_goesOn_20 : decode cX5_goesOn 20 = .ok (.goto 4, 3) := by decide +kernel
theorem dX5_goesOn_23 : decode cX5_goesOn 23 = .ok (.iconst 0, 1) := by decide +kernel
theorem dX5_goesOn_24 : decode cX5_goesOn 24 = .ok (.ireturn, 1) := by decide +kernel
theorem dX5_peek_0 : decode cX5_peek 0 = .ok (.aload_n 0, 1) := by decide +kernel
theorem dX5_peek_1 : decode cX5_peek 1 = .ok (.getfield 19, 3) := by decide +kernel
theorem dX5_peek_4 : decode cX5_peek 4 = .ok (.ifCond .lt 26, 3) := by decide +kernel
theorem dX5_peek_7 : decode cX5_peek 7 = .ok (.aload_n 0, 1) := by decide +kernel
theorem dX5_peek_8 : decode cX5_peek 8 = .ok (.getfield 19, 3) := by decide +kernel
theorem dX5_peek_11 : decode cX5_peek 11 = .ok (.aload_n 0, 1) := by decide +kernel
theorem dX5_peek_12 : decode cX5_peek 12 = .ok (.getfield 15, 3) := by decide +kernel
theorem dX5_peek_15 : decode cX5_peek 15 = .ok (.if_icmp .ge 15, 3) := by decide +kernel
theorem dX5_peek_18 : decode cX5_peek 18 = .ok (.aload_n 0, 1) := by decide +kernel
theorem dX5_peek_19 : decode cX5_peek 19 = .ok (.getfield 9, 3) := by decide +kernel
theorem dX5_peek_22 : decode cX5_peek 22 = .ok (.aload_n 0, 1) := by decide +kernel
theorem dX5_peek_23 : decode cX5_peek 23 = .ok (.getfield 19, 3) := by decide +kernel
theorem dX5_peek_26 : decode cX5_peek 26 = .ok (.iaload, 1) := by decide +kernel
theorem dX5_peek_27 : decode cX5_peek 27 = .ok (.goto 4, 3) := by decide +kernel
theorem dX5_peek_30 : decode cX5_peek 30 = .ok (.iconst (-1), 1) := by decide +kernel
theorem dX5_peek_31 : decode cX5_peek 31 = .ok (.ireturn, 1) := by decide +kernel
theorem dX5_blame_0 : decode cX5_blame 0 = .ok (.aload_n 0, 1) := by decide +kernel
theorem dX5_blame_1 : decode cX5_blame 1 = .ok (.getfield 22, 3) := by decide +kernel
theorem dX5_blame_4 : decode cX5_blame 4 = .ok (.iconst (-1), 1) := by decide +kernel
theorem dX5_blame_5 : decode cX5_blame 5 = .ok (.if_icmp .ne 8, 3) := by decide +kernel
theorem dX5_blame_8 : decode cX5_blame 8 = .ok (.aload_n 0, 1) := by decide +kernel
theorem dX5_blame_9 : decode cX5_blame 9 = .ok (.iload_n 1, 1) := by decide +kernel
theorem dX5_blame_10 : decode cX5_blame 10 = .ok (.putfield 22, 3) := by decide +kernel
theorem dX5_blame_13 : decode cX5_blame 13 = .ok (.return_, 1) := by decide +kernel
theorem dX5_takes_0 : decode cX5_takes 0 = .ok (.aload_n 0, 1) := by decide +kernel
theorem dX5_takes_1 : decode cX5_takes 1 = .ok (.getfield 22, 3) := by decide +kernel
theorem dX5_takes_4 : decode cX5_takes 4 = .ok (.iconst (-1), 1) := by decide +kernel
theorem dX5_takes_5 : decode cX5_takes 5 = .ok (.if_icmp .ne 11, 3) := by decide +kernel
theorem dX5_takes_8 : decode cX5_takes 8 = .ok (.aload_n 0, 1) := by decide +kernel
theorem dX5_takes_9 : decode cX5_takes 9 = .ok (.invokevirtual 25, 3) := by decide +kernel
theorem dX5_takes_12 : decode cX5_takes 12 = .ok (.iload_n 1, 1) := by decide +kernel
theorem dX5_takes_13 : decode cX5_takes 13 = .ok (.if_icmp .eq 5, 3) := by decide +kernel
theorem dX5_takes_16 : decode cX5_takes 16 = .ok (.iconst 0, 1) := by decide +kernel
theorem dX5_takes_17 : decode cX5_takes 17 = .ok (.ireturn, 1) := by decide +kernel
theorem dX5_takes_18 : decode cX5_takes 18 = .ok (.aload_n 0, 1) := by decide +kernel
theorem dX5_takes_19 : decode cX5_takes 19 = .ok (.dup, 1) := by decide +kernel
theorem dX5_takes_20 : decode cX5_takes 20 = .ok (.getfield 19, 3) := by decide +kernel
theorem dX5_takes_23 : decode cX5_takes 23 = .ok (.iconst 1, 1) := by decide +kernel
theorem dX5_takes_24 : decode cX5_takes 24 = .ok (.iadd, 1) := by decide +kernel
theorem dX5_takes_25 : decode cX5_takes 25 = .ok (.putfield 19, 3) := by decide +kernel
theorem dX5_takes_28 : decode cX5_takes 28 = .ok (.iconst 1, 1) := by decide +kernel
theorem dX5_takes_29 : decode cX5_takes 29 = .ok (.ireturn, 1) := by decide +kernel
theorem dX5_needs_0 : decode cX5_needs 0 = .ok (.aload_n 0, 1) := by decide +kernel
theorem dX5_needs_1 : decode cX5_needs 1 = .ok (.iload_n 1, 1) := by decide +kernel
theorem dX5_needs_2 : decode cX5_needs 2 = .ok (.invokevirtual 29, 3) := by decide +kernel
theorem dX5_needs_5 : decode cX5_needs 5 = .ok (.ifCond .ne 11, 3) := by decide +kernel
theorem dX5_needs_8 : decode cX5_needs 8 = .ok (.aload_n 0, 1) := by decide +kernel
theorem dX5_needs_9 : decode cX5_needs 9 = .ok (.aload_n 0, 1) := by decide +kernel
theorem dX5_needs_10 : decode cX5_needs 10 = .ok (.getfield 19, 3) := by decide +kernel
theorem dX5_needs_13 : decode cX5_needs 13 = .ok (.invokevirtual 33, 3) := by decide +kernel
theorem dX5_needs_16 : decode cX5_needs 16 = .ok (.return_, 1) := by decide +kernel
theorem dX5_isAtDigit_0 : decode cX5_isAtDigit 0 = .ok (.aload_n 0, 1) := by decide +kernel
theorem dX5_isAtDigit_1 : decode cX5_isAtDigit 1 = .ok (.invokevirtual 25, 3) := by decide +kernel
theorem dX5_isAtDigit_4 : decode cX5_isAtDigit 4 = .ok (.bipush 48, 2) := by decide +kernel
theorem dX5_isAtDigit_6 : decode cX5_isAtDigit 6 = .ok (.if_icmp .lt 16, 3) := by decide +kernel
theorem dX5_isAtDigit_9 : decode cX5_isAtDigit 9 = .ok (.aload_n 0, 1) := by decide +kernel
theorem dX5_isAtDigit_10 : decode cX5_isAtDigit 10 = .ok (.invokevirtual 25, 3) := by decide +kernel
theorem dX5_isAtDigit_13 : decode cX5_isAtDigit 13 = .ok (.bipush 57, 2) := by decide +kernel
theorem dX5_isAtDigit_15 : decode cX5_isAtDigit 15 = .ok (.if_icmp .gt 7, 3) := by decide +kernel
theorem dX5_isAtDigit_18 : decode cX5_isAtDigit 18 = .ok (.iconst 1, 1) := by decide +kernel
theorem dX5_isAtDigit_19 : decode cX5_isAtDigit 19 = .ok (.goto 4, 3) := by decide +kernel
theorem dX5_isAtDigit_22 : decode cX5_isAtDigit 22 = .ok (.iconst 0, 1) := by decide +kernel
theorem dX5_isAtDigit_23 : decode cX5_isAtDigit 23 = .ok (.ireturn, 1) := by decide +kernel
theorem dX5_number_0 : decode cX5_number 0 = .ok (.aload_n 0, 1) := by decide +kernel
theorem dX5_number_1 : decode cX5_number 1 = .ok (.invokevirtual 37, 3) := by decide +kernel
theorem dX5_number_4 : decode cX5_number 4 = .ok (.ifCond .ne 13, 3) := by decide +kernel
theorem dX5_number_7 : decode cX5_number 7 = .ok (.aload_n 0, 1) := by decide +kernel
theorem dX5_number_8 : decode cX5_number 8 = .ok (.aload_n 0, 1) := by decide +kernel
theorem dX5_number_9 : decode cX5_number 9 = .ok (.getfield 19, 3) := by decide +kernel
theorem dX5_number_12 : decode cX5_number 12 = .ok (.invokevirtual 33, 3) := by decide +kernel
theorem dX5_number_15 : decode cX5_number 15 = .ok (.iconst 0, 1) := by decide +kernel
theorem dX5_number_16 : decode cX5_number 16 = .ok (.ireturn, 1) := by decide +kernel
theorem dX5_number_17 : decode cX5_number 17 = .ok (.iconst 0, 1) := by decide +kernel
theorem dX5_number_18 : decode cX5_number 18 = .ok (.istore_n 1, 1) := by decide +kernel
theorem dX5_number_19 : decode cX5_number 19 = .ok (.iconst 0, 1) := by decide +kernel
theorem dX5_number_20 : decode cX5_number 20 = .ok (.istore_n 2, 1) := by decide +kernel
theorem dX5_number_21 : decode cX5_number 21 = .ok (.iload_n 2, 1) := by decide +kernel
theorem dX5_number_22 : decode cX5_number 22 = .ok (.iconst 4, 1) := by decide +kernel
theorem dX5_number_23 : decode cX5_number 23 = .ok (.if_icmp .ge 39, 3) := by decide +kernel
theorem dX5_number_26 : decode cX5_number 26 = .ok (.aload_n 0, 1) := by decide +kernel
theorem dX5_number_27 : decode cX5_number 27 = .ok (.invokevirtual 37, 3) := by decide +kernel
theorem dX5_number_30 : decode cX5_number 30 = .ok (.ifCond .eq 32, 3) := by decide +kernel
theorem dX5_number_33 : decode cX5_number 33 = .ok (.iload_n 1, 1) := by decide +kernel
theorem dX5_number_34 : decode cX5_number 34 = .ok (.bipush 10, 2) := by decide +kernel
theorem dX5_number_36 : decode cX5_number 36 = .ok (.imul, 1) := by decide +kernel
theorem dX5_number_37 : decode cX5_number 37 = .ok (.aload_n 0, 1) := by decide +kernel
theorem dX5_number_38 : decode cX5_number 38 = .ok (.invokevirtual 25, 3) := by decide +kernel
theorem dX5_number_41 : decode cX5_number 41 = .ok (.iadd, 1) := by decide +kernel
theorem dX5_number_42 : decode cX5_number 42 = .ok (.bipush 48, 2) := by decide +kernel
theorem dX5_number_44 : decode cX5_number 44 = .ok (.isub, 1) := by decide +kernel
theorem dX5_number_45 : decode cX5_number 45 = .ok (.istore_n 1, 1) := by decide +kernel
theorem dX5_number_46 : decode cX5_number 46 = .ok (.aload_n 0, 1) := by decide +kernel
theorem dX5_number_47 : decode cX5_number 47 = .ok (.dup, 1) := by decide +kernel
theorem dX5_number_48 : decode cX5_number 48 = .ok (.getfield 19, 3) := by decide +kernel
theorem dX5_number_51 : decode cX5_number 51 = .ok (.iconst 1, 1) := by decide +kernel
theorem dX5_number_52 : decode cX5_number 52 = .ok (.iadd, 1) := by decide +kernel
theorem dX5_number_53 : decode cX5_number 53 = .ok (.putfield 19, 3) := by decide +kernel
theorem dX5_number_56 : decode cX5_number 56 = .ok (.iinc 2 1, 3) := by decide +kernel
theorem dX5_number_59 : decode cX5_number 59 = .ok (.goto (-38), 3) := by decide +kernel
theorem dX5_number_62 : decode cX5_number 62 = .ok (.aload_n 0, 1) := by decide +kernel
theorem dX5_number_63 : decode cX5_number 63 = .ok (.invokevirtual 37, 3) := by decide +kernel
theorem dX5_number_66 : decode cX5_number 66 = .ok (.ifCond .eq 11, 3) := by decide +kernel
theorem dX5_number_69 : decode cX5_number 69 = .ok (.aload_n 0, 1) := by decide +kernel
theorem dX5_number_70 : decode cX5_number 70 = .ok (.aload_n 0, 1) := by decide +kernel
theorem dX5_number_71 : decode cX5_number 71 = .ok (.getfield 19, 3) := by decide +kernel
theorem dX5_number_74 : decode cX5_number 74 = .ok (.invokevirtual 33, 3) := by decide +kernel
theorem dX5_number_77 : decode cX5_number 77 = .ok (.iload_n 1, 1) := by decide +kernel
theorem dX5_number_78 : decode cX5_number 78 = .ok (.ireturn, 1) := by decide +kernel
theorem dX5_signedNumber_0 : decode cX5_signedNumber 0 = .ok (.aload_n 0, 1) := by decide +kernel
theorem dX5_signedNumber_1 : decode cX5_signedNumber 1 = .ok (.bipush 45, 2) := by decide +kernel
theorem dX5_signedNumber_3 : decode cX5_signedNumber 3 = .ok (.invokevirtual 29, 3) := by decide +kernel
theorem dX5_signedNumber_6 : decode cX5_signedNumber 6 = .ok (.istore_n 1, 1) := by decide +kernel
theorem dX5_signedNumber_7 : decode cX5_signedNumber 7 = .ok (.aload_n 0, 1) := by decide +kernel
theorem dX5_signedNumber_8 : decode cX5_signedNumber 8 = .ok (.invokevirtual 41, 3) := by decide +kernel
theorem dX5_signedNumber_11 : decode cX5_signedNumber 11 = .ok (.istore_n 2, 1) := by decide +kernel
theorem dX5_signedNumber_12 : decode cX5_signedNumber 12 = .ok (.iload_n 1, 1) := by decide +kernel
theorem dX5_signedNumber_13 : decode cX5_signedNumber 13 = .ok (.ifCond .eq 8, 3) := by decide +kernel
theorem dX5_signedNumber_16 : decode cX5_signedNumber 16 = .ok (.iload_n 2, 1) := by decide +kernel
theorem dX5_signedNumber_17 : decode cX5_signedNumber 17 = .ok (.ineg, 1) := by decide +kernel
theorem dX5_signedNumber_18 : decode cX5_signedNumber 18 = .ok (.goto 4, 3) := by decide +kernel
theorem dX5_signedNumber_21 : decode cX5_signedNumber 21 = .ok (.iload_n 2, 1) := by decide +kernel
theorem dX5_signedNumber_22 : decode cX5_signedNumber 22 = .ok (.ireturn, 1) := by decide +kernel
theorem dX5_holds_0 : decode cX5_holds 0 = .ok (.iload_n 1, 1) := by decide +kernel
theorem dX5_holds_1 : decode cX5_holds 1 = .ok (.ifCond .ne 8, 3) := by decide +kernel
theorem dX5_holds_4 : decode cX5_holds 4 = .ok (.aload_n 0, 1) := by decide +kernel
theorem dX5_holds_5 : decode cX5_holds 5 = .ok (.iload_n 2, 1) := by decide +kernel
theorem dX5_holds_6 : decode cX5_holds 6 = .ok (.invokevirtual 33, 3) := by decide +kernel
theorem dX5_holds_9 : decode cX5_holds 9 = .ok (.aload_n 0, 1) := by decide +kernel
theorem dX5_holds_10 : decode cX5_holds 10 = .ok (.getfield 22, 3) := by decide +kernel
theorem dX5_holds_13 : decode cX5_holds 13 = .ok (.iconst (-1), 1) := by decide +kernel
theorem dX5_holds_14 : decode cX5_holds 14 = .ok (.if_icmp .ne 7, 3) := by decide +kernel
theorem dX5_holds_17 : decode cX5_holds 17 = .ok (.iconst 1, 1) := by decide +kernel
theorem dX5_holds_18 : decode cX5_holds 18 = .ok (.goto 4, 3) := by decide +kernel
theorem dX5_holds_21 : decode cX5_holds 21 = .ok (.iconst 0, 1) := by decide +kernel
theorem dX5_holds_22 : decode cX5_holds 22 = .ok (.ireturn, 1) := by decide +kernel
theorem dX6_read_0 : decode cX6_read 0 = .ok (.aload_n 0, 1) := by decide +kernel
theorem dX6_read_1 : decode cX6_read 1 = .ok (.invokevirtual 9, 3) := by decide +kernel
theorem dX6_read_4 : decode cX6_read 4 = .ok (.iconst 0, 1) := by decide +kernel
theorem dX6_read_5 : decode cX6_read 5 = .ok (.istore_n 2, 1) := by decide +kernel
theorem dX6_read_6 : decode cX6_read 6 = .ok (.iconst 0, 1) := by decide +kernel
theorem dX6_read_7 : decode cX6_read 7 = .ok (.istore_n 3, 1) := by decide +kernel
theorem dX6_read_8 : decode cX6_read 8 = .ok (.iload_n 3, 1) := by decide +kernel
theorem dX6_read_9 : decode cX6_read 9 = .ok (.sipush 400, 3) := by decide +kernel
theorem dX6_read_12 : decode cX6_read 12 = .ok (.if_icmp .ge 42, 3) := by decide +kernel
theorem dX6_read_15 : decode cX6_read 15 = .ok (.aload_n 0, 1) := by decide +kernel
theorem dX6_read_16 : decode cX6_read 16 = .ok (.invokevirtual 14, 3) := by decide +kernel
theorem dX6_read_19 : decode cX6_read 19 = .ok (.ifCond .eq 35, 3) := by decide +kernel
theorem dX6_read_22 : decode cX6_read 22 = .ok (.aload_n 0, 1) := by decide +kernel
theorem dX6_read_23 : decode cX6_read 23 = .ok (.invokevirtual 18, 3) := by decide +kernel
theorem dX6_read_26 : decode cX6_read 26 = .ok (.bipush 98, 2) := by decide +kernel
theorem dX6_read_28 : decode cX6_read 28 = .ok (.if_icmp .ne 11, 3) := by decide +kernel
theorem dX6_read_31 : decode cX6_read 31 = .ok (.aload_n 0, 1) := by decide +kernel
theorem dX6_read_32 : decode cX6_read 32 = .ok (.aload_n 1, 1) := by decide +kernel
theorem dX6_read_33 : decode cX6_read 33 = .ok (.invokestatic 22, 3) := by decide +kernel
theorem dX6_read_36 : decode cX6_read 36 = .ok (.goto 12, 3) := by decide +kernel
theorem dX6_read_39 : decode cX6_read 39 = .ok (.iload_n 2, 1) := by decide +kernel
theorem dX6_read_40 : decode cX6_read 40 = .ok (.aload_n 0, 1) := by decide +kernel
theorem dX6_read_41 : decode cX6_read 41 = .ok (.aload_n 1, 1) := by decide +kernel
theorem dX6_read_42 : decode cX6_read 42 = .ok (.iload_n 2, 1) := by decide +kernel
theorem dX6_read_43 : decode cX6_read 43 = .ok (.invokestatic 28, 3) := by decide +kernel
theorem dX6_read_46 : decode cX6_read 46 = .ok (.ior, 1) := by decide +kernel
theorem dX6_read_47 : decode cX6_read 47 = .ok (.istore_n 2, 1) := by decide +kernel
theorem dX6_read_48 : decode cX6_read 48 = .ok (.iinc 3 1, 3) := by decide +kernel
theorem dX6_read_51 : decode cX6_read 51 = .ok (.goto (-43), 3) := by decide +kernel
theorem dX6_read_54 : decode cX6_read 54 = .ok (.aload_n 1, 1) := by decide +kernel
theorem dX6_read_55 : decode cX6_read 55 = .ok (.getfield 32, 3) := by decide +kernel
theorem dX6_read_58 : decode cX6_read 58 = .ok (.iconst 2, 1) := by decide +kernel
theorem dX6_read_59 : decode cX6_read 59 = .ok (.if_icmp .ge 11, 3) := by decide +kernel
theorem dX6_read_62 : decode cX6_read 62 = .ok (.aload_n 0, 1) := by decide +kernel
theorem dX6_read_63 : decode cX6_read 63 = .ok (.aload_n 0, 1) := by decide +kernel
theorem dX6_read_64 : decode cX6_read 64 = .ok (.getfield 38, 3) := by decide +kernel
theorem dX6_read_67 : decode cX6_read 67 = .ok (.invokevirtual 41, 3) := by decide +kernel
theorem dX6_read_70 : decode cX6_read 70 = .ok (.return_, 1) := by decide +kernel
theorem dX6_readBit_0 : decode cX6_readBit 0 = .ok (.aload_n 0, 1) := by decide +kernel
theorem dX6_readBit_1 : decode cX6_readBit 1 = .ok (.getfield 38, 3) := by decide +kernel
theorem dX6_readBit_4 : decode cX6_readBit 4 = .ok (.istore_n 2, 1) := by decide +kernel
theorem dX6_readBit_5 : decode cX6_readBit 5 = .ok (.aload_n 1, 1) := by decide +kernel
theorem dX6_readBit_6 : decode cX6_readBit 6 = .ok (.getfield 32, 3) := by decide +kernel
theorem dX6_readBit_9 : decode cX6_readBit 9 = .ok (.bipush 12, 2) := by decide +kernel
theorem dX6_readBit_11 : decode cX6_readBit 11 = .ok (.if_icmp .lt 9, 3) := by decide +kernel
theorem dX6_readBit_14 : decode cX6_readBit 14 = .ok (.aload_n 0, 1) := by decide +kernel
theorem dX6_readBit_15 : decode cX6_readBit 15 = .ok (.iload_n 2, 1) := by decide +kernel
theorem dX6_readBit_16 : decode cX6_readBit 16 = .ok (.invokevirtual 41, 3) := by decide +kernel
theorem dX6_readBit_19 : decode cX6_readBit 19 = .ok (.return_, 1) := by decide +kernel
theorem dX6_readBit_20 : decode cX6_readBit 20 = .ok (.aload_n 0, 1) := by decide +kernel
theorem dX6_readBit_21 : decode cX6_readBit 21 = .ok (.dup, 1) := by decide +kernel
theorem dX6_readBit_22 : decode cX6_readBit 22 = .ok (.getfield 38, 3) := by decide +kernel
theorem dX6_readBit_25 : decode cX6_readBit 25 = .ok (.iconst 1, 1) := by decide +kernel
theorem dX6_readBit_26 : decode cX6_readBit 26 = .ok (.iadd, 1) := by decide +kernel
theorem dX6_readBit_27 : decode cX6_readBit 27 = .ok (.putfield 38, 3) := by decide +kernel
theorem dX6_readBit_30 : decode cX6_readBit 30 = .ok (.aload_n 0, 1) := by decide +kernel
theorem dX6_readBit_31 : decode cX6_readBit 31 = .ok (.getfield 38, 3) := by decide +kernel
theorem dX6_readBit_34 : decode cX6_readBit 34 = .ok (.istore_n 3, 1) := by decide +kernel
theorem dX6_readBit_35 : decode cX6_readBit 35 = .ok (.aload_n 0, 1) := by decide +kernel
theorem dX6_readBit_36 : decode cX6_readBit 36 = .ok (.invokevirtual 45, 3) := by decide +kernel
theorem dX6_readBit_39 : decode cX6_readBit 39 = .ok (.istore 4, 2) := by decide +kernel
theorem dX6_readBit_41 : decode cX6_readBit 41 = .ok (.aload_n 0, 1) := by decide +kernel
theorem dX6_readBit_42 : decode cX6_readBit 42 = .ok (.iload 4, 2) := by decide +kernel
theorem dX6_readBit_44 : decode cX6_readBit 44 = .ok (.iconst 1, 1) := by decide +kernel
theorem dX6_readBit_45 : decode cX6_readBit 45 = .ok (.if_icmp .lt 7, 3) := by decide +kernel
theorem dX6_readBit_48 : decode cX6_readBit 48 = .ok (.iconst 1, 1) := by decide +kernel
theorem dX6_readBit_49 : decode cX6_readBit 49 = .ok (.goto 4, 3) := by decide +kernel
theorem dX6_readBit_52 : decode cX6_readBit 52 = .ok (.iconst 0, 1) := by decide +kernel
theorem dX6_readBit_53 : decode cX6_readBit 53 = .ok (.iload_n 3, 1) := by decide +kernel
theorem dX6_readBit_54 : decode cX6_readBit 54 = .ok (.invokevirtual 48, 3) := by decide +kernel
theorem dX6_readBit_57 : decode cX6_readBit 57 = .ok (.ifCond .ne 4, 3) := by decide +kernel
theorem dX6_readBit_60 : decode cX6_readBit 60 = .ok (.return_, 1) := by decide +kernel
theorem dX6_readBit_61 : decode cX6_readBit 61 = .ok (.iconst 0, 1) := by decide +kernel
theorem dX6_readBit_62 : decode cX6_readBit 62 = .ok (.istore 5, 2) := by decide +kernel
theorem dX6_readBit_64 : decode cX6_readBit 64 = .ok (.aload_n 0, 1) := by decide +kernel
theorem dX6_readBit_65 : decode cX6_readBit 65 = .ok (.bipush 58, 2) := by decide +kernel
theorem dX6_readBit_67 : decode cX6_readBit 67 = .ok (.invokevirtual 52, 3) := by decide +kernel
theorem dX6_readBit_70 : decode cX6_readBit 70 = .ok (.ifCond .eq 29, 3) := by decide +kernel
theorem dX6_readBit_73 : decode cX6_readBit 73 = .ok (.aload_n 0, 1) := by decide +kernel
theorem dX6_readBit_74 : decode cX6_readBit 74 = .ok (.getfield 38, 3) := by decide +kernel
theorem dX6_readBit_77 : decode cX6_readBit 77 = .ok (.istore_n 3, 1) := by decide +kernel
theorem dX6_readBit_78 : decode cX6_readBit 78 = .ok (.aload_n 0, 1) := by decide +kernel
theorem dX6_readBit_79 : decode cX6_readBit 79 = .ok (.invokevirtual 56, 3) := by decide +kernel
theorem dX6_readBit_82 : decode cX6_readBit 82 = .ok (.istore 5, 2) := by decide +kernel
theorem dX6_readBit_84 : decode cX6_readBit 84 = .ok (.aload_n 0, 1) := by decide +kernel
theorem dX6_readBit_85 : decode cX6_readBit 85 = .ok (.iload 5, 2) := by decide +kernel
theorem dX6_readBit_87 : decode cX6_readBit 87 = .ok (.bipush (-99), 2) := by decide +kernel
theorem dX6_readBit_89 : decode cX6_readBit 89 = .ok (.bipush 99, 2) := by decide +kernel
theorem dX6_readBit_91 : decode cX6_readBit 91 = .ok (.invokestatic 59, 3) := by decide +kernel
theorem dX6_readBit_94 : decode cX6_readBit 94 = .ok (.iload_n 3, 1) := by decide +kernel
theorem dX6_readBit_95 : decode cX6_readBit 95 = .ok (.invokevirtual 48, 3) := by decide +kernel
theorem dX6_readBit_98 : decode cX6_readBit 98 = .ok (.pop, 1) := by decide +kernel
theorem dX6_readBit_99 : decode cX6_readBit 99 = .ok (.aload_n 0, 1) := by decide +kernel
theorem dX6_readBit_100 : decode cX6_readBit 100 = .ok (.bipush 59, 2) := by decide +kernel
theorem dX6_readBit_102 : decode cX6_readBit 102 = .ok (.invokevirtual 63, 3) := by decide +kernel
theorem dX6_readBit_105 : decode cX6_readBit 105 = .ok (.aload_n 0, 1) := by decide +kernel
theorem dX6_readBit_106 : decode cX6_readBit 106 = .ok (.iload 4, 2) := by decide +kernel
theorem dX6_readBit_108 : decode cX6_readBit 108 = .ok (.iload 5, 2) := by decide +kernel
theorem dX6_readBit_110 : decode cX6_readBit 110 = .ok (.iadd, 1) := by decide +kernel
theorem dX6_readBit_111 : decode cX6_readBit 111 = .ok (.iconst 1, 1) := by decide +kernel
theorem dX6_readBit_112 : decode cX6_readBit 112 = .ok (.if_icmp .lt 7, 3) := by decide +kernel
theorem dX6_readBit_115 : decode cX6_readBit 115 = .ok (.iconst 1, 1) := by decide +kernel
theorem dX6_readBit_116 : decode cX6_readBit 116 = .ok (.goto 4, 3) := by decide +kernel
theorem dX6_readBit_119 : decode cX6_readBit 119 = .ok (.iconst 0, 1) := by decide +kernel
theorem dX6_readBit_120 : decode cX6_readBit 120 = .ok (.iload_n 2, 1) := by decide +kernel
theorem dX6_readBit_121 : decode cX6_readBit 121 = .ok (.invokevirtual 48, 3) := by decide +kernel
theorem dX6_readBit_124 : decode cX6_readBit 124 = .ok (.ifCond .eq 11, 3) := by decide +kernel
theorem dX6_readBit_127 : decode cX6_readBit 127 = .ok (.aload_n 1, 1) := by decide +kernel
theorem dX6_readBit_128 : decode cX6_readBit 128 = .ok (.iload 4, 2) := by decide +kernel
theorem dX6_readBit_130 : decode cX6_readBit 130 = .ok (.iload 5, 2) := by decide +kernel
theorem dX6_readBit_132 : decode cX6_readBit 132 = .ok (.invokevirtual 66, 3) := by decide +kernel
theorem dX6_readBit_135 : decode cX6_readBit 135 = .ok (.return_, 1) := by decide +kernel
theorem dX6_readSetting_0 : decode cX6_readSetting 0 = .ok (.aload_n 0, 1) := by decide +kernel
theorem dX6_readSetting_1 : decode cX6_readSetting 1 = .ok (.invokevirtual 18, 3) := by decide +kernel
theorem dX6_readSetting_4 : decode cX6_readSetting 4 = .ok (.invokestatic 70, 3) := by decide +kernel
theorem dX6_readSetting_7 : decode cX6_readSetting 7 = .ok (.istore_n 3, 1) := by decide +kernel
theorem dX6_readSetting_8 : decode cX6_readSetting 8 = .ok (.iload_n 3, 1) := by decide +kernel
theorem dX6_readSetting_9 : decode cX6_readSetting 9 = .ok (.iconst (-1), 1) := by decide +kernel
theorem dX6_readSetting_10 : decode cX6_readSetting 10 = .ok (.if_icmp .eq 11, 3) := by decide +kernel
theorem dX6_readSetting_13 : decode cX6_readSetting 13 = .ok (.iload_n 2, 1) := by decide +kernel
theorem dX6_readSetting_14 : decode cX6_readSetting 14 = .ok (.iconst 1, 1) := by decide +kernel
theorem dX6_readSetting_15 : decode cX6_readSetting 15 = .ok (.iload_n 3, 1) := by decide +kernel
theorem dX6_readSetting_16 : decode cX6_readSetting 16 = .ok (.ishl, 1) := by decide +kernel
theorem dX6_readSetting_17 : decode cX6_readSetting 17 = .ok (.iand, 1) := by decide +kernel
theorem dX6_readSetting_18 : decode cX6_readSetting 18 = .ok (.ifCond .eq 13, 3) := by decide +kernel
theorem dX6_readSetting_21 : decode cX6_readSetting 21 = .ok (.aload_n 0, 1) := by decide +kernel
theorem dX6_readSetting_22 : decode cX6_readSetting 22 = .ok (.aload_n 0, 1) := by decide +kernel
theorem dX6_readSetting_23 : decode cX6_readSetting 23 = .ok (.getfield 38, 3) := by decide +kernel
theorem dX6_readSetting_26 : decode cX6_readSetting 26 = .ok (.invokevirtual 41, 3) := by decide +kernel
theorem dX6_readSetting_29 : decode cX6_readSetting 29 = .ok (.iconst 0, 1) := by decide +kernel
theorem dX6_readSetting_30 : decode cX6_readSetting 30 = .ok (.ireturn, 1) := by decide +kernel
theorem dX6_readSetting_31 : decode cX6_readSetting 31 = .ok (.aload_n 0, 1) := by decide +kernel
theorem dX6_readSetting_32 : decode cX6_readSetting 32 = .ok (.dup, 1) := by decide +kernel
theorem dX6_readSetting_33 : decode cX6_readSetting 33 = .ok (.getfield 38, 3) := by decide +kernel
theorem dX6_readSetting_36 : decode cX6_readSetting 36 = .ok (.iconst 1, 1) := by decide +kernel
theorem dX6_readSetting_37 : decode cX6_readSetting 37 = .ok (.iadd, 1) := by decide +kernel
theorem dX6_readSetting_38 : decode cX6_readSetting 38 = .ok (.putfield 38, 3) := by decide +kernel
theorem dX6_readSetting_41 : decode cX6_readSetting 41 = .ok (.aload_n 0, 1) := by decide +kernel
theorem dX6_readSetting_42 : decode cX6_readSetting 42 = .ok (.getfield 38, 3) := by decide +kernel
theorem dX6_readSetting_45 : decode cX6_readSetting 45 = .ok (.istore 4, 2) := by decide +kernel
theorem dX6_readSetting_47 : decode cX6_readSetting 47 = .ok (.iload_n 3, 1) := by decide +kernel
theorem dX6_readSetting_48 : decode cX6_readSetting 48 = .ok (.ifCond .ne 10, 3) := by decide +kernel
theorem dX6_readSetting_51 : decode cX6_readSetting 51 = .ok (.aload_n 0, 1) := by decide +kernel
theorem dX6_readSetting_52 : decode cX6_readSetting 52 = .ok (.invokevirtual 56, 3) := by decide +kernel
theorem dX6_readSetting_55 : decode cX6_readSetting 55 = .ok (.goto 7, 3) := by decide +kernel
theorem dX6_readSetting_58 : decode cX6_readSetting 58 = .ok (.aload_n 0, 1) := by decide +kernel
theorem dX6_readSetting_59 : decode cX6_readSetting 59 = .ok (.invokevirtual 45, 3) := by decide +kernel
theorem dX6_readSetting_62 : decode cX6_readSetting 62 = .ok (.istore 5, 2) := by decide +kernel
theorem dX6_readSetting_64 : decode cX6_readSetting 64 = .ok (.aload_n 0, 1) := by decide +kernel
theorem dX6_readSetting_65 : decode cX6_readSetting 65 = .ok (.iload_n 3, 1) := by decide +kernel
theorem dX6_readSetting_66 : decode cX6_readSetting 66 = .ok (.iload 5, 2) := by decide +kernel
theorem dX6_readSetting_68 : decode cX6_readSetting 68 = .ok (.invokestatic 74, 3) := by decide +kernel
theorem dX6_readSetting_71 : decode cX6_readSetting 71 = .ok (.iload 4, 2) := by decide +kernel
theorem dX6_readSetting_73 : decode cX6_readSetting 73 = .ok (.invokevirtual 48, 3) := by decide +kernel
theorem dX6_readSetting_76 : decode cX6_readSetting 76 = .ok (.pop, 1) := by decide +kernel
theorem dX6_readSetting_77 : decode cX6_readSetting 77 = .ok (.aload_n 0, 1) := by decide +kernel
theorem dX6_readSetting_78 : decode cX6_readSetting 78 = .ok (.bipush 59, 2) := by decide +kernel
theorem dX6_readSetting_80 : decode cX6_readSetting 80 = .ok (.invokevirtual 63, 3) := by decide +kernel
theorem dX6_readSetting_83 : decode cX6_readSetting 83 = .ok (.aload_n 0, 1) := by decide +kernel
theorem dX6_readSetting_84 : decode cX6_readSetting 84 = .ok (.getfield 78, 3) := by decide +kernel
theorem dX6_readSetting_87 : decode cX6_readSetting 87 = .ok (.iconst (-1), 1) := by decide +kernel
theorem dX6_readSetting_88 : decode cX6_readSetting 88 = .ok (.if_icmp .ne 10, 3) := by decide +kernel
theorem dX6_readSetting_91 : decode cX6_readSetting 91 = .ok (.aload_n 1, 1) := by decide +kernel
theorem dX6_readSetting_92 : decode cX6_readSetting 92 = .ok (.iload_n 3, 1) := by decide +kernel
theorem dX6_readSetting_93 : decode cX6_readSetting 93 = .ok (.iload 5, 2) := by decide +kernel
theorem dX6_readSetting_95 : decode cX6_readSetting 95 = .ok (.invokevirtual 81, 3) := by decide +kernel
theorem dX6_readSetting_98 : decode cX6_readSetting 98 = .ok (.iconst 1, 1) := by decide +kernel
theorem dX6_readSetting_99 : decode cX6_readSetting 99 = .ok (.iload_n 3, 1) := by decide +kernel
theorem dX6_readSetting_100 : decode cX6_readSetting 100 = .ok (.ishl, 1) := by decide +kernel
theorem dX6_readSetting_101 : decode cX6_readSetting 101 = .ok (.ireturn, 1) := by decide +kernel
theorem dX6_settingOf_0 : decode cX6_settingOf 0 = .ok (.iconst 0, 1) := by decide +kernel
theorem dX6_settingOf_1 : decode cX6_settingOf 1 = .ok (.istore_n 1, 1) := by decide +kernel
theorem dX6_settingOf_2 : decode cX6_settingOf 2 = .ok (.iload_n 1, 1) := by decide +kernel
theorem dX6_settingOf_3 : decode cX6_settingOf 3 = .ok (.getstatic 84, 3) := by decide +kernel
theorem dX6_settingOf_6 : decode cX6_settingOf 6 = .ok (.arraylength, 1) := by decide +kernel
theorem dX6_settingOf_7 : decode cX6_settingOf 7 = .ok (.if_icmp .ge 20, 3) := by decide +kernel
theorem dX6_settingOf_10 : decode cX6_settingOf 10 = .ok (.getstatic 84, 3) := by decide +kernel
theorem dX6_settingOf_13 : decode cX6_settingOf 13 = .ok (.iload_n 1, 1) := by decide +kernel
theorem dX6_settingOf_14 : decode cX6_settingOf 14 = .ok (.caload, 1) := by decide +kernel
theorem dX6_settingOf_15 : decode cX6_settingOf 15 = .ok (.iload_n 0, 1) := by decide +kernel
theorem dX6_settingOf_16 : decode cX6_settingOf 16 = .ok (.if_icmp .ne 5, 3) := by decide +kernel
theorem dX6_settingOf_19 : decode cX6_settingOf 19 = .ok (.iload_n 1, 1) := by decide +kernel
theorem dX6_settingOf_20 : decode cX6_settingOf 20 = .ok (.ireturn, 1) := by decide +kernel
theorem dX6_settingOf_21 : decode cX6_settingOf 21 = .ok (.iinc 1 1, 3) := by decide +kernel
theorem dX6_settingOf_24 : decode cX6_settingOf 24 = .ok (.goto (-22), 3) := by decide +kernel
theorem dX6_settingOf_27 : decode cX6_settingOf 27 = .ok (.iconst (-1), 1) := by decide +kernel
theorem dX6_settingOf_28 : decode cX6_settingOf 28 = .ok (.ireturn, 1) := by decide +kernel
theorem dX7_init_0 : decode cX7_init 0 = .ok (.aload_n 0, 1) := by decide +kernel
theorem dX7_init_1 : decode cX7_init 1 = .ok (.invokespecial 1, 3) := by decide +kernel
theorem dX7_init_4 : decode cX7_init 4 = .ok (.aload_n 0, 1) := by decide +kernel
theorem dX7_init_5 : decode cX7_init 5 = .ok (.new 7, 3) := by decide +kernel
theorem dX7_init_8 : decode cX7_init 8 = .ok (.dup, 1) := by decide +kernel
theorem dX7_init_9 : decode cX7_init 9 = .ok (.invokespecial 9, 3) := by decide +kernel
theorem dX7_init_12 : decode cX7_init 12 = .ok (.putfield 10, 3) := by decide +kernel
theorem dX7_init_15 : decode cX7_init 15 = .ok (.aload_n 0, 1) := by decide +kernel
theorem dX7_init_16 : decode cX7_init 16 = .ok (.new 16, 3) := by decide +kernel
theorem dX7_init_19 : decode cX7_init 19 = .ok (.dup, 1) := by decide +kernel
theorem dX7_init_20 : decode cX7_init 20 = .ok (.invokespecial 18, 3) := by decide +kernel
theorem dX7_init_23 : decode cX7_init 23 = .ok (.putfield 19, 3) := by decide +kernel
theorem dX7_init_26 : decode cX7_init 26 = .ok (.aload_n 0, 1) := by decide +kernel
theorem dX7_init_27 : decode cX7_init 27 = .ok (.new 16, 3) := by decide +kernel
theorem dX7_init_30 : decode cX7_init 30 = .ok (.dup, 1) := by decide +kernel
theorem dX7_init_31 : decode cX7_init 31 = .ok (.invokespecial 18, 3) := by decide +kernel
theorem dX7_init_34 : decode cX7_init 34 = .ok (.putfield 23, 3) := by decide +kernel
theorem dX7_init_37 : decode cX7_init 37 = .ok (.aload_n 0, 1) := by decide +kernel
theorem dX7_init_38 : decode cX7_init 38 = .ok (.iconst 3, 1) := by decide +kernel
theorem dX7_init_39 : decode cX7_init 39 = .ok (.anewarray 16, 3) := by decide +kernel
theorem dX7_init_42 : decode cX7_init 42 = .ok (.putfield 26, 3) := by decide +kernel
theorem dX7_init_45 : decode cX7_init 45 = .ok (.aload_n 0, 1) := by decide +kernel
theorem dX7_init_46 : decode cX7_init 46 = .ok (.new 30, 3) := by decide +kernel
theorem dX7_init_49 : decode cX7_init 49 = .ok (.dup, 1) := by decide +kernel
theorem dX7_init_50 : decode cX7_init 50 = .ok (.invokespecial 32, 3) := by decide +kernel
theorem dX7_init_53 : decode cX7_init 53 = .ok (.putfield 33, 3) := by decide +kernel
theorem dX7_init_56 : decode cX7_init 56 = .ok (.aload_n 0, 1) := by decide +kernel
theorem dX7_init_57 : decode cX7_init 57 = .ok (.new 30, 3) := by decide +kernel
theorem dX7_init_60 : decode cX7_init 60 = .ok (.dup, 1) := by decide +kernel
theorem dX7_init_61 : decode cX7_init 61 = .ok (.invokespecial 32, 3) := by decide +kernel
theorem dX7_init_64 : decode cX7_init 64 = .ok (.putfield 37, 3) := by decide +kernel
theorem dX7_init_67 : decode cX7_init 67 = .ok (.aload_n 0, 1) := by decide +kernel
theorem dX7_init_68 : decode cX7_init 68 = .ok (.new 40, 3) := by decide +kernel
theorem dX7_init_71 : decode cX7_init 71 = .ok (.dup, 1) := by decide +kernel
theorem dX7_init_72 : decode cX7_init 72 = .ok (.invokespecial 42, 3) := by decide +kernel
theorem dX7_init_75 : decode cX7_init 75 = .ok (.putfield 43, 3) := by decide +kernel
theorem dX7_init_78 : decode cX7_init 78 = .ok (.aload_n 0, 1) := by decide +kernel
theorem dX7_init_79 : decode cX7_init 79 = .ok (.new 47, 3) := by decide +kernel
theorem dX7_init_82 : decode cX7_init 82 = .ok (.dup, 1) := by decide +kernel
theorem dX7_init_83 : decode cX7_init 83 = .ok (.invokespecial 49, 3) := by decide +kernel
theorem dX7_init_86 : decode cX7_init 86 = .ok (.putfield 50, 3) := by decide +kernel
theorem dX7_init_89 : decode cX7_init 89 = .ok (.aload_n 0, 1) := by decide +kernel
theorem dX7_init_90 : decode cX7_init 90 = .ok (.bipush 12, 2) := by decide +kernel
theorem dX7_init_92 : decode cX7_init 92 = .ok (.newarray .int, 2) := by decide +kernel
theorem dX7_init_94 : decode cX7_init 94 = .ok (.putfield 54, 3) := by decide +kernel
theorem dX7_init_97 : decode cX7_init 97 = .ok (.aload_n 0, 1) := by decide +kernel
theorem dX7_init_98 : decode cX7_init 98 = .ok (.iconst 0, 1) := by decide +kernel
theorem dX7_init_99 : decode cX7_init 99 = .ok (.putfield 58, 3) := by decide +kernel
theorem dX7_init_102 : decode cX7_init 102 = .ok (.aload_n 0, 1) := by decide +kernel
theorem dX7_init_103 : decode cX7_init 103 = .ok (.iconst (-1), 1) := by decide +kernel
theorem dX7_init_104 : decode cX7_init 104 = .ok (.putfield 62, 3) := by decide +kernel
theorem dX7_init_107 : decode cX7_init 107 = .ok (.return_, 1) := by decide +kernel
theorem dX7_feed_0 : decode cX7_feed 0 = .ok (.aload_n 0, 1) := by decide +kernel
theorem dX7_feed_1 : decode cX7_feed 1 = .ok (.getfield 10, 3) := by decide +kernel
theorem dX7_feed_4 : decode cX7_feed 4 = .ok (.getfield 65, 3) := by decide +kernel
theorem dX7_feed_7 : decode cX7_feed 7 = .ok (.bipush 20, 2) := by decide +kernel
theorem dX7_feed_9 : decode cX7_feed 9 = .ok (.iadd, 1) := by decide +kernel
theorem dX7_feed_10 : decode cX7_feed 10 = .ok (.sipush 400, 3) := by decide +kernel
theorem dX7_feed_13 : decode cX7_feed 13 = .ok (.if_icmp .le 5, 3) := by decide +kernel
theorem dX7_feed_16 : decode cX7_feed 16 = .ok (.iconst (-1), 1) := by decide +kernel
theorem dX7_feed_17 : decode cX7_feed 17 = .ok (.ireturn, 1) := by decide +kernel
theorem dX7_feed_18 : decode cX7_feed 18 = .ok (.aload_n 0, 1) := by decide +kernel
theorem dX7_feed_19 : decode cX7_feed 19 = .ok (.getfield 10, 3) := by decide +kernel
theorem dX7_feed_22 : decode cX7_feed 22 = .ok (.iload_n 1, 1) := by decide +kernel
theorem dX7_feed_23 : decode cX7_feed 23 = .ok (.invokevirtual 68, 3) := by decide +kernel
theorem dX7_feed_26 : decode cX7_feed 26 = .ok (.aload_n 0, 1) := by decide +kernel
theorem dX7_feed_27 : decode cX7_feed 27 = .ok (.getfield 10, 3) := by decide +kernel
theorem dX7_feed_30 : decode cX7_feed 30 = .ok (.iload_n 2, 1) := by decide +kernel
theorem dX7_feed_31 : decode cX7_feed 31 = .ok (.invokevirtual 68, 3) := by decide +kernel
theorem dX7_feed_34 : decode cX7_feed 34 = .ok (.aload_n 0, 1) := by decide +kernel
theorem dX7_feed_35 : decode cX7_feed 35 = .ok (.getfield 10, 3) := by decide +kernel
theorem dX7_feed_38 : decode cX7_feed 38 = .ok (.iload_n 3, 1) := by decide +kernel
theorem dX7_feed_39 : decode cX7_feed 39 = .ok (.invokevirtual 68, 3) := by decide +kernel
theorem dX7_feed_42 : decode cX7_feed 42 = .ok (.aload_n 0, 1) := by decide +kernel
theorem dX7_feed_43 : decode cX7_feed 43 = .ok (.getfield 10, 3) := by decide +kernel
theorem dX7_feed_46 : decode cX7_feed 46 = .ok (.iload 4, 2) := by decide +kernel
theorem dX7_feed_48 : decode cX7_feed 48 = .ok (.invokevirtual 68, 3) := by decide +kernel
theorem dX7_feed_51 : decode cX7_feed 51 = .ok (.aload_n 0, 1) := by decide +kernel
theorem dX7_feed_52 : decode cX7_feed 52 = .ok (.getfield 10, 3) := by decide +kernel
theorem dX7_feed_55 : decode cX7_feed 55 = .ok (.iload 5, 2) := by decide +kernel
theorem dX7_feed_57 : decode cX7_feed 57 = .ok (.invokevirtual 68, 3) := by decide +kernel
theorem dX7_feed_60 : decode cX7_feed 60 = .ok (.aload_n 0, 1) := by decide +kernel
theorem dX7_feed_61 : decode cX7_feed 61 = .ok (.getfield 10, 3) := by decide +kernel
theorem dX7_feed_64 : decode cX7_feed 64 = .ok (.getfield 65, 3) := by decide +kernel
theorem dX7_feed_67 : decode cX7_feed 67 = .ok (.ireturn, 1) := by decide +kernel
theorem dX7_end_0 : decode cX7_end 0 = .ok (.iload_n 1, 1) := by decide +kernel
theorem dX7_end_1 : decode cX7_end 1 = .ok (.ifCond .lt 14, 3) := by decide +kernel
theorem dX7_end_4 : decode cX7_end 4 = .ok (.iload_n 1, 1) := by decide +kernel
theorem dX7_end_5 : decode cX7_end 5 = .ok (.aload_n 0, 1) := by decide +kernel
theorem dX7_end_6 : decode cX7_end 6 = .ok (.getfield 10, 3) := by decide +kernel
theorem dX7_end_9 : decode cX7_end 9 = .ok (.getfield 65, 3) := by decide +kernel
theorem dX7_end_12 : decode cX7_end 12 = .ok (.if_icmp .le 5, 3) := by decide +kernel
theorem dX7_end_15 : decode cX7_end 15 = .ok (.iconst (-1), 1) := by decide +kernel
theorem dX7_end_16 : decode cX7_end 16 = .ok (.ireturn, 1) := by decide +kernel
theorem dX7_end_17 : decode cX7_end 17 = .ok (.aload_n 0, 1) := by decide +kernel
theorem dX7_end_18 : decode cX7_end 18 = .ok (.getfield 10, 3) := by decide +kernel
theorem dX7_end_21 : decode cX7_end 21 = .ok (.iload_n 1, 1) := by decide +kernel
