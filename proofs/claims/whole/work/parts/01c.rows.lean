theorem dX0_init_0 : decode cX0_init 0 = .ok (.aload_n 0, 1) := by decide +kernel
theorem dX0_init_1 : decode cX0_init 1 = .ok (.invokespecial 3, 3) := by decide +kernel
theorem dX0_init_4 : decode cX0_init 4 = .ok (.aload_n 0, 1) := by decide +kernel
theorem dX0_init_5 : decode cX0_init 5 = .ok (.iconst 0, 1) := by decide +kernel
theorem dX0_init_6 : decode cX0_init 6 = .ok (.putfield 9, 3) := by decide +kernel
theorem dX0_init_9 : decode cX0_init 9 = .ok (.aload_n 0, 1) := by decide +kernel
theorem dX0_init_10 : decode cX0_init 10 = .ok (.bipush 40, 2) := by decide +kernel
theorem dX0_init_12 : decode cX0_init 12 = .ok (.newarray .int, 2) := by decide +kernel
theorem dX0_init_14 : decode cX0_init 14 = .ok (.putfield 15, 3) := by decide +kernel
theorem dX0_init_17 : decode cX0_init 17 = .ok (.aload_n 0, 1) := by decide +kernel
theorem dX0_init_18 : decode cX0_init 18 = .ok (.bipush 40, 2) := by decide +kernel
theorem dX0_init_20 : decode cX0_init 20 = .ok (.newarray .int, 2) := by decide +kernel
theorem dX0_init_22 : decode cX0_init 22 = .ok (.putfield 19, 3) := by decide +kernel
theorem dX0_init_25 : decode cX0_init 25 = .ok (.aload_n 0, 1) := by decide +kernel
theorem dX0_init_26 : decode cX0_init 26 = .ok (.bipush 40, 2) := by decide +kernel
theorem dX0_init_28 : decode cX0_init 28 = .ok (.newarray .int, 2) := by decide +kernel
theorem dX0_init_30 : decode cX0_init 30 = .ok (.putfield 22, 3) := by decide +kernel
theorem dX0_init_33 : decode cX0_init 33 = .ok (.aload_n 0, 1) := by decide +kernel
theorem dX0_init_34 : decode cX0_init 34 = .ok (.iconst 0, 1) := by decide +kernel
theorem dX0_init_35 : decode cX0_init 35 = .ok (.putfield 25, 3) := by decide +kernel
theorem dX0_init_38 : decode cX0_init 38 = .ok (.aload_n 0, 1) := by decide +kernel
theorem dX0_init_39 : decode cX0_init 39 = .ok (.bipush 40, 2) := by decide +kernel
theorem dX0_init_41 : decode cX0_init 41 = .ok (.newarray .int, 2) := by decide +kernel
theorem dX0_init_43 : decode cX0_init 43 = .ok (.putfield 28, 3) := by decide +kernel
theorem dX0_init_46 : decode cX0_init 46 = .ok (.aload_n 0, 1) := by decide +kernel
theorem dX0_init_47 : decode cX0_init 47 = .ok (.iconst (-1), 1) := by decide +kernel
theorem dX0_init_48 : decode cX0_init 48 = .ok (.putfield 31, 3) := by decide +kernel
theorem dX0_init_51 : decode cX0_init 51 = .ok (.return_, 1) := by decide +kernel
theorem dX0_read_0 : decode cX0_read 0 = .ok (.aload_n 1, 1) := by decide +kernel
theorem dX0_read_1 : decode cX0_read 1 = .ok (.invokevirtual 34, 3) := by decide +kernel
theorem dX0_read_4 : decode cX0_read 4 = .ok (.aload_n 0, 1) := by decide +kernel
theorem dX0_read_5 : decode cX0_read 5 = .ok (.iconst 0, 1) := by decide +kernel
theorem dX0_read_6 : decode cX0_read 6 = .ok (.putfield 9, 3) := by decide +kernel
theorem dX0_read_9 : decode cX0_read 9 = .ok (.iconst 0, 1) := by decide +kernel
theorem dX0_read_10 : decode cX0_read 10 = .ok (.istore_n 2, 1) := by decide +kernel
theorem dX0_read_11 : decode cX0_read 11 = .ok (.iload_n 2, 1) := by decide +kernel
theorem dX0_read_12 : decode cX0_read 12 = .ok (.bipush 40, 2) := by decide +kernel
theorem dX0_read_14 : decode cX0_read 14 = .ok (.if_icmp .gt 21, 3) := by decide +kernel
theorem dX0_read_17 : decode cX0_read 17 = .ok (.aload_n 1, 1) := by decide +kernel
theorem dX0_read_18 : decode cX0_read 18 = .ok (.invokevirtual 39, 3) := by decide +kernel
theorem dX0_read_21 : decode cX0_read 21 = .ok (.ifCond .eq 14, 3) := by decide +kernel
theorem dX0_read_24 : decode cX0_read 24 = .ok (.aload_n 0, 1) := by decide +kernel
theorem dX0_read_25 : decode cX0_read 25 = .ok (.aload_n 1, 1) := by decide +kernel
theorem dX0_read_26 : decode cX0_read 26 = .ok (.invokevirtual 43, 3) := by decide +kernel
theorem dX0_read_29 : decode cX0_read 29 = .ok (.iinc 2 1, 3) := by decide +kernel
theorem dX0_read_32 : decode cX0_read 32 = .ok (.goto (-21), 3) := by decide +kernel
theorem dX0_read_35 : decode cX0_read 35 = .ok (.return_, 1) := by decide +kernel
theorem dX0_readAct_0 : decode cX0_readAct 0 = .ok (.aload_n 1, 1) := by decide +kernel
theorem dX0_readAct_1 : decode cX0_readAct 1 = .ok (.invokevirtual 47, 3) := by decide +kernel
theorem dX0_readAct_4 : decode cX0_readAct 4 = .ok (.istore_n 2, 1) := by decide +kernel
theorem dX0_readAct_5 : decode cX0_readAct 5 = .ok (.aload_n 0, 1) := by decide +kernel
theorem dX0_readAct_6 : decode cX0_readAct 6 = .ok (.getfield 9, 3) := by decide +kernel
theorem dX0_readAct_9 : decode cX0_readAct 9 = .ok (.bipush 40, 2) := by decide +kernel
theorem dX0_readAct_11 : decode cX0_readAct 11 = .ok (.if_icmp .ge 10, 3) := by decide +kernel
theorem dX0_readAct_14 : decode cX0_readAct 14 = .ok (.iload_n 2, 1) := by decide +kernel
theorem dX0_readAct_15 : decode cX0_readAct 15 = .ok (.invokestatic 51, 3) := by decide +kernel
theorem dX0_readAct_18 : decode cX0_readAct 18 = .ok (.ifCond .ne 12, 3) := by decide +kernel
theorem dX0_readAct_21 : decode cX0_readAct 21 = .ok (.aload_n 1, 1) := by decide +kernel
theorem dX0_readAct_22 : decode cX0_readAct 22 = .ok (.aload_n 1, 1) := by decide +kernel
theorem dX0_readAct_23 : decode cX0_readAct 23 = .ok (.getfield 55, 3) := by decide +kernel
theorem dX0_readAct_26 : decode cX0_readAct 26 = .ok (.invokevirtual 58, 3) := by decide +kernel
theorem dX0_readAct_29 : decode cX0_readAct 29 = .ok (.return_, 1) := by decide +kernel
theorem dX0_readAct_30 : decode cX0_readAct 30 = .ok (.aload_n 1, 1) := by decide +kernel
theorem dX0_readAct_31 : decode cX0_readAct 31 = .ok (.dup, 1) := by decide +kernel
theorem dX0_readAct_32 : decode cX0_readAct 32 = .ok (.getfield 55, 3) := by decide +kernel
theorem dX0_readAct_35 : decode cX0_readAct 35 = .ok (.iconst 1, 1) := by decide +kernel
theorem dX0_readAct_36 : decode cX0_readAct 36 = .ok (.iadd, 1) := by decide +kernel
theorem dX0_readAct_37 : decode cX0_readAct 37 = .ok (.putfield 55, 3) := by decide +kernel
theorem dX0_readAct_40 : decode cX0_readAct 40 = .ok (.aload_n 0, 1) := by decide +kernel
theorem dX0_readAct_41 : decode cX0_readAct 41 = .ok (.getfield 15, 3) := by decide +kernel
theorem dX0_readAct_44 : decode cX0_readAct 44 = .ok (.aload_n 0, 1) := by decide +kernel
theorem dX0_readAct_45 : decode cX0_readAct 45 = .ok (.getfield 9, 3) := by decide +kernel
theorem dX0_readAct_48 : decode cX0_readAct 48 = .ok (.iload_n 2, 1) := by decide +kernel
theorem dX0_readAct_49 : decode cX0_readAct 49 = .ok (.iastore, 1) := by decide +kernel
theorem dX0_readAct_50 : decode cX0_readAct 50 = .ok (.aload_n 0, 1) := by decide +kernel
theorem dX0_readAct_51 : decode cX0_readAct 51 = .ok (.getfield 19, 3) := by decide +kernel
theorem dX0_readAct_54 : decode cX0_readAct 54 = .ok (.aload_n 0, 1) := by decide +kernel
theorem dX0_readAct_55 : decode cX0_readAct 55 = .ok (.getfield 9, 3) := by decide +kernel
theorem dX0_readAct_58 : decode cX0_readAct 58 = .ok (.iconst 0, 1) := by decide +kernel
theorem dX0_readAct_59 : decode cX0_readAct 59 = .ok (.iastore, 1) := by decide +kernel
theorem dX0_readAct_60 : decode cX0_readAct 60 = .ok (.aload_n 0, 1) := by decide +kernel
theorem dX0_readAct_61 : decode cX0_readAct 61 = .ok (.getfield 22, 3) := by decide +kernel
theorem dX0_readAct_64 : decode cX0_readAct 64 = .ok (.aload_n 0, 1) := by decide +kernel
theorem dX0_readAct_65 : decode cX0_readAct 65 = .ok (.getfield 9, 3) := by decide +kernel
theorem dX0_readAct_68 : decode cX0_readAct 68 = .ok (.iconst 0, 1) := by decide +kernel
theorem dX0_readAct_69 : decode cX0_readAct 69 = .ok (.iastore, 1) := by decide +kernel
theorem dX0_readAct_70 : decode cX0_readAct 70 = .ok (.iload_n 2, 1) := by decide +kernel
theorem dX0_readAct_71 : decode cX0_readAct 71 = .ok (.bipush 99, 2) := by decide +kernel
theorem dX0_readAct_73 : decode cX0_readAct 73 = .ok (.if_icmp .eq 15, 3) := by decide +kernel
theorem dX0_readAct_76 : decode cX0_readAct 76 = .ok (.iload_n 2, 1) := by decide +kernel
theorem dX0_readAct_77 : decode cX0_readAct 77 = .ok (.bipush 120, 2) := by decide +kernel
theorem dX0_readAct_79 : decode cX0_readAct 79 = .ok (.if_icmp .eq 9, 3) := by decide +kernel
theorem dX0_readAct_82 : decode cX0_readAct 82 = .ok (.iload_n 2, 1) := by decide +kernel
theorem dX0_readAct_83 : decode cX0_readAct 83 = .ok (.bipush 61, 2) := by decide +kernel
theorem dX0_readAct_85 : decode cX0_readAct 85 = .ok (.if_icmp .ne 19, 3) := by decide +kernel
theorem dX0_readAct_88 : decode cX0_readAct 88 = .ok (.aload_n 0, 1) := by decide +kernel
theorem dX0_readAct_89 : decode cX0_readAct 89 = .ok (.getfield 19, 3) := by decide +kernel
theorem dX0_readAct_92 : decode cX0_readAct 92 = .ok (.aload_n 0, 1) := by decide +kernel
theorem dX0_readAct_93 : decode cX0_readAct 93 = .ok (.getfield 9, 3) := by decide +kernel
theorem dX0_readAct_96 : decode cX0_readAct 96 = .ok (.aload_n 1, 1) := by decide +kernel
theorem dX0_readAct_97 : decode cX0_readAct 97 = .ok (.invokevirtual 62, 3) := by decide +kernel
theorem dX0_readAct_100 : decode cX0_readAct 100 = .ok (.iastore, 1) := by decide +kernel
theorem dX0_readAct_101 : decode cX0_readAct 101 = .ok (.goto 22, 3) := by decide +kernel
theorem dX0_readAct_104 : decode cX0_readAct 104 = .ok (.iload_n 2, 1) := by decide +kernel
theorem dX0_readAct_105 : decode cX0_readAct 105 = .ok (.bipush 102, 2) := by decide +kernel
theorem dX0_readAct_107 : decode cX0_readAct 107 = .ok (.if_icmp .eq 16, 3) := by decide +kernel
theorem dX0_readAct_110 : decode cX0_readAct 110 = .ok (.aload_n 0, 1) := by decide +kernel
theorem dX0_readAct_111 : decode cX0_readAct 111 = .ok (.getfield 19, 3) := by decide +kernel
theorem dX0_readAct_114 : decode cX0_readAct 114 = .ok (.aload_n 0, 1) := by decide +kernel
theorem dX0_readAct_115 : decode cX0_readAct 115 = .ok (.getfield 9, 3) := by decide +kernel
theorem dX0_readAct_118 : decode cX0_readAct 118 = .ok (.aload_n 1, 1) := by decide +kernel
theorem dX0_readAct_119 : decode cX0_readAct 119 = .ok (.invokevirtual 65, 3) := by decide +kernel
theorem dX0_readAct_122 : decode cX0_readAct 122 = .ok (.iastore, 1) := by decide +kernel
theorem dX0_readAct_123 : decode cX0_readAct 123 = .ok (.iload_n 2, 1) := by decide +kernel
theorem dX0_readAct_124 : decode cX0_readAct 124 = .ok (.bipush 108, 2) := by decide +kernel
theorem dX0_readAct_126 : decode cX0_readAct 126 = .ok (.if_icmp .eq 15, 3) := by decide +kernel
theorem dX0_readAct_129 : decode cX0_readAct 129 = .ok (.iload_n 2, 1) := by decide +kernel
theorem dX0_readAct_130 : decode cX0_readAct 130 = .ok (.bipush 115, 2) := by decide +kernel
theorem dX0_readAct_132 : decode cX0_readAct 132 = .ok (.if_icmp .eq 9, 3) := by decide +kernel
theorem dX0_readAct_135 : decode cX0_readAct 135 = .ok (.iload_n 2, 1) := by decide +kernel
theorem dX0_readAct_136 : decode cX0_readAct 136 = .ok (.bipush 111, 2) := by decide +kernel
theorem dX0_readAct_138 : decode cX0_readAct 138 = .ok (.if_icmp .ne 35, 3) := by decide +kernel
theorem dX0_readAct_141 : decode cX0_readAct 141 = .ok (.aload_n 1, 1) := by decide +kernel
theorem dX0_readAct_142 : decode cX0_readAct 142 = .ok (.bipush 44, 2) := by decide +kernel
theorem dX0_readAct_144 : decode cX0_readAct 144 = .ok (.invokevirtual 68, 3) := by decide +kernel
theorem dX0_readAct_147 : decode cX0_readAct 147 = .ok (.aload_n 0, 1) := by decide +kernel
theorem dX0_readAct_148 : decode cX0_readAct 148 = .ok (.getfield 22, 3) := by decide +kernel
theorem dX0_readAct_151 : decode cX0_readAct 151 = .ok (.aload_n 0, 1) := by decide +kernel
theorem dX0_readAct_152 : decode cX0_readAct 152 = .ok (.getfield 9, 3) := by decide +kernel
theorem dX0_readAct_155 : decode cX0_readAct 155 = .ok (.iload_n 2, 1) := by decide +kernel
theorem dX0_readAct_156 : decode cX0_readAct 156 = .ok (.bipush 108, 2) := by decide +kernel
theorem dX0_readAct_158 : decode cX0_readAct 158 = .ok (.if_icmp .ne 10, 3) := by decide +kernel
theorem dX0_readAct_161 : decode cX0_readAct 161 = .ok (.aload_n 1, 1) := by decide +kernel
theorem dX0_readAct_162 : decode cX0_readAct 162 = .ok (.invokevirtual 65, 3) := by decide +kernel
theorem dX0_readAct_165 : decode cX0_readAct 165 = .ok (.goto 7, 3) := by decide +kernel
theorem dX0_readAct_168 : decode cX0_readAct 168 = .ok (.aload_n 1, 1) := by decide +kernel
theorem dX0_readAct_169 : decode cX0_readAct 169 = .ok (.invokevirtual 62, 3) := by decide +kernel
theorem dX0_readAct_172 : decode cX0_readAct 172 = .ok (.iastore, 1) := by decide +kernel
theorem dX0_readAct_173 : decode cX0_readAct 173 = .ok (.aload_n 1, 1) := by decide +kernel
theorem dX0_readAct_174 : decode cX0_readAct 174 = .ok (.bipush 59, 2) := by decide +kernel
theorem dX0_readAct_176 : decode cX0_readAct 176 = .ok (.invokevirtual 68, 3) := by decide +kernel
theorem dX0_readAct_179 : decode cX0_readAct 179 = .ok (.aload_n 0, 1) := by decide +kernel
theorem dX0_readAct_180 : decode cX0_readAct 180 = .ok (.dup, 1) := by decide +kernel
theorem dX0_readAct_181 : decode cX0_readAct 181 = .ok (.getfield 9, 3) := by decide +kernel
theorem dX0_readAct_184 : decode cX0_readAct 184 = .ok (.iconst 1, 1) := by decide +kernel
theorem dX0_readAct_185 : decode cX0_readAct 185 = .ok (.iadd, 1) := by decide +kernel
theorem dX0_readAct_186 : decode cX0_readAct 186 = .ok (.putfield 9, 3) := by decide +kernel
theorem dX0_readAct_189 : decode cX0_readAct 189 = .ok (.return_, 1) := by decide +kernel
theorem dX0_isAct_0 : decode cX0_isAct 0 = .ok (.iload_n 0, 1) := by decide +kernel
theorem dX0_isAct_1 : decode cX0_isAct 1 = .ok (.lookupswitch 85 #[(61, 83), (99, 83), (102, 83), (104, 83), (108, 83), (111, 83), (112, 83), (115, 83), (120, 83)], 83) := by decide +kernel
theorem dX0_isAct_84 : decode cX0_isAct 84 = .ok (.iconst 1, 1) := by decide +kernel
theorem dX0_isAct_85 : decode cX0_isAct 85 = .ok (.ireturn, 1) := by decide +kernel
theorem dX0_isAct_86 : decode cX0_isAct 86 = .ok (.iconst 0, 1) := by decide +kernel
theorem dX0_isAct_87 : decode cX0_isAct 87 = .ok (.ireturn, 1) := by decide +kernel
theorem dX0_begin_0 : decode cX0_begin 0 = .ok (.aload_n 0, 1) := by decide +kernel
theorem dX0_begin_1 : decode cX0_begin 1 = .ok (.iconst 0, 1) := by decide +kernel
theorem dX0_begin_2 : decode cX0_begin 2 = .ok (.putfield 25, 3) := by decide +kernel
theorem dX0_begin_5 : decode cX0_begin 5 = .ok (.aload_n 0, 1) := by decide +kernel
theorem dX0_begin_6 : decode cX0_begin 6 = .ok (.iconst (-1), 1) := by decide +kernel
theorem dX0_begin_7 : decode cX0_begin 7 = .ok (.putfield 31, 3) := by decide +kernel
theorem dX0_begin_10 : decode cX0_begin 10 = .ok (.return_, 1) := by decide +kernel
theorem dX0_note_0 : decode cX0_note 0 = .ok (.aload_n 0, 1) := by decide +kernel
theorem dX0_note_1 : decode cX0_note 1 = .ok (.getfield 25, 3) := by decide +kernel
theorem dX0_note_4 : decode cX0_note 4 = .ok (.bipush 40, 2) := by decide +kernel
theorem dX0_note_6 : decode cX0_note 6 = .ok (.if_icmp .ge 23, 3) := by decide +kernel
theorem dX0_note_9 : decode cX0_note 9 = .ok (.aload_n 0, 1) := by decide +kernel
theorem dX0_note_10 : decode cX0_note 10 = .ok (.getfield 28, 3) := by decide +kernel
theorem dX0_note_13 : decode cX0_note 13 = .ok (.aload_n 0, 1) := by decide +kernel
theorem dX0_note_14 : decode cX0_note 14 = .ok (.getfield 25, 3) := by decide +kernel
theorem dX0_note_17 : decode cX0_note 17 = .ok (.iload_n 1, 1) := by decide +kernel
theorem dX0_note_18 : decode cX0_note 18 = .ok (.iastore, 1) := by decide +kernel
theorem dX0_note_19 : decode cX0_note 19 = .ok (.aload_n 0, 1) := by decide +kernel
theorem dX0_note_20 : decode cX0_note 20 = .ok (.dup, 1) := by decide +kernel
theorem dX0_note_21 : decode cX0_note 21 = .ok (.getfield 25, 3) := by decide +kernel
theorem dX0_note_24 : decode cX0_note 24 = .ok (.iconst 1, 1) := by decide +kernel
theorem dX0_note_25 : decode cX0_note 25 = .ok (.iadd, 1) := by decide +kernel
theorem dX0_note_26 : decode cX0_note 26 = .ok (.putfield 25, 3) := by decide +kernel
theorem dX0_note_29 : decode cX0_note 29 = .ok (.return_, 1) := by decide +kernel
theorem dX1_init_0 : decode cX1_init 0 = .ok (.aload_n 0, 1) := by decide +kernel
theorem dX1_init_1 : decode cX1_init 1 = .ok (.invokespecial 3, 3) := by decide +kernel
theorem dX1_init_4 : decode cX1_init 4 = .ok (.aload_n 0, 1) := by decide +kernel
theorem dX1_init_5 : decode cX1_init 5 = .ok (.iconst 0, 1) := by decide +kernel
theorem dX1_init_6 : decode cX1_init 6 = .ok (.putfield 9, 3) := by decide +kernel
theorem dX1_init_9 : decode cX1_init 9 = .ok (.aload_n 0, 1) := by decide +kernel
theorem dX1_init_10 : decode cX1_init 10 = .ok (.bipush 12, 2) := by decide +kernel
theorem dX1_init_12 : decode cX1_init 12 = .ok (.newarray .int, 2) := by decide +kernel
theorem dX1_init_14 : decode cX1_init 14 = .ok (.putfield 15, 3) := by decide +kernel
theorem dX1_init_17 : decode cX1_init 17 = .ok (.aload_n 0, 1) := by decide +kernel
theorem dX1_init_18 : decode cX1_init 18 = .ok (.bipush 12, 2) := by decide +kernel
theorem dX1_init_20 : decode cX1_init 20 = .ok (.newarray .int, 2) := by decide +kernel
theorem dX1_init_22 : decode cX1_init 22 = .ok (.putfield 19, 3) := by decide +kernel
theorem dX1_init_25 : decode cX1_init 25 = .ok (.aload_n 0, 1) := by decide +kernel
theorem dX1_init_26 : decode cX1_init 26 = .ok (.bipush 12, 2) := by decide +kernel
theorem dX1_init_28 : decode cX1_init 28 = .ok (.newarray .int, 2) := by decide +kernel
theorem dX1_init_30 : decode cX1_init 30 = .ok (.putfield 22, 3) := by decide +kernel
theorem dX1_init_33 : decode cX1_init 33 = .ok (.aload_n 0, 1) := by decide +kernel
theorem dX1_init_34 : decode cX1_init 34 = .ok (.bipush 12, 2) := by decide +kernel
theorem dX1_init_36 : decode cX1_init 36 = .ok (.newarray .int, 2) := by decide +kernel
theorem dX1_init_38 : decode cX1_init 38 = .ok (.putfield 25, 3) := by decide +kernel
theorem dX1_init_41 : decode cX1_init 41 = .ok (.aload_n 0, 1) := by decide +kernel
theorem dX1_init_42 : decode cX1_init 42 = .ok (.iconst 0, 1) := by decide +kernel
theorem dX1_init_43 : decode cX1_init 43 = .ok (.putfield 28, 3) := by decide +kernel
theorem dX1_init_46 : decode cX1_init 46 = .ok (.aload_n 0, 1) := by decide +kernel
theorem dX1_init_47 : decode cX1_init 47 = .ok (.iconst 0, 1) := by decide +kernel
theorem dX1_init_48 : decode cX1_init 48 = .ok (.putfield 31, 3) := by decide +kernel
theorem dX1_init_51 : decode cX1_init 51 = .ok (.aload_n 0, 1) := by decide +kernel
theorem dX1_init_52 : decode cX1_init 52 = .ok (.iconst 0, 1) := by decide +kernel
theorem dX1_init_53 : decode cX1_init 53 = .ok (.putfield 34, 3) := by decide +kernel
theorem dX1_init_56 : decode cX1_init 56 = .ok (.aload_n 0, 1) := by decide +kernel
theorem dX1_init_57 : decode cX1_init 57 = .ok (.iconst 0, 1) := by decide +kernel
theorem dX1_init_58 : decode cX1_init 58 = .ok (.putfield 37, 3) := by decide +kernel
theorem dX1_init_61 : decode cX1_init 61 = .ok (.aload_n 0, 1) := by decide +kernel
theorem dX1_init_62 : decode cX1_init 62 = .ok (.iconst 0, 1) := by decide +kernel
theorem dX1_init_63 : decode cX1_init 63 = .ok (.putfield 40, 3) := by decide +kernel
theorem dX1_init_66 : decode cX1_init 66 = .ok (.aload_n 0, 1) := by decide +kernel
theorem dX1_init_67 : decode cX1_init 67 = .ok (.iconst 0, 1) := by decide +kernel
theorem dX1_init_68 : decode cX1_init 68 = .ok (.putfield 43, 3) := by decide +kernel
theorem dX1_init_71 : decode cX1_init 71 = .ok (.return_, 1) := by decide +kernel
theorem dX1_begin_0 : decode cX1_begin 0 = .ok (.aload_n 0, 1) := by decide +kernel
theorem dX1_begin_1 : decode cX1_begin 1 = .ok (.iload_n 1, 1) := by decide +kernel
theorem dX1_begin_2 : decode cX1_begin 2 = .ok (.putfield 9, 3) := by decide +kernel
theorem dX1_begin_5 : decode cX1_begin 5 = .ok (.aload_n 0, 1) := by decide +kernel
theorem dX1_begin_6 : decode cX1_begin 6 = .ok (.iconst 0, 1) := by decide +kernel
theorem dX1_begin_7 : decode cX1_begin 7 = .ok (.putfield 28, 3) := by decide +kernel
theorem dX1_begin_10 : decode cX1_begin 10 = .ok (.aload_n 0, 1) := by decide +kernel
theorem dX1_begin_11 : decode cX1_begin 11 = .ok (.iconst 0, 1) := by decide +kernel
theorem dX1_begin_12 : decode cX1_begin 12 = .ok (.putfield 31, 3) := by decide +kernel
theorem dX1_begin_15 : decode cX1_begin 15 = .ok (.aload_n 0, 1) := by decide +kernel
theorem dX1_begin_16 : decode cX1_begin 16 = .ok (.iconst 0, 1) := by decide +kernel
theorem dX1_begin_17 : decode cX1_begin 17 = .ok (.putfield 37, 3) := by decide +kernel
theorem dX1_begin_20 : decode cX1_begin 20 = .ok (.aload_n 0, 1) := by decide +kernel
theorem dX1_begin_21 : decode cX1_begin 21 = .ok (.iconst 0, 1) := by decide +kernel
theorem dX1_begin_22 : decode cX1_begin 22 = .ok (.putfield 40, 3) := by decide +kernel
theorem dX1_begin_25 : decode cX1_begin 25 = .ok (.return_, 1) := by decide +kernel
theorem dX1_sign_0 : decode cX1_sign 0 = .ok (.aload_n 0, 1) := by decide +kernel
theorem dX1_sign_1 : decode cX1_sign 1 = .ok (.getfield 19, 3) := by decide +kernel
theorem dX1_sign_4 : decode cX1_sign 4 = .ok (.iload_n 1, 1) := by decide +kernel
theorem dX1_sign_5 : decode cX1_sign 5 = .ok (.iaload, 1) := by decide +kernel
theorem dX1_sign_6 : decode cX1_sign 6 = .ok (.iconst 1, 1) := by decide +kernel
theorem dX1_sign_7 : decode cX1_sign 7 = .ok (.if_icmp .ne 21, 3) := by decide +kernel
theorem dX1_sign_10 : decode cX1_sign 10 = .ok (.aload_n 0, 1) := by decide +kernel
theorem dX1_sign_11 : decode cX1_sign 11 = .ok (.getfield 15, 3) := by decide +kernel
theorem dX1_sign_14 : decode cX1_sign 14 = .ok (.iload_n 1, 1) := by decide +kernel
theorem dX1_sign_15 : decode cX1_sign 15 = .ok (.iaload, 1) := by decide +kernel
theorem dX1_sign_16 : decode cX1_sign 16 = .ok (.iconst 1, 1) := by decide +kernel
theorem dX1_sign_17 : decode cX1_sign 17 = .ok (.if_icmp .ne 8, 3) := by decide +kernel
theorem dX1_sign_20 : decode cX1_sign 20 = .ok (.bipush 43, 2) := by decide +kernel
theorem dX1_sign_22 : decode cX1_sign 22 = .ok (.goto 5, 3) := by decide +kernel
theorem dX1_sign_25 : decode cX1_sign 25 = .ok (.bipush 45, 2) := by decide +kernel
theorem dX1_sign_27 : decode cX1_sign 27 = .ok (.ireturn, 1) := by decide +kernel
theorem dX1_sign_28 : decode cX1_sign 28 = .ok (.aload_n 0, 1) := by decide +kernel
theorem dX1_sign_29 : decode cX1_sign 29 = .ok (.getfield 15, 3) := by decide +kernel
theorem dX1_sign_32 : decode cX1_sign 32 = .ok (.iload_n 1, 1) := by decide +kernel
theorem dX1_sign_33 : decode cX1_sign 33 = .ok (.iaload, 1) := by decide +kernel
theorem dX1_sign_34 : decode cX1_sign 34 = .ok (.iconst 1, 1) := by decide +kernel
theorem dX1_sign_35 : decode cX1_sign 35 = .ok (.if_icmp .ne 8, 3) := by decide +kernel
theorem dX1_sign_38 : decode cX1_sign 38 = .ok (.bipush 49, 2) := by decide +kernel
theorem dX1_sign_40 : decode cX1_sign 40 = .ok (.goto 5, 3) := by decide +kernel
theorem dX1_sign_43 : decode cX1_sign 43 = .ok (.bipush 48, 2) := by decide +kernel
theorem dX1_sign_45 : decode cX1_sign 45 = .ok (.ireturn, 1) := by decide +kernel
theorem dX2_init_0 : decode cX2_init 0 = .ok (.aload_n 0, 1) := by decide +kernel
theorem dX2_init_1 : decode cX2_init 1 = .ok (.invokespecial 3, 3) := by decide +kernel
theorem dX2_init_4 : decode cX2_init 4 = .ok (.aload_n 0, 1) := by decide +kernel
theorem dX2_init_5 : decode cX2_init 5 = .ok (.iconst 0, 1) := by decide +kernel
theorem dX2_init_6 : decode cX2_init 6 = .ok (.putfield 9, 3) := by decide +kernel
theorem dX2_init_9 : decode cX2_init 9 = .ok (.aload_n 0, 1) := by decide +kernel
theorem dX2_init_10 : decode cX2_init 10 = .ok (.bipush 12, 2) := by decide +kernel
theorem dX2_init_12 : decode cX2_init 12 = .ok (.newarray .int, 2) := by decide +kernel
theorem dX2_init_14 : decode cX2_init 14 = .ok (.putfield 15, 3) := by decide +kernel
theorem dX2_init_17 : decode cX2_init 17 = .ok (.aload_n 0, 1) := by decide +kernel
theorem dX2_init_18 : decode cX2_init 18 = .ok (.bipush 12, 2) := by decide +kernel
theorem dX2_init_20 : decode cX2_init 20 = .ok (.newarray .int, 2) := by decide +kernel
theorem dX2_init_22 : decode cX2_init 22 = .ok (.putfield 19, 3) := by decide +kernel
theorem dX2_init_25 : decode cX2_init 25 = .ok (.aload_n 0, 1) := by decide +kernel
theorem dX2_init_26 : decode cX2_init 26 = .ok (.bipush 12, 2) := by decide +kernel
theorem dX2_init_28 : decode cX2_init 28 = .ok (.newarray .int, 2) := by decide +kernel
theorem dX2_init_30 : decode cX2_init 30 = .ok (.putfield 22, 3) := by decide +kernel
theorem dX2_init_33 : decode cX2_init 33 = .ok (.aload_n 0, 1) := by decide +kernel
theorem dX2_init_34 : decode cX2_init 34 = .ok (.bipush 12, 2) := by decide +kernel
theorem dX2_init_36 : decode cX2_init 36 = .ok (.newarray .int, 2) := by decide +kernel
theorem dX2_init_38 : decode cX2_init 38 = .ok (.putfield 25, 3) := by decide +kernel
theorem dX2_init_41 : decode cX2_init 41 = .ok (.aload_n 0, 1) := by decide +kernel
theorem dX2_init_42 : decode cX2_init 42 = .ok (.iconst 0, 1) := by decide +kernel
theorem dX2_init_43 : decode cX2_init 43 = .ok (.putfield 28, 3) := by decide +kernel
theorem dX2_init_46 : decode cX2_init 46 = .ok (.aload_n 0, 1) := by decide +kernel
theorem dX2_init_47 : decode cX2_init 47 = .ok (.iconst 0, 1) := by decide +kernel
theorem dX2_init_48 : decode cX2_init 48 = .ok (.putfield 31, 3) := by decide +kernel
theorem dX2_init_51 : decode cX2_init 51 = .ok (.aload_n 0, 1) := by decide +kernel
theorem dX2_init_52 : decode cX2_init 52 = .ok (.iconst 3, 1) := by decide +kernel
theorem dX2_init_53 : decode cX2_init 53 = .ok (.putfield 34, 3) := by decide +kernel
theorem dX2_init_56 : decode cX2_init 56 = .ok (.aload_n 0, 1) := by decide +kernel
theorem dX2_init_57 : decode cX2_init 57 = .ok (.iconst 0, 1) := by decide +kernel
theorem dX2_init_58 : decode cX2_init 58 = .ok (.putfield 37, 3) := by decide +kernel
theorem dX2_init_61 : decode cX2_init 61 = .ok (.aload_n 0, 1) := by decide +kernel
theorem dX2_init_62 : decode cX2_init 62 = .ok (.iconst 1, 1) := by decide +kernel
theorem dX2_init_63 : decode cX2_init 63 = .ok (.putfield 40, 3) := by decide +kernel
theorem dX2_init_66 : decode cX2_init 66 = .ok (.aload_n 0, 1) := by decide +kernel
theorem dX2_init_67 : decode cX2_init 67 = .ok (.iconst 1, 1) := by decide +kernel
theorem dX2_init_68 : decode cX2_init 68 = .ok (.putfield 43, 3) := by decide +kernel
theorem dX2_init_71 : decode cX2_init 71 = .ok (.aload_n 0, 1) := by decide +kernel
theorem dX2_init_72 : decode cX2_init 72 = .ok (.iconst 0, 1) := by decide +kernel
theorem dX2_init_73 : decode cX2_init 73 = .ok (.putfield 46, 3) := by decide +kernel
theorem dX2_init_76 : decode cX2_init 76 = .ok (.aload_n 0, 1) := by decide +kernel
theorem dX2_init_77 : decode cX2_init 77 = .ok (.iconst 0, 1) := by decide +kernel
theorem dX2_init_78 : decode cX2_init 78 = .ok (.putfield 49, 3) := by decide +kernel
theorem dX2_init_81 : decode cX2_init 81 = .ok (.aload_n 0, 1) := by decide +kernel
theorem dX2_init_82 : decode cX2_init 82 = .ok (.new 52, 3) := by decide +kernel
theorem dX2_init_85 : decode cX2_init 85 = .ok (.dup, 1) := by decide +kernel
theorem dX2_init_86 : decode cX2_init 86 = .ok (.invokespecial 54, 3) := by decide +kernel
theorem dX2_init_89 : decode cX2_init 89 = .ok (.putfield 55, 3) := by decide +kernel
theorem dX2_init_92 : decode cX2_init 92 = .ok (.aload_n 0, 1) := by decide +kernel
theorem dX2_init_93 : decode cX2_init 93 = .ok (.bipush 8, 2) := by decide +kernel
theorem dX2_init_95 : decode cX2_init 95 = .ok (.newarray .int, 2) := by decide +kernel
theorem dX2_init_97 : decode cX2_init 97 = .ok (.putfield 59, 3) := by decide +kernel
theorem dX2_init_100 : decode cX2_init 100 = .ok (.aload_n 0, 1) := by decide +kernel
theorem dX2_init_101 : decode cX2_init 101 = .ok (.bipush 8, 2) := by decide +kernel
theorem dX2_init_103 : decode cX2_init 103 = .ok (.newarray .int, 2) := by decide +kernel
theorem dX2_init_105 : decode cX2_init 105 = .ok (.putfield 62, 3) := by decide +kernel
theorem dX2_init_108 : decode cX2_init 108 = .ok (.aload_n 0, 1) := by decide +kernel
theorem dX2_init_109 : decode cX2_init 109 = .ok (.iconst 0, 1) := by decide +kernel
theorem dX2_init_110 : decode cX2_init 110 = .ok (.putfield 65, 3) := by decide +kernel
theorem dX2_init_113 : decode cX2_init 113 = .ok (.return_, 1) := by decide +kernel
theorem dX2_clear_0 : decode cX2_clear 0 = .ok (.aload_n 0, 1) := by decide +kernel
theorem dX2_clear_1 : decode cX2_clear 1 = .ok (.iconst 0, 1) := by decide +kernel
theorem dX2_clear_2 : decode cX2_clear 2 = .ok (.putfield 9, 3) := by decide +kernel
theorem dX2_clear_5 : decode cX2_clear 5 = .ok (.aload_n 0, 1) := by decide +kernel
theorem dX2_clear_6 : decode cX2_clear 6 = .ok (.iconst 0, 1) := by decide +kernel
theorem dX2_clear_7 : decode cX2_clear 7 = .ok (.putfield 28, 3) := by decide +kernel
theorem dX2_clear_10 : decode cX2_clear 10 = .ok (.aload_n 0, 1) := by decide +kernel
theorem dX2_clear_11 : decode cX2_clear 11 = .ok (.iconst 0, 1) := by decide +kernel
theorem dX2_clear_12 : decode cX2_clear 12 = .ok (.putfield 31, 3) := by decide +kernel
theorem dX2_clear_15 : decode cX2_clear 15 = .ok (.aload_n 0, 1) := by decide +kernel
theorem dX2_clear_16 : decode cX2_clear 16 = .ok (.iconst 3, 1) := by decide +kernel
theorem dX2_clear_17 : decode cX2_clear 17 = .ok (.putfield 34, 3) := by decide +kernel
theorem dX2_clear_20 : decode cX2_clear 20 = .ok (.aload_n 0, 1) := by decide +kernel
theorem dX2_clear_21 : decode cX2_clear 21 = .ok (.iconst 0, 1) := by decide +kernel
theorem dX2_clear_22 : decode cX2_clear 22 = .ok (.putfield 37, 3) := by decide +kernel
theorem dX2_clear_25 : decode cX2_clear 25 = .ok (.aload_n 0, 1) := by decide +kernel
theorem dX2_clear_26 : decode cX2_clear 26 = .ok (.iconst 1, 1) := by decide +kernel
theorem dX2_clear_27 : decode cX2_clear 27 = .ok (.putfield 40, 3) := by decide +kernel
theorem dX2_clear_30 : decode cX2_clear 30 = .ok (.return_, 1) := by decide +kernel
theorem dX2_addBit_0 : decode cX2_addBit 0 = .ok (.aload_n 0, 1) := by decide +kernel
theorem dX2_addBit_1 : decode cX2_addBit 1 = .ok (.getfield 9, 3) := by decide +kernel
theorem dX2_addBit_4 : decode cX2_addBit 4 = .ok (.bipush 12, 2) := by decide +kernel
theorem dX2_addBit_6 : decode cX2_addBit 6 = .ok (.if_icmp .ge 53, 3) := by decide +kernel
theorem dX2_addBit_9 : decode cX2_addBit 9 = .ok (.aload_n 0, 1) := by decide +kernel
theorem dX2_addBit_10 : decode cX2_addBit 10 = .ok (.getfield 15, 3) := by decide +kernel
theorem dX2_addBit_13 : decode cX2_addBit 13 = .ok (.aload_n 0, 1) := by decide +kernel
theorem dX2_addBit_14 : decode cX2_addBit 14 = .ok (.getfield 9, 3) := by decide +kernel
theorem dX2_addBit_17 : decode cX2_addBit 17 = .ok (.iload_n 1, 1) := by decide +kernel
theorem dX2_addBit_18 : decode cX2_addBit 18 = .ok (.iastore, 1) := by decide +kernel
theorem dX2_addBit_19 : decode cX2_addBit 19 = .ok (.aload_n 0, 1) := by decide +kernel
theorem dX2_addBit_20 : decode cX2_addBit 20 = .ok (.getfield 19, 3) := by decide +kernel
theorem dX2_addBit_23 : decode cX2_addBit 23 = .ok (.aload_n 0, 1) := by decide +kernel
theorem dX2_addBit_24 : decode cX2_addBit 24 = .ok (.getfield 9, 3) := by decide +kernel
theorem dX2_addBit_27 : decode cX2_addBit 27 = .ok (.iload_n 2, 1) := by decide +kernel
theorem dX2_addBit_28 : decode cX2_addBit 28 = .ok (.iastore, 1) := by decide +kernel
theorem dX2_addBit_29 : decode cX2_addBit 29 = .ok (.aload_n 0, 1) := by decide +kernel
theorem dX2_addBit_30 : decode cX2_addBit 30 = .ok (.getfield 22, 3) := by decide +kernel
theorem dX2_addBit_33 : decode cX2_addBit 33 = .ok (.aload_n 0, 1) := by decide +kernel
theorem dX2_addBit_34 : decode cX2_addBit 34 = .ok (.getfield 9, 3) := by decide +kernel
theorem dX2_addBit_37 : decode cX2_addBit 37 = .ok (.iload_n 1, 1) := by decide +kernel
theorem dX2_addBit_38 : decode cX2_addBit 38 = .ok (.iastore, 1) := by decide +kernel
theorem dX2_addBit_39 : decode cX2_addBit 39 = .ok (.aload_n 0, 1) := by decide +kernel
theorem dX2_addBit_40 : decode cX2_addBit 40 = .ok (.getfield 25, 3) := by decide +kernel
theorem dX2_addBit_43 : decode cX2_addBit 43 = .ok (.aload_n 0, 1) := by decide +kernel
theorem dX2_addBit_44 : decode cX2_addBit 44 = .ok (.getfield 9, 3) := by decide +kernel
theorem dX2_addBit_47 : decode cX2_addBit 47 = .ok (.iconst (-1), 1) := by decide +kernel
theorem dX2_addBit_48 : decode cX2_addBit 48 = .ok (.iastore, 1) := by decide +kernel
theorem dX2_addBit_49 : decode cX2_addBit 49 = .ok (.aload_n 0, 1) := by decide +kernel
theorem dX2_addBit_50 : decode cX2_addBit 50 = .ok (.dup, 1) := by decide +kernel
theorem dX2_addBit_51 : decode cX2_addBit 51 = .ok (.getfield 9, 3) := by decide +kernel
theorem dX2_addBit_54 : decode cX2_addBit 54 = .ok (.iconst 1, 1) := by decide +kernel
theorem dX2_addBit_55 : decode cX2_addBit 55 = .ok (.iadd, 1) := by decide +kernel
theorem dX2_addBit_56 : decode cX2_addBit 56 = .ok (.putfield 9, 3) := by decide +kernel
theorem dX2_addBit_59 : decode cX2_addBit 59 = .ok (.return_, 1) := by decide +kernel
theorem dX2_takeForm_0 : decode cX2_takeForm 0 = .ok (.aload_n 0, 1) := by decide +kernel
theorem dX2_takeForm_1 : decode cX2_takeForm 1 = .ok (.aload_n 1, 1) := by decide +kernel
theorem dX2_takeForm_2 : decode cX2_takeForm 2 = .ok (.getfield 9, 3) := by decide +kernel
theorem dX2_takeForm_5 : decode cX2_takeForm 5 = .ok (.putfield 9, 3) := by decide +kernel
theorem dX2_takeForm_8 : decode cX2_takeForm 8 = .ok (.aload_n 1, 1) := by decide +kernel
theorem dX2_takeForm_9 : decode cX2_takeForm 9 = .ok (.getfield 15, 3) := by decide +kernel
theorem dX2_takeForm_12 : decode cX2_takeForm 12 = .ok (.iconst 0, 1) := by decide +kernel
theorem dX2_takeForm_13 : decode cX2_takeForm 13 = .ok (.aload_n 0, 1) := by decide +kernel
theorem dX2_takeForm_14 : decode cX2_takeForm 14 = .ok (.getfield 15, 3) := by decide +kernel
theorem dX2_takeForm_17 : decode cX2_takeForm 17 = .ok (.iconst 0, 1) := by decide +kernel
theorem dX2_takeForm_18 : decode cX2_takeForm 18 = .ok (.bipush 12, 2) := by decide +kernel
theorem dX2_takeForm_20 : decode cX2_takeForm 20 = .ok (.invokestatic 68, 3) := by decide +kernel
theorem dX2_takeForm_23 : decode cX2_takeForm 23 = .ok (.aload_n 1, 1) := by decide +kernel
theorem dX2_takeForm_24 : decode cX2_takeForm 24 = .ok (.getfield 19, 3) := by decide +kernel
theorem dX2_takeForm_27 : decode cX2_takeForm 27 = .ok (.iconst 0, 1) := by decide +kernel
theorem dX2_takeForm_28 : decode cX2_takeForm 28 = .ok (.aload_n 0, 1) := by decide +kernel
theorem dX2_takeForm_29 : decode cX2_takeForm 29 = .ok (.getfield 19, 3) := by decide +kernel
theorem dX2_takeForm_32 : decode cX2_takeForm 32 = .ok (.iconst 0, 1) := by decide +kernel
theorem dX2_takeForm_33 : decode cX2_takeForm 33 = .ok (.bipush 12, 2) := by decide +kernel
theorem dX2_takeForm_35 : decode cX2_takeForm 35 = .ok (.invokestatic 68, 3) := by decide +kernel
theorem dX2_takeForm_38 : decode cX2_takeForm 38 = .ok (.aload_n 1, 1) := by decide +kernel
theorem dX2_takeForm_39 : decode cX2_takeForm 39 = .ok (.getfield 22, 3) := by decide +kernel
theorem dX2_takeForm_42 : decode cX2_takeForm 42 = .ok (.iconst 0, 1) := by decide +kernel
theorem dX2_takeForm_43 : decode cX2_takeForm 43 = .ok (.aload_n 0, 1) := by decide +kernel
theorem dX2_takeForm_44 : decode cX2_takeForm 44 = .ok (.getfield 22, 3) := by decide +kernel
theorem dX2_takeForm_47 : decode cX2_takeForm 47 = .ok (.iconst 0, 1) := by decide +kernel
theorem dX2_takeForm_48 : decode cX2_takeForm 48 = .ok (.bipush 12, 2) := by decide +kernel
theorem dX2_takeForm_50 : decode cX2_takeForm 50 = .ok (.invokestatic 68, 3) := by decide +kernel
theorem dX2_takeForm_53 : decode cX2_takeForm 53 = .ok (.aload_n 1, 1) := by decide +kernel
theorem dX2_takeForm_54 : decode cX2_takeForm 54 = .ok (.getfield 25, 3) := by decide +kernel
theorem dX2_takeForm_57 : decode cX2_takeForm 57 = .ok (.iconst 0, 1) := by decide +kernel
theorem dX2_takeForm_58 : decode cX2_takeForm 58 = .ok (.aload_n 0, 1) := by decide +kernel
theorem dX2_takeForm_59 : decode cX2_takeForm 59 = .ok (.getfield 25, 3) := by decide +kernel
theorem dX2_takeForm_62 : decode cX2_takeForm 62 = .ok (.iconst 0, 1) := by decide +kernel
theorem dX2_takeForm_63 : decode cX2_takeForm 63 = .ok (.bipush 12, 2) := by decide +kernel
theorem dX2_takeForm_65 : decode cX2_takeForm 65 = .ok (.invokestatic 68, 3) := by decide +kernel
theorem dX2_takeForm_68 : decode cX2_takeForm 68 = .ok (.aload_n 0, 1) := by decide +kernel
theorem dX2_takeForm_69 : decode cX2_takeForm 69 = .ok (.aload_n 1, 1) := by decide +kernel
theorem dX2_takeForm_70 : decode cX2_takeForm 70 = .ok (.getfield 28, 3) := by decide +kernel
theorem dX2_takeForm_73 : decode cX2_takeForm 73 = .ok (.putfield 28, 3) := by decide +kernel
theorem dX2_takeForm_76 : decode cX2_takeForm 76 = .ok (.aload_n 0, 1) := by decide +kernel
theorem dX2_takeForm_77 : decode cX2_takeForm 77 = .ok (.aload_n 1, 1) := by decide +kernel
theorem dX2_takeForm_78 : decode cX2_takeForm 78 = .ok (.getfield 31, 3) := by decide +kernel
theorem dX2_takeForm_81 : decode cX2_takeForm 81 = .ok (.putfield 31, 3) := by decide +kernel
theorem dX2_takeForm_84 : decode cX2_takeForm 84 = .ok (.aload_n 0, 1) := by decide +kernel
theorem dX2_takeForm_85 : decode cX2_takeForm 85 = .ok (.aload_n 1, 1) := by decide +kernel
theorem dX2_takeForm_86 : decode cX2_takeForm 86 = .ok (.getfield 34, 3) := by decide +kernel
theorem dX2_takeForm_89 : decode cX2_takeForm 89 = .ok (.putfield 34, 3) := by decide +kernel
theorem dX2_takeForm_92 : decode cX2_takeForm 92 = .ok (.aload_n 0, 1) := by decide +kernel
theorem dX2_takeForm_93 : decode cX2_takeForm 93 = .ok (.aload_n 1, 1) := by decide +kernel
theorem dX2_takeForm_94 : decode cX2_takeForm 94 = .ok (.getfield 37, 3) := by decide +kernel
theorem dX2_takeForm_97 : decode cX2_takeForm 97 = .ok (.putfield 37, 3) := by decide +kernel
theorem dX2_takeForm_100 : decode cX2_takeForm 100 = .ok (.aload_n 0, 1) := by decide +kernel
theorem dX2_takeForm_101 : decode cX2_takeForm 101 = .ok (.aload_n 1, 1) := by decide +kernel
theorem dX2_takeForm_102 : decode cX2_takeForm 102 = .ok (.getfield 40, 3) := by decide +kernel
theorem dX2_takeForm_105 : decode cX2_takeForm 105 = .ok (.putfield 40, 3) := by decide +kernel
theorem dX2_takeForm_108 : decode cX2_takeForm 108 = .ok (.return_, 1) := by decide +kernel
theorem dX2_copyFrom_0 : decode cX2_copyFrom 0 = .ok (.aload_n 0, 1) := by decide +kernel
theorem dX2_copyFrom_1 : decode cX2_copyFrom 1 = .ok (.aload_n 1, 1) := by decide +kernel
theorem dX2_copyFrom_2 : decode cX2_copyFrom 2 = .ok (.invokevirtual 74, 3) := by decide +kernel
theorem dX2_copyFrom_5 : decode cX2_copyFrom 5 = .ok (.aload_n 0, 1) := by decide +kernel
theorem dX2_copyFrom_6 : decode cX2_copyFrom 6 = .ok (.aload_n 1, 1) := by decide +kernel
theorem dX2_copyFrom_7 : decode cX2_copyFrom 7 = .ok (.getfield 43, 3) := by decide +kernel
theorem dX2_copyFrom_10 : decode cX2_copyFrom 10 = .ok (.putfield 43, 3) := by decide +kernel
theorem dX2_copyFrom_13 : decode cX2_copyFrom 13 = .ok (.aload_n 0, 1) := by decide +kernel
theorem dX2_copyFrom_14 : decode cX2_copyFrom 14 = .ok (.aload_n 1, 1) := by decide +kernel
theorem dX2_copyFrom_15 : decode cX2_copyFrom 15 = .ok (.getfield 46, 3) := by decide +kernel
theorem dX2_copyFrom_18 : decode cX2_copyFrom 18 = .ok (.putfield 46, 3) := by decide +kernel
theorem dX2_copyFrom_21 : decode cX2_copyFrom 21 = .ok (.aload_n 0, 1) := by decide +kernel
theorem dX2_copyFrom_22 : decode cX2_copyFrom 22 = .ok (.aload_n 1, 1) := by decide +kernel
theorem dX2_copyFrom_23 : decode cX2_copyFrom 23 = .ok (.getfield 49, 3) := by decide +kernel
theorem dX2_copyFrom_26 : decode cX2_copyFrom 26 = .ok (.putfield 49, 3) := by decide +kernel
theorem dX2_copyFrom_29 : decode cX2_copyFrom 29 = .ok (.aload_n 0, 1) := by decide +kernel
theorem dX2_copyFrom_30 : decode cX2_copyFrom 30 = .ok (.aload_n 1, 1) := by decide +kernel
theorem dX2_copyFrom_31 : decode cX2_copyFrom 31 = .ok (.getfield 55, 3) := by decide +kernel
theorem dX2_copyFrom_34 : decode cX2_copyFrom 34 = .ok (.putfield 55, 3) := by decide +kernel
theorem dX2_copyFrom_37 : decode cX2_copyFrom 37 = .ok (.aload_n 1, 1) := by decide +kernel
theorem dX2_copyFrom_38 : decode cX2_copyFrom 38 = .ok (.getfield 59, 3) := by decide +kernel
theorem dX2_copyFrom_41 : decode cX2_copyFrom 41 = .ok (.iconst 0, 1) := by decide +kernel
theorem dX2_copyFrom_42 : decode cX2_copyFrom 42 = .ok (.aload_n 0, 1) := by decide +kernel
theorem dX2_copyFrom_43 : decode cX2_copyFrom 43 = .ok (.getfield 59, 3) := by decide +kernel
theorem dX2_copyFrom_46 : decode cX2_copyFrom 46 = .ok (.iconst 0, 1) := by decide +kernel
theorem dX2_copyFrom_47 : decode cX2_copyFrom 47 = .ok (.bipush 8, 2) := by decide +kernel
theorem dX2_copyFrom_49 : decode cX2_copyFrom 49 = .ok (.invokestatic 68, 3) := by decide +kernel
theorem dX2_copyFrom_52 : decode cX2_copyFrom 52 = .ok (.aload_n 1, 1) := by decide +kernel
theorem dX2_copyFrom_53 : decode cX2_copyFrom 53 = .ok (.getfield 62, 3) := by decide +kernel
theorem dX2_copyFrom_56 : decode cX2_copyFrom 56 = .ok (.iconst 0, 1) := by decide +kernel
theorem dX2_copyFrom_57 : decode cX2_copyFrom 57 = .ok (.aload_n 0, 1) := by decide +kernel
theorem dX2_copyFrom_58 : decode cX2_copyFrom 58 = .ok (.getfield 62, 3) := by decide +kernel
theorem dX2_copyFrom_61 : decode cX2_copyFrom 61 = .ok (.iconst 0, 1) := by decide +kernel
theorem dX2_copyFrom_62 : decode cX2_copyFrom 62 = .ok (.bipush 8, 2) := by decide +kernel
theorem dX2_copyFrom_64 : decode cX2_copyFrom 64 = .ok (.invokestatic 68, 3) := by decide +kernel
theorem dX2_copyFrom_67 : decode cX2_copyFrom 67 = .ok (.aload_n 0, 1) := by decide +kernel
theorem dX2_copyFrom_68 : decode cX2_copyFrom 68 = .ok (.aload_n 1, 1) := by decide +kernel
theorem dX2_copyFrom_69 : decode cX2_copyFrom 69 = .ok (.getfield 65, 3) := by decide +kernel
theorem dX2_copyFrom_72 : decode cX2_copyFrom 72 = .ok (.putfield 65, 3) := by decide +kernel
theorem dX2_copyFrom_75 : decode cX2_copyFrom 75 = .ok (.return_, 1) := by decide +kernel
theorem dX2_mayBeSet_0 : decode cX2_mayBeSet 0 = .ok (.iload_n 0, 1) := by decide +kernel
theorem dX2_mayBeSet_1 : decode cX2_mayBeSet 1 = .ok (.tableswitch 75 0 4 #[35, 44, 52, 59, 67], 35) := by decide +kernel
theorem dX2_mayBeSet_36 : decode cX2_mayBeSet 36 = .ok (.iload_n 1, 1) := by decide +kernel
theorem dX2_mayBeSet_37 : decode cX2_mayBeSet 37 = .ok (.bipush (-99), 2) := by decide +kernel
theorem dX2_mayBeSet_39 : decode cX2_mayBeSet 39 = .ok (.bipush 99, 2) := by decide +kernel
theorem dX2_mayBeSet_41 : decode cX2_mayBeSet 41 = .ok (.invokestatic 78, 3) := by decide +kernel
theorem dX2_mayBeSet_44 : decode cX2_mayBeSet 44 = .ok (.ireturn, 1) := by decide +kernel
theorem dX2_mayBeSet_45 : decode cX2_mayBeSet 45 = .ok (.iload_n 1, 1) := by decide +kernel
theorem dX2_mayBeSet_46 : decode cX2_mayBeSet 46 = .ok (.iconst 0, 1) := by decide +kernel
theorem dX2_mayBeSet_47 : decode cX2_mayBeSet 47 = .ok (.bipush 50, 2) := by decide +kernel
theorem dX2_mayBeSet_49 : decode cX2_mayBeSet 49 = .ok (.invokestatic 78, 3) := by decide +kernel
theorem dX2_mayBeSet_52 : decode cX2_mayBeSet 52 = .ok (.ireturn, 1) := by decide +kernel
theorem dX2_mayBeSet_53 : decode cX2_mayBeSet 53 = .ok (.iload_n 1, 1) := by decide +kernel
theorem dX2_mayBeSet_54 : decode cX2_mayBeSet 54 = .ok (.iconst 0, 1) := by decide +kernel
theorem dX2_mayBeSet_55 : decode cX2_mayBeSet 55 = .ok (.iconst 3, 1) := by decide +kernel
theorem dX2_mayBeSet_56 : decode cX2_mayBeSet 56 = .ok (.invokestatic 78, 3) := by decide +kernel
theorem dX2_mayBeSet_59 : decode cX2_mayBeSet 59 = .ok (.ireturn, 1) := by decide +kernel
theorem dX2_mayBeSet_60 : decode cX2_mayBeSet 60 = .ok (.iload_n 1, 1) := by decide +kernel
theorem dX2_mayBeSet_61 : decode cX2_mayBeSet 61 = .ok (.iconst 0, 1) := by decide +kernel
theorem dX2_mayBeSet_62 : decode cX2_mayBeSet 62 = .ok (.bipush 20, 2) := by decide +kernel
theorem dX2_mayBeSet_64 : decode cX2_mayBeSet 64 = .ok (.invokestatic 78, 3) := by decide +kernel
theorem dX2_mayBeSet_67 : decode cX2_mayBeSet 67 = .ok (.ireturn, 1) := by decide +kernel
theorem dX2_mayBeSet_68 : decode cX2_mayBeSet 68 = .ok (.iload_n 1, 1) := by decide +kernel
theorem dX2_mayBeSet_69 : decode cX2_mayBeSet 69 = .ok (.iconst 1, 1) := by decide +kernel
theorem dX2_mayBeSet_70 : decode cX2_mayBeSet 70 = .ok (.bipush 64, 2) := by decide +kernel
theorem dX2_mayBeSet_72 : decode cX2_mayBeSet 72 = .ok (.invokestatic 78, 3) := by decide +kernel
theorem dX2_mayBeSet_75 : decode cX2_mayBeSet 75 = .ok (.ireturn, 1) := by decide +kernel
theorem dX2_mayBeSet_76 : decode cX2_mayBeSet 76 = .ok (.iconst 0, 1) := by decide +kernel
theorem dX2_mayBeSet_77 : decode cX2_mayBeSet 77 = .ok (.ireturn, 1) := by decide +kernel
theorem dX2_put_0 : decode cX2_put 0 = .ok (.iload_n 1, 1) := by decide +kernel
theorem dX2_put_1 : decode cX2_put 1 = .ok (.tableswitch 75 0 4 #[35, 43, 51, 59, 67], 35) := by decide +kernel
theorem dX2_put_36 : decode cX2_put 36 = .ok (.aload_n 0, 1) := by decide +kernel
theorem dX2_put_37 : decode cX2_put 37 = .ok (.iload_n 2, 1) := by decide +kernel
theorem dX2_put_38 : decode cX2_put 38 = .ok (.putfield 28, 3) := by decide +kernel
theorem dX2_put_41 : decode cX2_put 41 = .ok (.goto 35, 3) := by decide +kernel
theorem dX2_put_44 : decode cX2_put 44 = .ok (.aload_n 0, 1) := by decide +kernel
theorem dX2_put_45 : decode cX2_put 45 = .ok (.iload_n 2, 1) := by decide +kernel
theorem dX2_put_46 : decode cX2_put 46 = .ok (.putfield 31, 3) := by decide +kernel
theorem dX2_put_49 : decode cX2_put 49 = .ok (.goto 27, 3) := by decide +kernel
theorem dX2_put_52 : decode cX2_put 52 = .ok (.aload_n 0, 1) := by decide +kernel
theorem dX2_put_53 : decode cX2_put 53 = .ok (.iload_n 2, 1) := by decide +kernel
theorem dX2_put_54 : decode cX2_put 54 = .ok (.putfield 34, 3) := by decide +kernel
theorem dX2_put_57 : decode cX2_put 57 = .ok (.goto 19, 3) := by decide +kernel
theorem dX2_put_60 : decode cX2_put 60 = .ok (.aload_n 0, 1) := by decide +kernel
theorem dX2_put_61 : decode cX2_put 61 = .ok (.iload_n 2, 1) := by decide +kernel
theorem dX2_put_62 : decode cX2_put 62 = .ok (.putfield 37, 3) := by decide +kernel
theorem dX2_put_65 : decode cX2_put 65 = .ok (.goto 11, 3) := by decide +kernel
theorem dX2_put_68 : decode cX2_put 68 = .ok (.aload_n 0, 1) := by decide +kernel
theorem dX2_put_69 : decode cX2_put 69 = .ok (.iload_n 2, 1) := by decide +kernel
theorem dX2_put_70 : decode cX2_put 70 = .ok (.putfield 40, 3) := by decide +kernel
theorem dX2_put_73 : decode cX2_put 73 = .ok (.goto 3, 3) := by decide +kernel
theorem dX2_put_76 : decode cX2_put 76 = .ok (.return_, 1) := by decide +kernel
theorem dX2_weight_0 : decode cX2_weight 0 = .ok (.aload_n 0, 1) := by decide +kernel
theorem dX2_weight_1 : decode cX2_weight 1 = .ok (.getfield 15, 3) := by decide +kernel
theorem dX2_weight_4 : decode cX2_weight 4 = .ok (.iload_n 1, 1) := by decide +kernel
theorem dX2_weight_5 : decode cX2_weight 5 = .ok (.iaload, 1) := by decide +kernel
theorem dX2_weight_6 : decode cX2_weight 6 = .ok (.aload_n 0, 1) := by decide +kernel
theorem dX2_weight_7 : decode cX2_weight 7 = .ok (.getfield 19, 3) := by decide +kernel
theorem dX2_weight_10 : decode cX2_weight 10 = .ok (.iload_n 1, 1) := by decide +kernel
theorem dX2_weight_11 : decode cX2_weight 11 = .ok (.iaload, 1) := by decide +kernel
theorem dX2_weight_12 : decode cX2_weight 12 = .ok (.iadd, 1) := by decide +kernel
theorem dX2_weight_13 : decode cX2_weight 13 = .ok (.ireturn, 1) := by decide +kernel
theorem dX2_weightsBelow_0 : decode cX2_weightsBelow 0 = .ok (.iconst 0, 1) := by decide +kernel
theorem dX2_weightsBelow_1 : decode cX2_weightsBelow 1 = .ok (.istore_n 2, 1) := by decide +kernel
theorem dX2_weightsBelow_2 : decode cX2_weightsBelow 2 = .ok (.iconst 0, 1) := by decide +kernel
theorem dX2_weightsBelow_3 : decode cX2_weightsBelow 3 = .ok (.istore_n 3, 1) := by decide +kernel
theorem dX2_weightsBelow_4 : decode cX2_weightsBelow 4 = .ok (.iload_n 3, 1) := by decide +kernel
theorem dX2_weightsBelow_5 : decode cX2_weightsBelow 5 = .ok (.iload_n 1, 1) := by decide +kernel
theorem dX2_weightsBelow_6 : decode cX2_weightsBelow 6 = .ok (.if_icmp .ge 25, 3) := by decide +kernel
theorem dX2_weightsBelow_9 : decode cX2_weightsBelow 9 = .ok (.iload_n 3, 1) := by decide +kernel
theorem dX2_weightsBelow_10 : decode cX2_weightsBelow 10 = .ok (.aload_n 0, 1) := by decide +kernel
theorem dX2_weightsBelow_11 : decode cX2_weightsBelow 11 = .ok (.getfield 9, 3) := by decide +kernel
theorem dX2_weightsBelow_14 : decode cX2_weightsBelow 14 = .ok (.if_icmp .ge 17, 3) := by decide +kernel
theorem dX2_weightsBelow_17 : decode cX2_weightsBelow 17 = .ok (.iload_n 2, 1) := by decide +kernel
theorem dX2_weightsBelow_18 : decode cX2_weightsBelow 18 = .ok (.aload_n 0, 1) := by decide +kernel
theorem dX2_weightsBelow_19 : decode cX2_weightsBelow 19 = .ok (.iload_n 3, 1) := by decide +kernel
theorem dX2_weightsBelow_20 : decode cX2_weightsBelow 20 = .ok (.invokevirtual 82, 3) := by decide +kernel
theorem dX2_weightsBelow_23 : decode cX2_weightsBelow 23 = .ok (.iadd, 1) := by decide +kernel
theorem dX2_weightsBelow_24 : decode cX2_weightsBelow 24 = .ok (.istore_n 2, 1) := by decide +kernel
theorem dX2_weightsBelow_25 : decode cX2_weightsBelow 25 = .ok (.iinc 3 1, 3) := by decide +kernel
theorem dX2_weightsBelow_28 : decode cX2_weightsBelow 28 = .ok (.goto (-24), 3) := by decide +kernel
theorem dX2_weightsBelow_31 : decode cX2_weightsBelow 31 = .ok (.iload_n 2, 1) := by decide +kernel
theorem dX2_weightsBelow_32 : decode cX2_weightsBelow 32 = .ok (.ireturn, 1) := by decide +kernel
theorem dX2_allSizes_0 : decode cX2_allSizes 0 = .ok (.iconst 0, 1) := by decide +kernel
theorem dX2_allSizes_1 : decode cX2_allSizes 1 = .ok (.istore_n 1, 1) := by decide +kernel
theorem dX2_allSizes_2 : decode cX2_allSizes 2 = .ok (.iconst 0, 1) := by decide +kernel
theorem dX2_allSizes_3 : decode cX2_allSizes 3 = .ok (.istore_n 2, 1) := by decide +kernel
theorem dX2_allSizes_4 : decode cX2_allSizes 4 = .ok (.iload_n 2, 1) := by decide +kernel
theorem dX2_allSizes_5 : decode cX2_allSizes 5 = .ok (.aload_n 0, 1) := by decide +kernel
theorem dX2_allSizes_6 : decode cX2_allSizes 6 = .ok (.getfield 9, 3) := by decide +kernel
theorem dX2_allSizes_9 : decode cX2_allSizes 9 = .ok (.if_icmp .ge 18, 3) := by decide +kernel
theorem dX2_allSizes_12 : decode cX2_allSizes 12 = .ok (.iload_n 1, 1) := by decide +kernel
theorem dX2_allSizes_13 : decode cX2_allSizes 13 = .ok (.aload_n 0, 1) := by decide +kernel
theorem dX2_allSizes_14 : decode cX2_allSizes 14 = .ok (.getfield 15, 3) := by decide +kernel
theorem dX2_allSizes_17 : decode cX2_allSizes 17 = .ok (.iload_n 2, 1) := by decide +kernel
theorem dX2_allSizes_18 : decode cX2_allSizes 18 = .ok (.iaload, 1) := by decide +kernel
theorem dX2_allSizes_19 : decode cX2_allSizes 19 = .ok (.iadd, 1) := by decide +kernel
theorem dX2_allSizes_20 : decode cX2_allSizes 20 = .ok (.istore_n 1, 1) := by decide +kernel
theorem dX2_allSizes_21 : decode cX2_allSizes 21 = .ok (.iinc 2 1, 3) := by decide +kernel
theorem dX2_allSizes_24 : decode cX2_allSizes 24 = .ok (.goto (-20), 3) := by decide +kernel
theorem dX2_allSizes_27 : decode cX2_allSizes 27 = .ok (.iload_n 1, 1) := by decide +kernel
theorem dX2_allSizes_28 : decode cX2_allSizes 28 = .ok (.ireturn, 1) := by decide +kernel
theorem dX2_allWorths_0 : decode cX2_allWorths 0 = .ok (.iconst 0, 1) := by decide +kernel
theorem dX2_allWorths_1 : decode cX2_allWorths 1 = .ok (.istore_n 1, 1) := by decide +kernel
theorem dX2_allWorths_2 : decode cX2_allWorths 2 = .ok (.iconst 0, 1) := by decide +kernel
theorem dX2_allWorths_3 : decode cX2_allWorths 3 = .ok (.istore_n 2, 1) := by decide +kernel
theorem dX2_allWorths_4 : decode cX2_allWorths 4 = .ok (.iload_n 2, 1) := by decide +kernel
theorem dX2_allWorths_5 : decode cX2_allWorths 5 = .ok (.aload_n 0, 1) := by decide +kernel
theorem dX2_allWorths_6 : decode cX2_allWorths 6 = .ok (.getfield 9, 3) := by decide +kernel
theorem dX2_allWorths_9 : decode cX2_allWorths 9 = .ok (.if_icmp .ge 18, 3) := by decide +kernel
theorem dX2_allWorths_12 : decode cX2_allWorths 12 = .ok (.iload_n 1, 1) := by decide +kernel
theorem dX2_allWorths_13 : decode cX2_allWorths 13 = .ok (.aload_n 0, 1) := by decide +kernel
theorem dX2_allWorths_14 : decode cX2_allWorths 14 = .ok (.getfield 22, 3) := by decide +kernel
theorem dX2_allWorths_17 : decode cX2_allWorths 17 = .ok (.iload_n 2, 1) := by decide +kernel
theorem dX2_allWorths_18 : decode cX2_allWorths 18 = .ok (.iaload, 1) := by decide +kernel
theorem dX2_allWorths_19 : decode cX2_allWorths 19 = .ok (.iadd, 1) := by decide +kernel
theorem dX2_allWorths_20 : decode cX2_allWorths 20 = .ok (.istore_n 1, 1) := by decide +kernel
theorem dX2_allWorths_21 : decode cX2_allWorths 21 = .ok (.iinc 2 1, 3) := by decide +kernel
theorem dX2_allWorths_24 : decode cX2_allWorths 24 = .ok (.goto (-20), 3) := by decide +kernel
theorem dX2_allWorths_27 : decode cX2_allWorths 27 = .ok (.iload_n 1, 1) := by decide +kernel
theorem dX2_allWorths_28 : decode cX2_allWorths 28 = .ok (.ireturn, 1) := by decide +kernel
theorem dX2_isShort_0 : decode cX2_isShort 0 = .ok (.aload_n 0, 1) := by decide +kernel
theorem dX2_isShort_1 : decode cX2_isShort 1 = .ok (.iload_n 1, 1) := by decide +kernel
theorem dX2_isShort_2 : decode cX2_isShort 2 = .ok (.invokevirtual 82, 3) := by decide +kernel
theorem dX2_isShort_5 : decode cX2_isShort 5 = .ok (.aload_n 0, 1) := by decide +kernel
theorem dX2_isShort_6 : decode cX2_isShort 6 = .ok (.iload_n 1, 1) := by decide +kernel
theorem dX2_isShort_7 : decode cX2_isShort 7 = .ok (.invokevirtual 86, 3) := by decide +kernel
theorem dX2_isShort_10 : decode cX2_isShort 10 = .ok (.if_icmp .le 7, 3) := by decide +kernel
theorem dX2_isShort_13 : decode cX2_isShort 13 = .ok (.iconst 1, 1) := by decide +kernel
theorem dX2_isShort_14 : decode cX2_isShort 14 = .ok (.goto 4, 3) := by decide +kernel
theorem dX2_isShort_17 : decode cX2_isShort 17 = .ok (.iconst 0, 1) := by decide +kernel
theorem dX2_isShort_18 : decode cX2_isShort 18 = .ok (.ireturn, 1) := by decide +kernel
theorem dX2_drawOf_0 : decode cX2_drawOf 0 = .ok (.aload_n 0, 1) := by decide +kernel
theorem dX2_drawOf_1 : decode cX2_drawOf 1 = .ok (.aload_n 0, 1) := by decide +kernel
theorem dX2_drawOf_2 : decode cX2_drawOf 2 = .ok (.getfield 43, 3) := by decide +kernel
theorem dX2_drawOf_5 : decode cX2_drawOf 5 = .ok (.ldc 89, 2) := by decide +kernel
theorem dX2_drawOf_7 : decode cX2_drawOf 7 = .ok (.imul, 1) := by decide +kernel
theorem dX2_drawOf_8 : decode cX2_drawOf 8 = .ok (.sipush 12345, 3) := by decide +kernel
theorem dX2_drawOf_11 : decode cX2_drawOf 11 = .ok (.iadd, 1) := by decide +kernel
theorem dX2_drawOf_12 : decode cX2_drawOf 12 = .ok (.putfield 43, 3) := by decide +kernel
theorem dX2_drawOf_15 : decode cX2_drawOf 15 = .ok (.iload_n 1, 1) := by decide +kernel
theorem dX2_drawOf_16 : decode cX2_drawOf 16 = .ok (.iconst 1, 1) := by decide +kernel
theorem dX2_drawOf_17 : decode cX2_drawOf 17 = .ok (.if_icmp .ge 7, 3) := by decide +kernel
theorem dX2_drawOf_20 : decode cX2_drawOf 20 = .ok (.iconst 0, 1) := by decide +kernel
theorem dX2_drawOf_21 : decode cX2_drawOf 21 = .ok (.goto 12, 3) := by decide +kernel
theorem dX2_drawOf_24 : decode cX2_drawOf 24 = .ok (.aload_n 0, 1) := by decide +kernel
theorem dX2_drawOf_25 : decode cX2_drawOf 25 = .ok (.getfield 43, 3) := by decide +kernel
theorem dX2_drawOf_28 : decode cX2_drawOf 28 = .ok (.bipush 16, 2) := by decide +kernel
theorem dX2_drawOf_30 : decode cX2_drawOf 30 = .ok (.iushr, 1) := by decide +kernel
theorem dX2_drawOf_31 : decode cX2_drawOf 31 = .ok (.iload_n 1, 1) := by decide +kernel
theorem dX2_drawOf_32 : decode cX2_drawOf 32 = .ok (.irem, 1) := by decide +kernel
theorem dX2_drawOf_33 : decode cX2_drawOf 33 = .ok (.ireturn, 1) := by decide +kernel
theorem dX2_run_0 : decode cX2_run 0 = .ok (.aload 4, 2) := by decide +kernel
theorem dX2_run_2 : decode cX2_run 2 = .ok (.iload_n 3, 1) := by decide +kernel
theorem dX2_run_3 : decode cX2_run 3 = .ok (.invokevirtual 90, 3) := by decide +kernel
theorem dX2_run_6 : decode cX2_run 6 = .ok (.iload_n 3, 1) := by decide +kernel
theorem dX2_run_7 : decode cX2_run 7 = .ok (.iconst 1, 1) := by decide +kernel
theorem dX2_run_8 : decode cX2_run 8 = .ok (.isub, 1) := by decide +kernel
theorem dX2_run_9 : decode cX2_run 9 = .ok (.istore 5, 2) := by decide +kernel
theorem dX2_run_11 : decode cX2_run 11 = .ok (.iload 5, 2) := by decide +kernel
theorem dX2_run_13 : decode cX2_run 13 = .ok (.ifCond .lt 222, 3) := by decide +kernel
theorem dX2_run_16 : decode cX2_run 16 = .ok (.aload_n 0, 1) := by decide +kernel
theorem dX2_run_17 : decode cX2_run 17 = .ok (.getfield 37, 3) := by decide +kernel
theorem dX2_run_20 : decode cX2_run 20 = .ok (.ifCond .le 23, 3) := by decide +kernel
theorem dX2_run_23 : decode cX2_run 23 = .ok (.aload_n 0, 1) := by decide +kernel
theorem dX2_run_24 : decode cX2_run 24 = .ok (.aload_n 0, 1) := by decide +kernel
theorem dX2_run_25 : decode cX2_run 25 = .ok (.getfield 37, 3) := by decide +kernel
theorem dX2_run_28 : decode cX2_run 28 = .ok (.iconst 2, 1) := by decide +kernel
theorem dX2_run_29 : decode cX2_run 29 = .ok (.imul, 1) := by decide +kernel
theorem dX2_run_30 : decode cX2_run 30 = .ok (.iconst 1, 1) := by decide +kernel
theorem dX2_run_31 : decode cX2_run 31 = .ok (.iadd, 1) := by decide +kernel
theorem dX2_run_32 : decode cX2_run 32 = .ok (.invokevirtual 96, 3) := by decide +kernel
theorem dX2_run_35 : decode cX2_run 35 = .ok (.aload_n 0, 1) := by decide +kernel
theorem dX2_run_36 : decode cX2_run 36 = .ok (.getfield 37, 3) := by decide +kernel
theorem dX2_run_39 : decode cX2_run 39 = .ok (.isub, 1) := by decide +kernel
theorem dX2_run_40 : decode cX2_run 40 = .ok (.goto 4, 3) := by decide +kernel
theorem dX2_run_43 : decode cX2_run 43 = .ok (.iconst 0, 1) := by decide +kernel
theorem dX2_run_44 : decode cX2_run 44 = .ok (.istore 6, 2) := by decide +kernel
theorem dX2_run_46 : decode cX2_run 46 = .ok (.aload 4, 2) := by decide +kernel
theorem dX2_run_48 : decode cX2_run 48 = .ok (.getfield 99, 3) := by decide +kernel
theorem dX2_run_51 : decode cX2_run 51 = .ok (.iload 5, 2) := by decide +kernel
theorem dX2_run_53 : decode cX2_run 53 = .ok (.iload_n 1, 1) := by decide +kernel
theorem dX2_run_54 : decode cX2_run 54 = .ok (.iload_n 2, 1) := by decide +kernel
theorem dX2_run_55 : decode cX2_run 55 = .ok (.iadd, 1) := by decide +kernel
theorem dX2_run_56 : decode cX2_run 56 = .ok (.iload 6, 2) := by decide +kernel
theorem dX2_run_58 : decode cX2_run 58 = .ok (.iadd, 1) := by decide +kernel
theorem dX2_run_59 : decode cX2_run 59 = .ok (.aload 4, 2) := by decide +kernel
theorem dX2_run_61 : decode cX2_run 61 = .ok (.getfield 102, 3) := by decide +kernel
theorem dX2_run_64 : decode cX2_run 64 = .ok (.isub, 1) := by decide +kernel
theorem dX2_run_65 : decode cX2_run 65 = .ok (.aload_n 0, 1) := by decide +kernel
theorem dX2_run_66 : decode cX2_run 66 = .ok (.iload 5, 2) := by decide +kernel
theorem dX2_run_68 : decode cX2_run 68 = .ok (.invokevirtual 82, 3) := by decide +kernel
theorem dX2_run_71 : decode cX2_run 71 = .ok (.isub, 1) := by decide +kernel
theorem dX2_run_72 : decode cX2_run 72 = .ok (.iastore, 1) := by decide +kernel
theorem dX2_run_73 : decode cX2_run 73 = .ok (.aload 4, 2) := by decide +kernel
theorem dX2_run_75 : decode cX2_run 75 = .ok (.getfield 105, 3) := by decide +kernel
theorem dX2_run_78 : decode cX2_run 78 = .ok (.iload 5, 2) := by decide +kernel
theorem dX2_run_80 : decode cX2_run 80 = .ok (.aload_n 0, 1) := by decide +kernel
theorem dX2_run_81 : decode cX2_run 81 = .ok (.iload 5, 2) := by decide +kernel
theorem dX2_run_83 : decode cX2_run 83 = .ok (.aload 4, 2) := by decide +kernel
theorem dX2_run_85 : decode cX2_run 85 = .ok (.getfield 99, 3) := by decide +kernel
theorem dX2_run_88 : decode cX2_run 88 = .ok (.iload 5, 2) := by decide +kernel
theorem dX2_run_90 : decode cX2_run 90 = .ok (.iaload, 1) := by decide +kernel
theorem dX2_run_91 : decode cX2_run 91 = .ok (.invokevirtual 108, 3) := by decide +kernel
theorem dX2_run_94 : decode cX2_run 94 = .ok (.ifCond .eq 7, 3) := by decide +kernel
theorem dX2_run_97 : decode cX2_run 97 = .ok (.iconst 1, 1) := by decide +kernel
theorem dX2_run_98 : decode cX2_run 98 = .ok (.goto 4, 3) := by decide +kernel
theorem dX2_run_101 : decode cX2_run 101 = .ok (.iconst 0, 1) := by decide +kernel
theorem dX2_run_102 : decode cX2_run 102 = .ok (.iastore, 1) := by decide +kernel
theorem dX2_run_103 : decode cX2_run 103 = .ok (.aload 4, 2) := by decide +kernel
theorem dX2_run_105 : decode cX2_run 105 = .ok (.getfield 112, 3) := by decide +kernel
theorem dX2_run_108 : decode cX2_run 108 = .ok (.iload 5, 2) := by decide +kernel
theorem dX2_run_110 : decode cX2_run 110 = .ok (.aload_n 0, 1) := by decide +kernel
theorem dX2_run_111 : decode cX2_run 111 = .ok (.iload 5, 2) := by decide +kernel
theorem dX2_run_113 : decode cX2_run 113 = .ok (.aload 4, 2) := by decide +kernel
theorem dX2_run_115 : decode cX2_run 115 = .ok (.getfield 99, 3) := by decide +kernel
theorem dX2_run_118 : decode cX2_run 118 = .ok (.iload 5, 2) := by decide +kernel
theorem dX2_run_120 : decode cX2_run 120 = .ok (.iaload, 1) := by decide +kernel
theorem dX2_run_121 : decode cX2_run 121 = .ok (.aload 4, 2) := by decide +kernel
theorem dX2_run_123 : decode cX2_run 123 = .ok (.getfield 105, 3) := by decide +kernel
theorem dX2_run_126 : decode cX2_run 126 = .ok (.iload 5, 2) := by decide +kernel
theorem dX2_run_128 : decode cX2_run 128 = .ok (.iaload, 1) := by decide +kernel
theorem dX2_run_129 : decode cX2_run 129 = .ok (.iconst 1, 1) := by decide +kernel
theorem dX2_run_130 : decode cX2_run 130 = .ok (.if_icmp .ne 7, 3) := by decide +kernel
theorem dX2_run_133 : decode cX2_run 133 = .ok (.iconst 1, 1) := by decide +kernel
theorem dX2_run_134 : decode cX2_run 134 = .ok (.goto 4, 3) := by decide +kernel
theorem dX2_run_137 : decode cX2_run 137 = .ok (.iconst 0, 1) := by decide +kernel
theorem dX2_run_138 : decode cX2_run 138 = .ok (.invokevirtual 115, 3) := by decide +kernel
theorem dX2_run_141 : decode cX2_run 141 = .ok (.iastore, 1) := by decide +kernel
theorem dX2_run_142 : decode cX2_run 142 = .ok (.aload 4, 2) := by decide +kernel
theorem dX2_run_144 : decode cX2_run 144 = .ok (.getfield 112, 3) := by decide +kernel
theorem dX2_run_147 : decode cX2_run 147 = .ok (.iload 5, 2) := by decide +kernel
theorem dX2_run_149 : decode cX2_run 149 = .ok (.iaload, 1) := by decide +kernel
theorem dX2_run_150 : decode cX2_run 150 = .ok (.iconst 1, 1) := by decide +kernel
theorem dX2_run_151 : decode cX2_run 151 = .ok (.if_icmp .ne 47, 3) := by decide +kernel
theorem dX2_run_154 : decode cX2_run 154 = .ok (.aload 4, 2) := by decide +kernel
theorem dX2_run_156 : decode cX2_run 156 = .ok (.dup, 1) := by decide +kernel
theorem dX2_run_157 : decode cX2_run 157 = .ok (.getfield 102, 3) := by decide +kernel
theorem dX2_run_160 : decode cX2_run 160 = .ok (.aload_n 0, 1) := by decide +kernel
theorem dX2_run_161 : decode cX2_run 161 = .ok (.iload 5, 2) := by decide +kernel
theorem dX2_run_163 : decode cX2_run 163 = .ok (.invokevirtual 82, 3) := by decide +kernel
theorem dX2_run_166 : decode cX2_run 166 = .ok (.iadd, 1) := by decide +kernel
theorem dX2_run_167 : decode cX2_run 167 = .ok (.putfield 102, 3) := by decide +kernel
theorem dX2_run_170 : decode cX2_run 170 = .ok (.aload 4, 2) := by decide +kernel
theorem dX2_run_172 : decode cX2_run 172 = .ok (.dup, 1) := by decide +kernel
theorem dX2_run_173 : decode cX2_run 173 = .ok (.getfield 119, 3) := by decide +kernel
theorem dX2_run_176 : decode cX2_run 176 = .ok (.aload_n 0, 1) := by decide +kernel
theorem dX2_run_177 : decode cX2_run 177 = .ok (.getfield 22, 3) := by decide +kernel
theorem dX2_run_180 : decode cX2_run 180 = .ok (.iload 5, 2) := by decide +kernel
theorem dX2_run_182 : decode cX2_run 182 = .ok (.iaload, 1) := by decide +kernel
theorem dX2_run_183 : decode cX2_run 183 = .ok (.iadd, 1) := by decide +kernel
theorem dX2_run_184 : decode cX2_run 184 = .ok (.putfield 119, 3) := by decide +kernel
theorem dX2_run_187 : decode cX2_run 187 = .ok (.aload 4, 2) := by decide +kernel
theorem dX2_run_189 : decode cX2_run 189 = .ok (.dup, 1) := by decide +kernel
theorem dX2_run_190 : decode cX2_run 190 = .ok (.getfield 122, 3) := by decide +kernel
theorem dX2_run_193 : decode cX2_run 193 = .ok (.iconst 1, 1) := by decide +kernel
theorem dX2_run_194 : decode cX2_run 194 = .ok (.iadd, 1) := by decide +kernel
theorem dX2_run_195 : decode cX2_run 195 = .ok (.putfield 122, 3) := by decide +kernel
theorem dX2_run_198 : decode cX2_run 198 = .ok (.aload 4, 2) := by decide +kernel
theorem dX2_run_200 : decode cX2_run 200 = .ok (.dup, 1) := by decide +kernel
theorem dX2_run_201 : decode cX2_run 201 = .ok (.getfield 125, 3) := by decide +kernel
theorem dX2_run_204 : decode cX2_run 204 = .ok (.aload 4, 2) := by decide +kernel
theorem dX2_run_206 : decode cX2_run 206 = .ok (.getfield 105, 3) := by decide +kernel
theorem dX2_run_209 : decode cX2_run 209 = .ok (.iload 5, 2) := by decide +kernel
theorem dX2_run_211 : decode cX2_run 211 = .ok (.iaload, 1) := by decide +kernel
theorem dX2_run_212 : decode cX2_run 212 = .ok (.iadd, 1) := by decide +kernel
theorem dX2_run_213 : decode cX2_run 213 = .ok (.putfield 125, 3) := by decide +kernel
theorem dX2_run_216 : decode cX2_run 216 = .ok (.aload 4, 2) := by decide +kernel
theorem dX2_run_218 : decode cX2_run 218 = .ok (.getfield 128, 3) := by decide +kernel
theorem dX2_run_221 : decode cX2_run 221 = .ok (.iload 5, 2) := by decide +kernel
theorem dX2_run_223 : decode cX2_run 223 = .ok (.aload 4, 2) := by decide +kernel
theorem dX2_run_225 : decode cX2_run 225 = .ok (.getfield 102, 3) := by decide +kernel
theorem dX2_run_228 : decode cX2_run 228 = .ok (.iastore, 1) := by decide +kernel
theorem dX2_run_229 : decode cX2_run 229 = .ok (.iinc 5 (-1), 3) := by decide +kernel
theorem dX2_run_232 : decode cX2_run 232 = .ok (.goto (-221), 3) := by decide +kernel
theorem dX2_run_235 : decode cX2_run 235 = .ok (.aload 4, 2) := by decide +kernel
theorem dX2_run_237 : decode cX2_run 237 = .ok (.iload_n 1, 1) := by decide +kernel
theorem dX2_run_238 : decode cX2_run 238 = .ok (.iload_n 2, 1) := by decide +kernel
theorem dX2_run_239 : decode cX2_run 239 = .ok (.iadd, 1) := by decide +kernel
theorem dX2_run_240 : decode cX2_run 240 = .ok (.aload 4, 2) := by decide +kernel
theorem dX2_run_242 : decode cX2_run 242 = .ok (.getfield 102, 3) := by decide +kernel
theorem dX2_run_245 : decode cX2_run 245 = .ok (.isub, 1) := by decide +kernel
theorem dX2_run_246 : decode cX2_run 246 = .ok (.putfield 131, 3) := by decide +kernel
theorem dX2_run_249 : decode cX2_run 249 = .ok (.aload 4, 2) := by decide +kernel
theorem dX2_run_251 : decode cX2_run 251 = .ok (.aload_n 0, 1) := by decide +kernel
theorem dX2_run_252 : decode cX2_run 252 = .ok (.aload 4, 2) := by decide +kernel
theorem dX2_run_254 : decode cX2_run 254 = .ok (.getfield 119, 3) := by decide +kernel
theorem dX2_run_257 : decode cX2_run 257 = .ok (.invokevirtual 134, 3) := by decide +kernel
theorem dX2_run_260 : decode cX2_run 260 = .ok (.putfield 137, 3) := by decide +kernel
theorem dX2_run_263 : decode cX2_run 263 = .ok (.return_, 1) := by decide +kernel
theorem dX2_isLate_0 : decode cX2_isLate 0 = .ok (.aload_n 0, 1) := by decide +kernel
theorem dX2_isLate_1 : decode cX2_isLate 1 = .ok (.getfield 25, 3) := by decide +kernel
theorem dX2_isLate_4 : decode cX2_isLate 4 = .ok (.iload_n 1, 1) := by decide +kernel
theorem dX2_isLate_5 : decode cX2_isLate 5 = .ok (.iaload, 1) := by decide +kernel
theorem dX2_isLate_6 : decode cX2_isLate 6 = .ok (.iconst (-1), 1) := by decide +kernel
theorem dX2_isLate_7 : decode cX2_isLate 7 = .ok (.if_icmp .ne 24, 3) := by decide +kernel
theorem dX2_isLate_10 : decode cX2_isLate 10 = .ok (.iload_n 2, 1) := by decide +kernel
theorem dX2_isLate_11 : decode cX2_isLate 11 = .ok (.aload_n 0, 1) := by decide +kernel
theorem dX2_isLate_12 : decode cX2_isLate 12 = .ok (.getfield 31, 3) := by decide +kernel
theorem dX2_isLate_15 : decode cX2_isLate 15 = .ok (.ineg, 1) := by decide +kernel
theorem dX2_isLate_16 : decode cX2_isLate 16 = .ok (.if_icmp .le 15, 3) := by decide +kernel
theorem dX2_isLate_19 : decode cX2_isLate 19 = .ok (.iload_n 2, 1) := by decide +kernel
theorem dX2_isLate_20 : decode cX2_isLate 20 = .ok (.aload_n 0, 1) := by decide +kernel
theorem dX2_isLate_21 : decode cX2_isLate 21 = .ok (.getfield 31, 3) := by decide +kernel
theorem dX2_isLate_24 : decode cX2_isLate 24 = .ok (.if_icmp .ge 7, 3) := by decide +kernel
theorem dX2_isLate_27 : decode cX2_isLate 27 = .ok (.iconst 1, 1) := by decide +kernel
theorem dX2_isLate_28 : decode cX2_isLate 28 = .ok (.goto 4, 3) := by decide +kernel
theorem dX2_isLate_31 : decode cX2_isLate 31 = .ok (.iconst 0, 1) := by decide +kernel
theorem dX2_isLate_32 : decode cX2_isLate 32 = .ok (.ireturn, 1) := by decide +kernel
theorem dX2_decide_0 : decode cX2_decide 0 = .ok (.aload_n 0, 1) := by decide +kernel
theorem dX2_decide_1 : decode cX2_decide 1 = .ok (.getfield 25, 3) := by decide +kernel
theorem dX2_decide_4 : decode cX2_decide 4 = .ok (.iload_n 1, 1) := by decide +kernel
theorem dX2_decide_5 : decode cX2_decide 5 = .ok (.iaload, 1) := by decide +kernel
theorem dX2_decide_6 : decode cX2_decide 6 = .ok (.iconst (-1), 1) := by decide +kernel
theorem dX2_decide_7 : decode cX2_decide 7 = .ok (.if_icmp .eq 10, 3) := by decide +kernel
theorem dX2_decide_10 : decode cX2_decide 10 = .ok (.aload_n 0, 1) := by decide +kernel
theorem dX2_decide_11 : decode cX2_decide 11 = .ok (.getfield 25, 3) := by decide +kernel
theorem dX2_decide_14 : decode cX2_decide 14 = .ok (.iload_n 1, 1) := by decide +kernel
theorem dX2_decide_15 : decode cX2_decide 15 = .ok (.iaload, 1) := by decide +kernel
theorem dX2_decide_16 : decode cX2_decide 16 = .ok (.ireturn, 1) := by decide +kernel
theorem dX2_decide_17 : decode cX2_decide 17 = .ok (.iload_n 3, 1) := by decide +kernel
theorem dX2_decide_18 : decode cX2_decide 18 = .ok (.ifCond .eq 34, 3) := by decide +kernel
theorem dX2_decide_21 : decode cX2_decide 21 = .ok (.aload_n 0, 1) := by decide +kernel
theorem dX2_decide_22 : decode cX2_decide 22 = .ok (.getfield 34, 3) := by decide +kernel
theorem dX2_decide_25 : decode cX2_decide 25 = .ok (.iconst 3, 1) := by decide +kernel
theorem dX2_decide_26 : decode cX2_decide 26 = .ok (.if_icmp .ge 26, 3) := by decide +kernel
theorem dX2_decide_29 : decode cX2_decide 29 = .ok (.aload_n 0, 1) := by decide +kernel
theorem dX2_decide_30 : decode cX2_decide 30 = .ok (.getfield 34, 3) := by decide +kernel
theorem dX2_decide_33 : decode cX2_decide 33 = .ok (.iconst 2, 1) := by decide +kernel
theorem dX2_decide_34 : decode cX2_decide 34 = .ok (.if_icmp .ne 11, 3) := by decide +kernel
theorem dX2_decide_37 : decode cX2_decide 37 = .ok (.aload_n 0, 1) := by decide +kernel
theorem dX2_decide_38 : decode cX2_decide 38 = .ok (.iconst 2, 1) := by decide +kernel
theorem dX2_decide_39 : decode cX2_decide 39 = .ok (.invokevirtual 96, 3) := by decide +kernel
theorem dX2_decide_42 : decode cX2_decide 42 = .ok (.goto 9, 3) := by decide +kernel
theorem dX2_decide_45 : decode cX2_decide 45 = .ok (.iconst 1, 1) := by decide +kernel
theorem dX2_decide_46 : decode cX2_decide 46 = .ok (.aload_n 0, 1) := by decide +kernel
theorem dX2_decide_47 : decode cX2_decide 47 = .ok (.getfield 34, 3) := by decide +kernel
theorem dX2_decide_50 : decode cX2_decide 50 = .ok (.isub, 1) := by decide +kernel
theorem dX2_decide_51 : decode cX2_decide 51 = .ok (.ireturn, 1) := by decide +kernel
theorem dX2_decide_52 : decode cX2_decide 52 = .ok (.iload_n 2, 1) := by decide +kernel
theorem dX2_decide_53 : decode cX2_decide 53 = .ok (.ifCond .lt 7, 3) := by decide +kernel
theorem dX2_decide_56 : decode cX2_decide 56 = .ok (.iconst 1, 1) := by decide +kernel
theorem dX2_decide_57 : decode cX2_decide 57 = .ok (.goto 4, 3) := by decide +kernel
theorem dX2_decide_60 : decode cX2_decide 60 = .ok (.iconst 0, 1) := by decide +kernel
theorem dX2_decide_61 : decode cX2_decide 61 = .ok (.ireturn, 1) := by decide +kernel
theorem dX2_codeOf_0 : decode cX2_codeOf 0 = .ok (.aload_n 0, 1) := by decide +kernel
theorem dX2_codeOf_1 : decode cX2_codeOf 1 = .ok (.getfield 40, 3) := by decide +kernel
theorem dX2_codeOf_4 : decode cX2_codeOf 4 = .ok (.iconst 1, 1) := by decide +kernel
theorem dX2_codeOf_5 : decode cX2_codeOf 5 = .ok (.if_icmp .ge 7, 3) := by decide +kernel
theorem dX2_codeOf_8 : decode cX2_codeOf 8 = .ok (.iconst 0, 1) := by decide +kernel
theorem dX2_codeOf_9 : decode cX2_codeOf 9 = .ok (.goto 18, 3) := by decide +kernel
theorem dX2_codeOf_12 : decode cX2_codeOf 12 = .ok (.iload_n 1, 1) := by decide +kernel
theorem dX2_codeOf_13 : decode cX2_codeOf 13 = .ok (.iconst 2, 1) := by decide +kernel
theorem dX2_codeOf_14 : decode cX2_codeOf 14 = .ok (.imul, 1) := by decide +kernel
theorem dX2_codeOf_15 : decode cX2_codeOf 15 = .ok (.aload_n 0, 1) := by decide +kernel
theorem dX2_codeOf_16 : decode cX2_codeOf 16 = .ok (.getfield 40, 3) := by decide +kernel
theorem dX2_codeOf_19 : decode cX2_codeOf 19 = .ok (.iadd, 1) := by decide +kernel
theorem dX2_codeOf_20 : decode cX2_codeOf 20 = .ok (.aload_n 0, 1) := by decide +kernel
theorem dX2_codeOf_21 : decode cX2_codeOf 21 = .ok (.getfield 40, 3) := by decide +kernel
theorem dX2_codeOf_24 : decode cX2_codeOf 24 = .ok (.iconst 2, 1) := by decide +kernel
theorem dX2_codeOf_25 : decode cX2_codeOf 25 = .ok (.imul, 1) := by decide +kernel
theorem dX2_codeOf_26 : decode cX2_codeOf 26 = .ok (.idiv, 1) := by decide +kernel
theorem dX2_codeOf_27 : decode cX2_codeOf 27 = .ok (.ireturn, 1) := by decide +kernel
theorem dX2_paperSum_0 : decode cX2_paperSum 0 = .ok (.iload_n 1, 1) := by decide +kernel
theorem dX2_paperSum_1 : decode cX2_paperSum 1 = .ok (.aload_n 0, 1) := by decide +kernel
theorem dX2_paperSum_2 : decode cX2_paperSum 2 = .ok (.getfield 28, 3) := by decide +kernel
theorem dX2_paperSum_5 : decode cX2_paperSum 5 = .ok (.iadd, 1) := by decide +kernel
theorem dX2_paperSum_6 : decode cX2_paperSum 6 = .ok (.istore_n 3, 1) := by decide +kernel
theorem dX2_paperSum_7 : decode cX2_paperSum 7 = .ok (.iconst 0, 1) := by decide +kernel
theorem dX2_paperSum_8 : decode cX2_paperSum 8 = .ok (.istore 4, 2) := by decide +kernel
theorem dX2_paperSum_10 : decode cX2_paperSum 10 = .ok (.aload_n 0, 1) := by decide +kernel
theorem dX2_paperSum_11 : decode cX2_paperSum 11 = .ok (.getfield 9, 3) := by decide +kernel
theorem dX2_paperSum_14 : decode cX2_paperSum 14 = .ok (.iconst 1, 1) := by decide +kernel
theorem dX2_paperSum_15 : decode cX2_paperSum 15 = .ok (.isub, 1) := by decide +kernel
theorem dX2_paperSum_16 : decode cX2_paperSum 16 = .ok (.istore 5, 2) := by decide +kernel
theorem dX2_paperSum_18 : decode cX2_paperSum 18 = .ok (.iload 5, 2) := by decide +kernel
theorem dX2_paperSum_20 : decode cX2_paperSum 20 = .ok (.ifCond .lt 86, 3) := by decide +kernel
theorem dX2_paperSum_23 : decode cX2_paperSum 23 = .ok (.aload_n 0, 1) := by decide +kernel
theorem dX2_paperSum_24 : decode cX2_paperSum 24 = .ok (.getfield 25, 3) := by decide +kernel
theorem dX2_paperSum_27 : decode cX2_paperSum 27 = .ok (.iload 5, 2) := by decide +kernel
theorem dX2_paperSum_29 : decode cX2_paperSum 29 = .ok (.iaload, 1) := by decide +kernel
theorem dX2_paperSum_30 : decode cX2_paperSum 30 = .ok (.iconst (-1), 1) := by decide +kernel
theorem dX2_paperSum_31 : decode cX2_paperSum 31 = .ok (.if_icmp .eq 13, 3) := by decide +kernel
theorem dX2_paperSum_34 : decode cX2_paperSum 34 = .ok (.aload_n 0, 1) := by decide +kernel
theorem dX2_paperSum_35 : decode cX2_paperSum 35 = .ok (.getfield 25, 3) := by decide +kernel
theorem dX2_paperSum_38 : decode cX2_paperSum 38 = .ok (.iload 5, 2) := by decide +kernel
theorem dX2_paperSum_40 : decode cX2_paperSum 40 = .ok (.iaload, 1) := by decide +kernel
theorem dX2_paperSum_41 : decode cX2_paperSum 41 = .ok (.goto 18, 3) := by decide +kernel
theorem dX2_paperSum_44 : decode cX2_paperSum 44 = .ok (.iload_n 3, 1) := by decide +kernel
theorem dX2_paperSum_45 : decode cX2_paperSum 45 = .ok (.aload_n 0, 1) := by decide +kernel
theorem dX2_paperSum_46 : decode cX2_paperSum 46 = .ok (.iload 5, 2) := by decide +kernel
theorem dX2_paperSum_48 : decode cX2_paperSum 48 = .ok (.invokevirtual 82, 3) := by decide +kernel
theorem dX2_paperSum_51 : decode cX2_paperSum 51 = .ok (.if_icmp .lt 7, 3) := by decide +kernel
theorem dX2_paperSum_54 : decode cX2_paperSum 54 = .ok (.iconst 1, 1) := by decide +kernel
theorem dX2_paperSum_55 : decode cX2_paperSum 55 = .ok (.goto 4, 3) := by decide +kernel
theorem dX2_paperSum_58 : decode cX2_paperSum 58 = .ok (.iconst 0, 1) := by decide +kernel
theorem dX2_paperSum_59 : decode cX2_paperSum 59 = .ok (.istore 6, 2) := by decide +kernel
theorem dX2_paperSum_61 : decode cX2_paperSum 61 = .ok (.iload 5, 2) := by decide +kernel
theorem dX2_paperSum_63 : decode cX2_paperSum 63 = .ok (.iload_n 2, 1) := by decide +kernel
theorem dX2_paperSum_64 : decode cX2_paperSum 64 = .ok (.if_icmp .ne 9, 3) := by decide +kernel
theorem dX2_paperSum_67 : decode cX2_paperSum 67 = .ok (.iconst 1, 1) := by decide +kernel
theorem dX2_paperSum_68 : decode cX2_paperSum 68 = .ok (.iload 6, 2) := by decide +kernel
theorem dX2_paperSum_70 : decode cX2_paperSum 70 = .ok (.isub, 1) := by decide +kernel
theorem dX2_paperSum_71 : decode cX2_paperSum 71 = .ok (.istore 6, 2) := by decide +kernel
theorem dX2_paperSum_73 : decode cX2_paperSum 73 = .ok (.iload 6, 2) := by decide +kernel
theorem dX2_paperSum_75 : decode cX2_paperSum 75 = .ok (.iconst 1, 1) := by decide +kernel
theorem dX2_paperSum_76 : decode cX2_paperSum 76 = .ok (.if_icmp .ne 24, 3) := by decide +kernel
theorem dX2_paperSum_79 : decode cX2_paperSum 79 = .ok (.iload_n 3, 1) := by decide +kernel
theorem dX2_paperSum_80 : decode cX2_paperSum 80 = .ok (.aload_n 0, 1) := by decide +kernel
theorem dX2_paperSum_81 : decode cX2_paperSum 81 = .ok (.iload 5, 2) := by decide +kernel
theorem dX2_paperSum_83 : decode cX2_paperSum 83 = .ok (.invokevirtual 82, 3) := by decide +kernel
theorem dX2_paperSum_86 : decode cX2_paperSum 86 = .ok (.isub, 1) := by decide +kernel
theorem dX2_paperSum_87 : decode cX2_paperSum 87 = .ok (.istore_n 3, 1) := by decide +kernel
theorem dX2_paperSum_88 : decode cX2_paperSum 88 = .ok (.iload 4, 2) := by decide +kernel
theorem dX2_paperSum_90 : decode cX2_paperSum 90 = .ok (.aload_n 0, 1) := by decide +kernel
theorem dX2_paperSum_91 : decode cX2_paperSum 91 = .ok (.getfield 22, 3) := by decide +kernel
theorem dX2_paperSum_94 : decode cX2_paperSum 94 = .ok (.iload 5, 2) := by decide +kernel
theorem dX2_paperSum_96 : decode cX2_paperSum 96 = .ok (.iaload, 1) := by decide +kernel
theorem dX2_paperSum_97 : decode cX2_paperSum 97 = .ok (.iadd, 1) := by decide +kernel
theorem dX2_paperSum_98 : decode cX2_paperSum 98 = .ok (.istore 4, 2) := by decide +kernel
theorem dX2_paperSum_100 : decode cX2_paperSum 100 = .ok (.iinc 5 (-1), 3) := by decide +kernel
theorem dX2_paperSum_103 : decode cX2_paperSum 103 = .ok (.goto (-85), 3) := by decide +kernel
theorem dX2_paperSum_106 : decode cX2_paperSum 106 = .ok (.iload 4, 2) := by decide +kernel
theorem dX2_paperSum_108 : decode cX2_paperSum 108 = .ok (.ireturn, 1) := by decide +kernel
theorem dX2_paperCode_0 : decode cX2_paperCode 0 = .ok (.aload_n 0, 1) := by decide +kernel
theorem dX2_paperCode_1 : decode cX2_paperCode 1 = .ok (.aload_n 0, 1) := by decide +kernel
theorem dX2_paperCode_2 : decode cX2_paperCode 2 = .ok (.iload_n 1, 1) := by decide +kernel
theorem dX2_paperCode_3 : decode cX2_paperCode 3 = .ok (.iconst (-1), 1) := by decide +kernel
theorem dX2_paperCode_4 : decode cX2_paperCode 4 = .ok (.invokevirtual 140, 3) := by decide +kernel
theorem dX2_paperCode_7 : decode cX2_paperCode 7 = .ok (.invokevirtual 134, 3) := by decide +kernel
theorem dX2_paperCode_10 : decode cX2_paperCode 10 = .ok (.ireturn, 1) := by decide +kernel
theorem dX2_forgives_0 : decode cX2_forgives 0 = .ok (.aload_n 0, 1) := by decide +kernel
theorem dX2_forgives_1 : decode cX2_forgives 1 = .ok (.aload_n 0, 1) := by decide +kernel
theorem dX2_forgives_2 : decode cX2_forgives 2 = .ok (.iload_n 1, 1) := by decide +kernel
theorem dX2_forgives_3 : decode cX2_forgives 3 = .ok (.iload_n 2, 1) := by decide +kernel
theorem dX2_forgives_4 : decode cX2_forgives 4 = .ok (.invokevirtual 140, 3) := by decide +kernel
theorem dX2_forgives_7 : decode cX2_forgives 7 = .ok (.invokevirtual 134, 3) := by decide +kernel
theorem dX2_forgives_10 : decode cX2_forgives 10 = .ok (.aload_n 0, 1) := by decide +kernel
theorem dX2_forgives_11 : decode cX2_forgives 11 = .ok (.iload_n 1, 1) := by decide +kernel
theorem dX2_forgives_12 : decode cX2_forgives 12 = .ok (.invokevirtual 144, 3) := by decide +kernel
theorem dX2_forgives_15 : decode cX2_forgives 15 = .ok (.if_icmp .ne 7, 3) := by decide +kernel
theorem dX2_forgives_18 : decode cX2_forgives 18 = .ok (.iconst 1, 1) := by decide +kernel
theorem dX2_forgives_19 : decode cX2_forgives 19 = .ok (.goto 4, 3) := by decide +kernel
theorem dX2_forgives_22 : decode cX2_forgives 22 = .ok (.iconst 0, 1) := by decide +kernel
theorem dX2_forgives_23 : decode cX2_forgives 23 = .ok (.ireturn, 1) := by decide +kernel
theorem dX2_slackOf_0 : decode cX2_slackOf 0 = .ok (.aload_n 0, 1) := by decide +kernel
theorem dX2_slackOf_1 : decode cX2_slackOf 1 = .ok (.iload_n 1, 1) := by decide +kernel
theorem dX2_slackOf_2 : decode cX2_slackOf 2 = .ok (.invokevirtual 82, 3) := by decide +kernel
theorem dX2_slackOf_5 : decode cX2_slackOf 5 = .ok (.aload_n 0, 1) := by decide +kernel
theorem dX2_slackOf_6 : decode cX2_slackOf 6 = .ok (.getfield 28, 3) := by decide +kernel
theorem dX2_slackOf_9 : decode cX2_slackOf 9 = .ok (.isub, 1) := by decide +kernel
theorem dX2_slackOf_10 : decode cX2_slackOf 10 = .ok (.istore_n 2, 1) := by decide +kernel
theorem dX2_slackOf_11 : decode cX2_slackOf 11 = .ok (.iconst 0, 1) := by decide +kernel
theorem dX2_slackOf_12 : decode cX2_slackOf 12 = .ok (.istore_n 3, 1) := by decide +kernel
theorem dX2_slackOf_13 : decode cX2_slackOf 13 = .ok (.iload_n 3, 1) := by decide +kernel
theorem dX2_slackOf_14 : decode cX2_slackOf 14 = .ok (.sipush 2000, 3) := by decide +kernel
theorem dX2_slackOf_17 : decode cX2_slackOf 17 = .ok (.if_icmp .gt 35, 3) := by decide +kernel
theorem dX2_slackOf_20 : decode cX2_slackOf 20 = .ok (.aload_n 0, 1) := by decide +kernel
theorem dX2_slackOf_21 : decode cX2_slackOf 21 = .ok (.iload_n 2, 1) := by decide +kernel
theorem dX2_slackOf_22 : decode cX2_slackOf 22 = .ok (.iload_n 3, 1) := by decide +kernel
theorem dX2_slackOf_23 : decode cX2_slackOf 23 = .ok (.isub, 1) := by decide +kernel
theorem dX2_slackOf_24 : decode cX2_slackOf 24 = .ok (.iload_n 1, 1) := by decide +kernel
theorem dX2_slackOf_25 : decode cX2_slackOf 25 = .ok (.invokevirtual 147, 3) := by decide +kernel
theorem dX2_slackOf_28 : decode cX2_slackOf 28 = .ok (.ifCond .eq 14, 3) := by decide +kernel
theorem dX2_slackOf_31 : decode cX2_slackOf 31 = .ok (.aload_n 0, 1) := by decide +kernel
theorem dX2_slackOf_32 : decode cX2_slackOf 32 = .ok (.iload_n 2, 1) := by decide +kernel
theorem dX2_slackOf_33 : decode cX2_slackOf 33 = .ok (.iload_n 3, 1) := by decide +kernel
theorem dX2_slackOf_34 : decode cX2_slackOf 34 = .ok (.iadd, 1) := by decide +kernel
theorem dX2_slackOf_35 : decode cX2_slackOf 35 = .ok (.iload_n 1, 1) := by decide +kernel
theorem dX2_slackOf_36 : decode cX2_slackOf 36 = .ok (.invokevirtual 147, 3) := by decide +kernel
theorem dX2_slackOf_39 : decode cX2_slackOf 39 = .ok (.ifCond .ne 7, 3) := by decide +kernel
theorem dX2_slackOf_42 : decode cX2_slackOf 42 = .ok (.iload_n 3, 1) := by decide +kernel
theorem dX2_slackOf_43 : decode cX2_slackOf 43 = .ok (.iconst 1, 1) := by decide +kernel
theorem dX2_slackOf_44 : decode cX2_slackOf 44 = .ok (.isub, 1) := by decide +kernel
theorem dX2_slackOf_45 : decode cX2_slackOf 45 = .ok (.ireturn, 1) := by decide +kernel
theorem dX2_slackOf_46 : decode cX2_slackOf 46 = .ok (.iinc 3 1, 3) := by decide +kernel
theorem dX2_slackOf_49 : decode cX2_slackOf 49 = .ok (.goto (-36), 3) := by decide +kernel
theorem dX2_slackOf_52 : decode cX2_slackOf 52 = .ok (.sipush 2000, 3) := by decide +kernel
theorem dX2_slackOf_55 : decode cX2_slackOf 55 = .ok (.ireturn, 1) := by decide +kernel
theorem dX2_learnFrom_0 : decode cX2_learnFrom 0 = .ok (.iconst 0, 1) := by decide +kernel
theorem dX2_learnFrom_1 : decode cX2_learnFrom 1 = .ok (.istore 4, 2) := by decide +kernel
theorem dX2_learnFrom_3 : decode cX2_learnFrom 3 = .ok (.iload 4, 2) := by decide +kernel
theorem dX2_learnFrom_5 : decode cX2_learnFrom 5 = .ok (.iload_n 1, 1) := by decide +kernel
theorem dX2_learnFrom_6 : decode cX2_learnFrom 6 = .ok (.if_icmp .ge 32, 3) := by decide +kernel
theorem dX2_learnFrom_9 : decode cX2_learnFrom 9 = .ok (.iload 4, 2) := by decide +kernel
theorem dX2_learnFrom_11 : decode cX2_learnFrom 11 = .ok (.aload_n 0, 1) := by decide +kernel
theorem dX2_learnFrom_12 : decode cX2_learnFrom 12 = .ok (.getfield 9, 3) := by decide +kernel
theorem dX2_learnFrom_15 : decode cX2_learnFrom 15 = .ok (.if_icmp .ge 23, 3) := by decide +kernel
theorem dX2_learnFrom_18 : decode cX2_learnFrom 18 = .ok (.aload_n 0, 1) := by decide +kernel
theorem dX2_learnFrom_19 : decode cX2_learnFrom 19 = .ok (.getfield 22, 3) := by decide +kernel
theorem dX2_learnFrom_22 : decode cX2_learnFrom 22 = .ok (.iload 4, 2) := by decide +kernel
theorem dX2_learnFrom_24 : decode cX2_learnFrom 24 = .ok (.aload_n 0, 1) := by decide +kernel
theorem dX2_learnFrom_25 : decode cX2_learnFrom 25 = .ok (.getfield 15, 3) := by decide +kernel
theorem dX2_learnFrom_28 : decode cX2_learnFrom 28 = .ok (.iload 4, 2) := by decide +kernel
theorem dX2_learnFrom_30 : decode cX2_learnFrom 30 = .ok (.iaload, 1) := by decide +kernel
theorem dX2_learnFrom_31 : decode cX2_learnFrom 31 = .ok (.iastore, 1) := by decide +kernel
theorem dX2_learnFrom_32 : decode cX2_learnFrom 32 = .ok (.iinc 4 1, 3) := by decide +kernel
theorem dX2_learnFrom_35 : decode cX2_learnFrom 35 = .ok (.goto (-32), 3) := by decide +kernel
theorem dX2_learnFrom_38 : decode cX2_learnFrom 38 = .ok (.iload_n 1, 1) := by decide +kernel
theorem dX2_learnFrom_39 : decode cX2_learnFrom 39 = .ok (.istore 4, 2) := by decide +kernel
theorem dX2_learnFrom_41 : decode cX2_learnFrom 41 = .ok (.iload 4, 2) := by decide +kernel
theorem dX2_learnFrom_43 : decode cX2_learnFrom 43 = .ok (.aload_n 0, 1) := by decide +kernel
theorem dX2_learnFrom_44 : decode cX2_learnFrom 44 = .ok (.getfield 9, 3) := by decide +kernel
theorem dX2_learnFrom_47 : decode cX2_learnFrom 47 = .ok (.if_icmp .ge 97, 3) := by decide +kernel
theorem dX2_learnFrom_50 : decode cX2_learnFrom 50 = .ok (.lconst 0, 1) := by decide +kernel
theorem dX2_learnFrom_51 : decode cX2_learnFrom 51 = .ok (.lstore 5, 2) := by decide +kernel
theorem dX2_learnFrom_53 : decode cX2_learnFrom 53 = .ok (.iconst 0, 1) := by decide +kernel
theorem dX2_learnFrom_54 : decode cX2_learnFrom 54 = .ok (.istore 7, 2) := by decide +kernel
theorem dX2_learnFrom_56 : decode cX2_learnFrom 56 = .ok (.iload 7, 2) := by decide +kernel
theorem dX2_learnFrom_58 : decode cX2_learnFrom 58 = .ok (.iload_n 2, 1) := by decide +kernel
theorem dX2_learnFrom_59 : decode cX2_learnFrom 59 = .ok (.if_icmp .ge 64, 3) := by decide +kernel
theorem dX2_learnFrom_62 : decode cX2_learnFrom 62 = .ok (.aload_n 0, 1) := by decide +kernel
theorem dX2_learnFrom_63 : decode cX2_learnFrom 63 = .ok (.aload_n 0, 1) := by decide +kernel
theorem dX2_learnFrom_64 : decode cX2_learnFrom 64 = .ok (.iload 4, 2) := by decide +kernel
theorem dX2_learnFrom_66 : decode cX2_learnFrom 66 = .ok (.invokevirtual 82, 3) := by decide +kernel
theorem dX2_learnFrom_69 : decode cX2_learnFrom 69 = .ok (.aload_n 0, 1) := by decide +kernel
theorem dX2_learnFrom_70 : decode cX2_learnFrom 70 = .ok (.getfield 28, 3) := by decide +kernel
theorem dX2_learnFrom_73 : decode cX2_learnFrom 73 = .ok (.iload 4, 2) := by decide +kernel
theorem dX2_learnFrom_75 : decode cX2_learnFrom 75 = .ok (.aload_n 3, 1) := by decide +kernel
theorem dX2_learnFrom_76 : decode cX2_learnFrom 76 = .ok (.invokevirtual 150, 3) := by decide +kernel
theorem dX2_learnFrom_79 : decode cX2_learnFrom 79 = .ok (.lload 5, 2) := by decide +kernel
theorem dX2_learnFrom_81 : decode cX2_learnFrom 81 = .ok (.aload_n 3, 1) := by decide +kernel
theorem dX2_learnFrom_82 : decode cX2_learnFrom 82 = .ok (.getfield 119, 3) := by decide +kernel
theorem dX2_learnFrom_85 : decode cX2_learnFrom 85 = .ok (.i2l, 1) := by decide +kernel
theorem dX2_learnFrom_86 : decode cX2_learnFrom 86 = .ok (.ladd, 1) := by decide +kernel
theorem dX2_learnFrom_87 : decode cX2_learnFrom 87 = .ok (.lstore 5, 2) := by decide +kernel
theorem dX2_learnFrom_89 : decode cX2_learnFrom 89 = .ok (.aload_n 0, 1) := by decide +kernel
theorem dX2_learnFrom_90 : decode cX2_learnFrom 90 = .ok (.aload_n 0, 1) := by decide +kernel
theorem dX2_learnFrom_91 : decode cX2_learnFrom 91 = .ok (.iload 4, 2) := by decide +kernel
theorem dX2_learnFrom_93 : decode cX2_learnFrom 93 = .ok (.invokevirtual 82, 3) := by decide +kernel
theorem dX2_learnFrom_96 : decode cX2_learnFrom 96 = .ok (.aload_n 0, 1) := by decide +kernel
theorem dX2_learnFrom_97 : decode cX2_learnFrom 97 = .ok (.getfield 28, 3) := by decide +kernel
theorem dX2_learnFrom_100 : decode cX2_learnFrom 100 = .ok (.ineg, 1) := by decide +kernel
theorem dX2_learnFrom_101 : decode cX2_learnFrom 101 = .ok (.iload 4, 2) := by decide +kernel
theorem dX2_learnFrom_103 : decode cX2_learnFrom 103 = .ok (.aload_n 3, 1) := by decide +kernel
theorem dX2_learnFrom_104 : decode cX2_learnFrom 104 = .ok (.invokevirtual 150, 3) := by decide +kernel
theorem dX2_learnFrom_107 : decode cX2_learnFrom 107 = .ok (.lload 5, 2) := by decide +kernel
theorem dX2_learnFrom_109 : decode cX2_learnFrom 109 = .ok (.aload_n 3, 1) := by decide +kernel
theorem dX2_learnFrom_110 : decode cX2_learnFrom 110 = .ok (.getfield 119, 3) := by decide +kernel
theorem dX2_learnFrom_113 : decode cX2_learnFrom 113 = .ok (.i2l, 1) := by decide +kernel
theorem dX2_learnFrom_114 : decode cX2_learnFrom 114 = .ok (.ladd, 1) := by decide +kernel
theorem dX2_learnFrom_115 : decode cX2_learnFrom 115 = .ok (.lstore 5, 2) := by decide +kernel
theorem dX2_learnFrom_117 : decode cX2_learnFrom 117 = .ok (.iinc 7 1, 3) := by decide +kernel
theorem dX2_learnFrom_120 : decode cX2_learnFrom 120 = .ok (.goto (-64), 3) := by decide +kernel
theorem dX2_learnFrom_123 : decode cX2_learnFrom 123 = .ok (.aload_n 0, 1) := by decide +kernel
theorem dX2_learnFrom_124 : decode cX2_learnFrom 124 = .ok (.getfield 22, 3) := by decide +kernel
theorem dX2_learnFrom_127 : decode cX2_learnFrom 127 = .ok (.iload 4, 2) := by decide +kernel
theorem dX2_learnFrom_129 : decode cX2_learnFrom 129 = .ok (.lload 5, 2) := by decide +kernel
theorem dX2_learnFrom_131 : decode cX2_learnFrom 131 = .ok (.iload_n 2, 1) := by decide +kernel
theorem dX2_learnFrom_132 : decode cX2_learnFrom 132 = .ok (.iconst 2, 1) := by decide +kernel
theorem dX2_learnFrom_133 : decode cX2_learnFrom 133 = .ok (.imul, 1) := by decide +kernel
theorem dX2_learnFrom_134 : decode cX2_learnFrom 134 = .ok (.invokestatic 154, 3) := by decide +kernel
theorem dX2_learnFrom_137 : decode cX2_learnFrom 137 = .ok (.iastore, 1) := by decide +kernel
theorem dX2_learnFrom_138 : decode cX2_learnFrom 138 = .ok (.iinc 4 1, 3) := by decide +kernel
theorem dX2_learnFrom_141 : decode cX2_learnFrom 141 = .ok (.goto (-100), 3) := by decide +kernel
theorem dX2_learnFrom_144 : decode cX2_learnFrom 144 = .ok (.return_, 1) := by decide +kernel
theorem dX2_passHour_0 : decode cX2_passHour 0 = .ok (.iconst 0, 1) := by decide +kernel
theorem dX2_passHour_1 : decode cX2_passHour 1 = .ok (.istore_n 1, 1) := by decide +kernel
theorem dX2_passHour_2 : decode cX2_passHour 2 = .ok (.iconst 0, 1) := by decide +kernel
theorem dX2_passHour_3 : decode cX2_passHour 3 = .ok (.istore_n 2, 1) := by decide +kernel
theorem dX2_passHour_4 : decode cX2_passHour 4 = .ok (.iload_n 2, 1) := by decide +kernel
theorem dX2_passHour_5 : decode cX2_passHour 5 = .ok (.aload_n 0, 1) := by decide +kernel
theorem dX2_passHour_6 : decode cX2_passHour 6 = .ok (.getfield 9, 3) := by decide +kernel
theorem dX2_passHour_9 : decode cX2_passHour 9 = .ok (.if_icmp .ge 86, 3) := by decide +kernel
theorem dX2_passHour_12 : decode cX2_passHour 12 = .ok (.bipush (-9), 2) := by decide +kernel
theorem dX2_passHour_14 : decode cX2_passHour 14 = .ok (.bipush 9, 2) := by decide +kernel
theorem dX2_passHour_16 : decode cX2_passHour 16 = .ok (.aload_n 0, 1) := by decide +kernel
theorem dX2_passHour_17 : decode cX2_passHour 17 = .ok (.getfield 55, 3) := by decide +kernel
theorem dX2_passHour_20 : decode cX2_passHour 20 = .ok (.aload_n 0, 1) := by decide +kernel
theorem dX2_passHour_21 : decode cX2_passHour 21 = .ok (.iload_n 2, 1) := by decide +kernel
theorem dX2_passHour_22 : decode cX2_passHour 22 = .ok (.invokevirtual 158, 3) := by decide +kernel
theorem dX2_passHour_25 : decode cX2_passHour 25 = .ok (.invokestatic 162, 3) := by decide +kernel
theorem dX2_passHour_28 : decode cX2_passHour 28 = .ok (.invokestatic 167, 3) := by decide +kernel
theorem dX2_passHour_31 : decode cX2_passHour 31 = .ok (.istore_n 3, 1) := by decide +kernel
theorem dX2_passHour_32 : decode cX2_passHour 32 = .ok (.bipush (-99), 2) := by decide +kernel
theorem dX2_passHour_34 : decode cX2_passHour 34 = .ok (.bipush 99, 2) := by decide +kernel
theorem dX2_passHour_36 : decode cX2_passHour 36 = .ok (.aload_n 0, 1) := by decide +kernel
theorem dX2_passHour_37 : decode cX2_passHour 37 = .ok (.getfield 19, 3) := by decide +kernel
theorem dX2_passHour_40 : decode cX2_passHour 40 = .ok (.iload_n 2, 1) := by decide +kernel
theorem dX2_passHour_41 : decode cX2_passHour 41 = .ok (.iaload, 1) := by decide +kernel
theorem dX2_passHour_42 : decode cX2_passHour 42 = .ok (.iload_n 3, 1) := by decide +kernel
theorem dX2_passHour_43 : decode cX2_passHour 43 = .ok (.iadd, 1) := by decide +kernel
theorem dX2_passHour_44 : decode cX2_passHour 44 = .ok (.invokestatic 162, 3) := by decide +kernel
theorem dX2_passHour_47 : decode cX2_passHour 47 = .ok (.invokestatic 167, 3) := by decide +kernel
theorem dX2_passHour_50 : decode cX2_passHour 50 = .ok (.istore 4, 2) := by decide +kernel
theorem dX2_passHour_52 : decode cX2_passHour 52 = .ok (.iload 4, 2) := by decide +kernel
theorem dX2_passHour_54 : decode cX2_passHour 54 = .ok (.iconst 1, 1) := by decide +kernel
theorem dX2_passHour_55 : decode cX2_passHour 55 = .ok (.aload_n 0, 1) := by decide +kernel
theorem dX2_passHour_56 : decode cX2_passHour 56 = .ok (.getfield 15, 3) := by decide +kernel
theorem dX2_passHour_59 : decode cX2_passHour 59 = .ok (.iload_n 2, 1) := by decide +kernel
theorem dX2_passHour_60 : decode cX2_passHour 60 = .ok (.iaload, 1) := by decide +kernel
theorem dX2_passHour_61 : decode cX2_passHour 61 = .ok (.isub, 1) := by decide +kernel
theorem dX2_passHour_62 : decode cX2_passHour 62 = .ok (.invokestatic 167, 3) := by decide +kernel
theorem dX2_passHour_65 : decode cX2_passHour 65 = .ok (.istore 4, 2) := by decide +kernel
theorem dX2_passHour_67 : decode cX2_passHour 67 = .ok (.iload 4, 2) := by decide +kernel
theorem dX2_passHour_69 : decode cX2_passHour 69 = .ok (.aload_n 0, 1) := by decide +kernel
theorem dX2_passHour_70 : decode cX2_passHour 70 = .ok (.getfield 19, 3) := by decide +kernel
theorem dX2_passHour_73 : decode cX2_passHour 73 = .ok (.iload_n 2, 1) := by decide +kernel
theorem dX2_passHour_74 : decode cX2_passHour 74 = .ok (.iaload, 1) := by decide +kernel
theorem dX2_passHour_75 : decode cX2_passHour 75 = .ok (.if_icmp .eq 6, 3) := by decide +kernel
theorem dX2_passHour_78 : decode cX2_passHour 78 = .ok (.iinc 1 1, 3) := by decide +kernel
theorem dX2_passHour_81 : decode cX2_passHour 81 = .ok (.aload_n 0, 1) := by decide +kernel
theorem dX2_passHour_82 : decode cX2_passHour 82 = .ok (.getfield 19, 3) := by decide +kernel
theorem dX2_passHour_85 : decode cX2_passHour 85 = .ok (.iload_n 2, 1) := by decide +kernel
theorem dX2_passHour_86 : decode cX2_passHour 86 = .ok (.iload 4, 2) := by decide +kernel
theorem dX2_passHour_88 : decode cX2_passHour 88 = .ok (.iastore, 1) := by decide +kernel
theorem dX2_passHour_89 : decode cX2_passHour 89 = .ok (.iinc 2 1, 3) := by decide +kernel
theorem dX2_passHour_92 : decode cX2_passHour 92 = .ok (.goto (-88), 3) := by decide +kernel
theorem dX2_passHour_95 : decode cX2_passHour 95 = .ok (.aload_n 0, 1) := by decide +kernel
theorem dX2_passHour_96 : decode cX2_passHour 96 = .ok (.dup, 1) := by decide +kernel
theorem dX2_passHour_97 : decode cX2_passHour 97 = .ok (.getfield 49, 3) := by decide +kernel
theorem dX2_passHour_100 : decode cX2_passHour 100 = .ok (.iconst 1, 1) := by decide +kernel
theorem dX2_passHour_101 : decode cX2_passHour 101 = .ok (.iadd, 1) := by decide +kernel
theorem dX2_passHour_102 : decode cX2_passHour 102 = .ok (.putfield 49, 3) := by decide +kernel
theorem dX2_passHour_105 : decode cX2_passHour 105 = .ok (.iload_n 1, 1) := by decide +kernel
theorem dX2_passHour_106 : decode cX2_passHour 106 = .ok (.ireturn, 1) := by decide +kernel
theorem dX2_drawOffs_0 : decode cX2_drawOffs 0 = .ok (.iconst 0, 1) := by decide +kernel
theorem dX2_drawOffs_1 : decode cX2_drawOffs 1 = .ok (.istore_n 2, 1) := by decide +kernel
theorem dX2_drawOffs_2 : decode cX2_drawOffs 2 = .ok (.iload_n 2, 1) := by decide +kernel
theorem dX2_drawOffs_3 : decode cX2_drawOffs 3 = .ok (.aload_n 0, 1) := by decide +kernel
theorem dX2_drawOffs_4 : decode cX2_drawOffs 4 = .ok (.getfield 9, 3) := by decide +kernel
theorem dX2_drawOffs_7 : decode cX2_drawOffs 7 = .ok (.if_icmp .ge 56, 3) := by decide +kernel
theorem dX2_drawOffs_10 : decode cX2_drawOffs 10 = .ok (.aload_n 0, 1) := by decide +kernel
theorem dX2_drawOffs_11 : decode cX2_drawOffs 11 = .ok (.getfield 19, 3) := by decide +kernel
theorem dX2_drawOffs_14 : decode cX2_drawOffs 14 = .ok (.iload_n 2, 1) := by decide +kernel
theorem dX2_drawOffs_15 : decode cX2_drawOffs 15 = .ok (.aload_n 0, 1) := by decide +kernel
theorem dX2_drawOffs_16 : decode cX2_drawOffs 16 = .ok (.iconst 2, 1) := by decide +kernel
theorem dX2_drawOffs_17 : decode cX2_drawOffs 17 = .ok (.iload_n 1, 1) := by decide +kernel
theorem dX2_drawOffs_18 : decode cX2_drawOffs 18 = .ok (.imul, 1) := by decide +kernel
theorem dX2_drawOffs_19 : decode cX2_drawOffs 19 = .ok (.iconst 1, 1) := by decide +kernel
theorem dX2_drawOffs_20 : decode cX2_drawOffs 20 = .ok (.iadd, 1) := by decide +kernel
theorem dX2_drawOffs_21 : decode cX2_drawOffs 21 = .ok (.invokevirtual 96, 3) := by decide +kernel
theorem dX2_drawOffs_24 : decode cX2_drawOffs 24 = .ok (.iload_n 1, 1) := by decide +kernel
theorem dX2_drawOffs_25 : decode cX2_drawOffs 25 = .ok (.isub, 1) := by decide +kernel
theorem dX2_drawOffs_26 : decode cX2_drawOffs 26 = .ok (.iconst 1, 1) := by decide +kernel
theorem dX2_drawOffs_27 : decode cX2_drawOffs 27 = .ok (.aload_n 0, 1) := by decide +kernel
theorem dX2_drawOffs_28 : decode cX2_drawOffs 28 = .ok (.getfield 15, 3) := by decide +kernel
theorem dX2_drawOffs_31 : decode cX2_drawOffs 31 = .ok (.iload_n 2, 1) := by decide +kernel
theorem dX2_drawOffs_32 : decode cX2_drawOffs 32 = .ok (.iaload, 1) := by decide +kernel
theorem dX2_drawOffs_33 : decode cX2_drawOffs 33 = .ok (.isub, 1) := by decide +kernel
theorem dX2_drawOffs_34 : decode cX2_drawOffs 34 = .ok (.invokestatic 167, 3) := by decide +kernel
theorem dX2_drawOffs_37 : decode cX2_drawOffs 37 = .ok (.iastore, 1) := by decide +kernel
theorem dX2_drawOffs_38 : decode cX2_drawOffs 38 = .ok (.aload_n 0, 1) := by decide +kernel
theorem dX2_drawOffs_39 : decode cX2_drawOffs 39 = .ok (.getfield 25, 3) := by decide +kernel
theorem dX2_drawOffs_42 : decode cX2_drawOffs 42 = .ok (.iload_n 2, 1) := by decide +kernel
theorem dX2_drawOffs_43 : decode cX2_drawOffs 43 = .ok (.iconst (-1), 1) := by decide +kernel
theorem dX2_drawOffs_44 : decode cX2_drawOffs 44 = .ok (.iastore, 1) := by decide +kernel
theorem dX2_drawOffs_45 : decode cX2_drawOffs 45 = .ok (.aload_n 0, 1) := by decide +kernel
theorem dX2_drawOffs_46 : decode cX2_drawOffs 46 = .ok (.getfield 22, 3) := by decide +kernel
theorem dX2_drawOffs_49 : decode cX2_drawOffs 49 = .ok (.iload_n 2, 1) := by decide +kernel
theorem dX2_drawOffs_50 : decode cX2_drawOffs 50 = .ok (.aload_n 0, 1) := by decide +kernel
theorem dX2_drawOffs_51 : decode cX2_drawOffs 51 = .ok (.getfield 15, 3) := by decide +kernel
theorem dX2_drawOffs_54 : decode cX2_drawOffs 54 = .ok (.iload_n 2, 1) := by decide +kernel
theorem dX2_drawOffs_55 : decode cX2_drawOffs 55 = .ok (.iaload, 1) := by decide +kernel
theorem dX2_drawOffs_56 : decode cX2_drawOffs 56 = .ok (.iastore, 1) := by decide +kernel
theorem dX2_drawOffs_57 : decode cX2_drawOffs 57 = .ok (.iinc 2 1, 3) := by decide +kernel
theorem dX2_drawOffs_60 : decode cX2_drawOffs 60 = .ok (.goto (-58), 3) := by decide +kernel
theorem dX2_drawOffs_63 : decode cX2_drawOffs 63 = .ok (.return_, 1) := by decide +kernel
theorem dX2_drawWeights_0 : decode cX2_drawWeights 0 = .ok (.aload_n 0, 1) := by decide +kernel
theorem dX2_drawWeights_1 : decode cX2_drawWeights 1 = .ok (.iconst 0, 1) := by decide +kernel
theorem dX2_drawWeights_2 : decode cX2_drawWeights 2 = .ok (.putfield 9, 3) := by decide +kernel
theorem dX2_drawWeights_5 : decode cX2_drawWeights 5 = .ok (.iconst 0, 1) := by decide +kernel
theorem dX2_drawWeights_6 : decode cX2_drawWeights 6 = .ok (.istore_n 3, 1) := by decide +kernel
theorem dX2_drawWeights_7 : decode cX2_drawWeights 7 = .ok (.iconst 0, 1) := by decide +kernel
theorem dX2_drawWeights_8 : decode cX2_drawWeights 8 = .ok (.istore 4, 2) := by decide +kernel
theorem dX2_drawWeights_10 : decode cX2_drawWeights 10 = .ok (.iload 4, 2) := by decide +kernel
theorem dX2_drawWeights_12 : decode cX2_drawWeights 12 = .ok (.iload_n 1, 1) := by decide +kernel
theorem dX2_drawWeights_13 : decode cX2_drawWeights 13 = .ok (.if_icmp .ge 40, 3) := by decide +kernel
theorem dX2_drawWeights_16 : decode cX2_drawWeights 16 = .ok (.iload 4, 2) := by decide +kernel
theorem dX2_drawWeights_18 : decode cX2_drawWeights 18 = .ok (.ifCond .ne 7, 3) := by decide +kernel
theorem dX2_drawWeights_21 : decode cX2_drawWeights 21 = .ok (.iconst 1, 1) := by decide +kernel
theorem dX2_drawWeights_22 : decode cX2_drawWeights 22 = .ok (.goto 11, 3) := by decide +kernel
theorem dX2_drawWeights_25 : decode cX2_drawWeights 25 = .ok (.iconst 1, 1) := by decide +kernel
theorem dX2_drawWeights_26 : decode cX2_drawWeights 26 = .ok (.iload_n 2, 1) := by decide +kernel
theorem dX2_drawWeights_27 : decode cX2_drawWeights 27 = .ok (.iload_n 3, 1) := by decide +kernel
theorem dX2_drawWeights_28 : decode cX2_drawWeights 28 = .ok (.imul, 1) := by decide +kernel
theorem dX2_drawWeights_29 : decode cX2_drawWeights 29 = .ok (.bipush 100, 2) := by decide +kernel
theorem dX2_drawWeights_31 : decode cX2_drawWeights 31 = .ok (.idiv, 1) := by decide +kernel
theorem dX2_drawWeights_32 : decode cX2_drawWeights 32 = .ok (.iadd, 1) := by decide +kernel
theorem dX2_drawWeights_33 : decode cX2_drawWeights 33 = .ok (.istore 5, 2) := by decide +kernel
theorem dX2_drawWeights_35 : decode cX2_drawWeights 35 = .ok (.aload_n 0, 1) := by decide +kernel
theorem dX2_drawWeights_36 : decode cX2_drawWeights 36 = .ok (.iload 5, 2) := by decide +kernel
theorem dX2_drawWeights_38 : decode cX2_drawWeights 38 = .ok (.iconst 0, 1) := by decide +kernel
theorem dX2_drawWeights_39 : decode cX2_drawWeights 39 = .ok (.invokevirtual 170, 3) := by decide +kernel
theorem dX2_drawWeights_42 : decode cX2_drawWeights 42 = .ok (.iload_n 3, 1) := by decide +kernel
theorem dX2_drawWeights_43 : decode cX2_drawWeights 43 = .ok (.iload 5, 2) := by decide +kernel
theorem dX2_drawWeights_45 : decode cX2_drawWeights 45 = .ok (.iadd, 1) := by decide +kernel
theorem dX2_drawWeights_46 : decode cX2_drawWeights 46 = .ok (.istore_n 3, 1) := by decide +kernel
theorem dX2_drawWeights_47 : decode cX2_drawWeights 47 = .ok (.iinc 4 1, 3) := by decide +kernel
theorem dX2_drawWeights_50 : decode cX2_drawWeights 50 = .ok (.goto (-40), 3) := by decide +kernel
theorem dX2_drawWeights_53 : decode cX2_drawWeights 53 = .ok (.return_, 1) := by decide +kernel
theorem dX2_agreesWithSeen_0 : decode cX2_agreesWithSeen 0 = .ok (.iconst 0, 1) := by decide +kernel
theorem dX2_agreesWithSeen_1 : decode cX2_agreesWithSeen 1 = .ok (.istore_n 1, 1) := by decide +kernel
theorem dX2_agreesWithSeen_2 : decode cX2_agreesWithSeen 2 = .ok (.iload_n 1, 1) := by decide +kernel
theorem dX2_agreesWithSeen_3 : decode cX2_agreesWithSeen 3 = .ok (.aload_n 0, 1) := by decide +kernel
theorem dX2_agreesWithSeen_4 : decode cX2_agreesWithSeen 4 = .ok (.getfield 65, 3) := by decide +kernel
theorem dX2_agreesWithSeen_7 : decode cX2_agreesWithSeen 7 = .ok (.if_icmp .ge 30, 3) := by decide +kernel
theorem dX2_agreesWithSeen_10 : decode cX2_agreesWithSeen 10 = .ok (.aload_n 0, 1) := by decide +kernel
theorem dX2_agreesWithSeen_11 : decode cX2_agreesWithSeen 11 = .ok (.aload_n 0, 1) := by decide +kernel
theorem dX2_agreesWithSeen_12 : decode cX2_agreesWithSeen 12 = .ok (.getfield 59, 3) := by decide +kernel
theorem dX2_agreesWithSeen_15 : decode cX2_agreesWithSeen 15 = .ok (.iload_n 1, 1) := by decide +kernel
theorem dX2_agreesWithSeen_16 : decode cX2_agreesWithSeen 16 = .ok (.iaload, 1) := by decide +kernel
theorem dX2_agreesWithSeen_17 : decode cX2_agreesWithSeen 17 = .ok (.invokevirtual 144, 3) := by decide +kernel
theorem dX2_agreesWithSeen_20 : decode cX2_agreesWithSeen 20 = .ok (.aload_n 0, 1) := by decide +kernel
theorem dX2_agreesWithSeen_21 : decode cX2_agreesWithSeen 21 = .ok (.getfield 62, 3) := by decide +kernel
theorem dX2_agreesWithSeen_24 : decode cX2_agreesWithSeen 24 = .ok (.iload_n 1, 1) := by decide +kernel
theorem dX2_agreesWithSeen_25 : decode cX2_agreesWithSeen 25 = .ok (.iaload, 1) := by decide +kernel
theorem dX2_agreesWithSeen_26 : decode cX2_agreesWithSeen 26 = .ok (.if_icmp .eq 5, 3) := by decide +kernel
theorem dX2_agreesWithSeen_29 : decode cX2_agreesWithSeen 29 = .ok (.iconst 0, 1) := by decide +kernel
theorem dX2_agreesWithSeen_30 : decode cX2_agreesWithSeen 30 = .ok (.ireturn, 1) := by decide +kernel
theorem dX2_agreesWithSeen_31 : decode cX2_agreesWithSeen 31 = .ok (.iinc 1 1, 3) := by decide +kernel
theorem dX2_agreesWithSeen_34 : decode cX2_agreesWithSeen 34 = .ok (.goto (-32), 3) := by decide +kernel
theorem dX2_agreesWithSeen_37 : decode cX2_agreesWithSeen 37 = .ok (.iconst 1, 1) := by decide +kernel
theorem dX2_agreesWithSeen_38 : decode cX2_agreesWithSeen 38 = .ok (.ireturn, 1) := by decide +kernel
theorem dX3_init_0 : decode cX3_init 0 = .ok (.aload_n 0, 1) := by decide +kernel
theorem dX3_init_1 : decode cX3_init 1 = .ok (.invokespecial 3, 3) := by decide +kernel
theorem dX3_init_4 : decode cX3_init 4 = .ok (.aload_n 0, 1) := by decide +kernel
theorem dX3_init_5 : decode cX3_init 5 = .ok (.bipush 80, 2) := by decide +kernel
theorem dX3_init_7 : decode cX3_init 7 = .ok (.newarray .int, 2) := by decide +kernel
theorem dX3_init_9 : decode cX3_init 9 = .ok (.putfield 11, 3) := by decide +kernel
theorem dX3_init_12 : decode cX3_init 12 = .ok (.aload_n 0, 1) := by decide +kernel
theorem dX3_init_13 : decode cX3_init 13 = .ok (.bipush 80, 2) := by decide +kernel
theorem dX3_init_15 : decode cX3_init 15 = .ok (.newarray .int, 2) := by decide +kernel
theorem dX3_init_17 : decode cX3_init 17 = .ok (.putfield 15, 3) := by decide +kernel
theorem dX3_init_20 : decode cX3_init 20 = .ok (.aload_n 0, 1) := by decide +kernel
theorem dX3_init_21 : decode cX3_init 21 = .ok (.bipush 40, 2) := by decide +kernel
theorem dX3_init_23 : decode cX3_init 23 = .ok (.newarray .int, 2) := by decide +kernel
theorem dX3_init_25 : decode cX3_init 25 = .ok (.putfield 18, 3) := by decide +kernel
theorem dX3_init_28 : decode cX3_init 28 = .ok (.aload_n 0, 1) := by decide +kernel
theorem dX3_init_29 : decode cX3_init 29 = .ok (.iconst 0, 1) := by decide +kernel
theorem dX3_init_30 : decode cX3_init 30 = .ok (.putfield 21, 3) := by decide +kernel
theorem dX3_init_33 : decode cX3_init 33 = .ok (.aload_n 0, 1) := by decide +kernel
theorem dX3_init_34 : decode cX3_init 34 = .ok (.iconst 0, 1) := by decide +kernel
theorem dX3_init_35 : decode cX3_init 35 = .ok (.putfield 25, 3) := by decide +kernel
theorem dX3_init_38 : decode cX3_init 38 = .ok (.aload_n 0, 1) := by decide +kernel
theorem dX3_init_39 : decode cX3_init 39 = .ok (.iconst 0, 1) := by decide +kernel
theorem dX3_init_40 : decode cX3_init 40 = .ok (.putfield 28, 3) := by decide +kernel
theorem dX3_init_43 : decode cX3_init 43 = .ok (.return_, 1) := by decide +kernel
theorem dX3_read_0 : decode cX3_read 0 = .ok (.aload_n 1, 1) := by decide +kernel
theorem dX3_read_1 : decode cX3_read 1 = .ok (.invokevirtual 31, 3) := by decide +kernel
theorem dX3_read_4 : decode cX3_read 4 = .ok (.aload_n 1, 1) := by decide +kernel
theorem dX3_read_5 : decode cX3_read 5 = .ok (.getfield 36, 3) := by decide +kernel
theorem dX3_read_8 : decode cX3_read 8 = .ok (.ifCond .ne 4, 3) := by decide +kernel
theorem dX3_read_11 : decode cX3_read 11 = .ok (.return_, 1) := by decide +kernel
theorem dX3_read_12 : decode cX3_read 12 = .ok (.aload_n 0, 1) := by decide +kernel
theorem dX3_read_13 : decode cX3_read 13 = .ok (.aload_n 1, 1) := by decide +kernel
theorem dX3_read_14 : decode cX3_read 14 = .ok (.iconst 1, 1) := by decide +kernel
theorem dX3_read_15 : decode cX3_read 15 = .ok (.invokevirtual 39, 3) := by decide +kernel
theorem dX3_read_18 : decode cX3_read 18 = .ok (.aload_n 1, 1) := by decide +kernel
theorem dX3_read_19 : decode cX3_read 19 = .ok (.getfield 43, 3) := by decide +kernel
theorem dX3_read_22 : decode cX3_read 22 = .ok (.aload_n 1, 1) := by decide +kernel
theorem dX3_read_23 : decode cX3_read 23 = .ok (.getfield 36, 3) := by decide +kernel
theorem dX3_read_26 : decode cX3_read 26 = .ok (.if_icmp .ge 11, 3) := by decide +kernel
theorem dX3_read_29 : decode cX3_read 29 = .ok (.aload_n 1, 1) := by decide +kernel
theorem dX3_read_30 : decode cX3_read 30 = .ok (.aload_n 1, 1) := by decide +kernel
theorem dX3_read_31 : decode cX3_read 31 = .ok (.getfield 43, 3) := by decide +kernel
theorem dX3_read_34 : decode cX3_read 34 = .ok (.invokevirtual 46, 3) := by decide +kernel
theorem dX3_read_37 : decode cX3_read 37 = .ok (.return_, 1) := by decide +kernel
theorem dX3_readSum_0 : decode cX3_readSum 0 = .ok (.aload_n 0, 1) := by decide +kernel
theorem dX3_readSum_1 : decode cX3_readSum 1 = .ok (.aload_n 1, 1) := by decide +kernel
theorem dX3_readSum_2 : decode cX3_readSum 2 = .ok (.iload_n 2, 1) := by decide +kernel
theorem dX3_readSum_3 : decode cX3_readSum 3 = .ok (.invokevirtual 50, 3) := by decide +kernel
theorem dX3_readSum_6 : decode cX3_readSum 6 = .ok (.iconst 0, 1) := by decide +kernel
theorem dX3_readSum_7 : decode cX3_readSum 7 = .ok (.istore_n 3, 1) := by decide +kernel
theorem dX3_readSum_8 : decode cX3_readSum 8 = .ok (.iload_n 3, 1) := by decide +kernel
theorem dX3_readSum_9 : decode cX3_readSum 9 = .ok (.sipush 400, 3) := by decide +kernel
theorem dX3_readSum_12 : decode cX3_readSum 12 = .ok (.if_icmp .ge 60, 3) := by decide +kernel
theorem dX3_readSum_15 : decode cX3_readSum 15 = .ok (.aload_n 1, 1) := by decide +kernel
theorem dX3_readSum_16 : decode cX3_readSum 16 = .ok (.invokevirtual 53, 3) := by decide +kernel
theorem dX3_readSum_19 : decode cX3_readSum 19 = .ok (.ifCond .eq 53, 3) := by decide +kernel
theorem dX3_readSum_22 : decode cX3_readSum 22 = .ok (.aload_n 1, 1) := by decide +kernel
theorem dX3_readSum_23 : decode cX3_readSum 23 = .ok (.invokevirtual 57, 3) := by decide +kernel
theorem dX3_readSum_26 : decode cX3_readSum 26 = .ok (.istore 4, 2) := by decide +kernel
theorem dX3_readSum_28 : decode cX3_readSum 28 = .ok (.iload 4, 2) := by decide +kernel
theorem dX3_readSum_30 : decode cX3_readSum 30 = .ok (.bipush 43, 2) := by decide +kernel
theorem dX3_readSum_32 : decode cX3_readSum 32 = .ok (.if_icmp .eq 11, 3) := by decide +kernel
theorem dX3_readSum_35 : decode cX3_readSum 35 = .ok (.iload 4, 2) := by decide +kernel
theorem dX3_readSum_37 : decode cX3_readSum 37 = .ok (.bipush 45, 2) := by decide +kernel
theorem dX3_readSum_39 : decode cX3_readSum 39 = .ok (.if_icmp .eq 4, 3) := by decide +kernel
theorem dX3_readSum_42 : decode cX3_readSum 42 = .ok (.return_, 1) := by decide +kernel
theorem dX3_readSum_43 : decode cX3_readSum 43 = .ok (.aload_n 1, 1) := by decide +kernel
theorem dX3_readSum_44 : decode cX3_readSum 44 = .ok (.dup, 1) := by decide +kernel
theorem dX3_readSum_45 : decode cX3_readSum 45 = .ok (.getfield 43, 3) := by decide +kernel
theorem dX3_readSum_48 : decode cX3_readSum 48 = .ok (.iconst 1, 1) := by decide +kernel
theorem dX3_readSum_49 : decode cX3_readSum 49 = .ok (.iadd, 1) := by decide +kernel
theorem dX3_readSum_50 : decode cX3_readSum 50 = .ok (.putfield 43, 3) := by decide +kernel
theorem dX3_readSum_53 : decode cX3_readSum 53 = .ok (.aload_n 0, 1) := by decide +kernel
theorem dX3_readSum_54 : decode cX3_readSum 54 = .ok (.aload_n 1, 1) := by decide +kernel
theorem dX3_readSum_55 : decode cX3_readSum 55 = .ok (.iload_n 2, 1) := by decide +kernel
theorem dX3_readSum_56 : decode cX3_readSum 56 = .ok (.invokevirtual 50, 3) := by decide +kernel
theorem dX3_readSum_59 : decode cX3_readSum 59 = .ok (.aload_n 0, 1) := by decide +kernel
theorem dX3_readSum_60 : decode cX3_readSum 60 = .ok (.iload 4, 2) := by decide +kernel
theorem dX3_readSum_62 : decode cX3_readSum 62 = .ok (.iconst 0, 1) := by decide +kernel
theorem dX3_readSum_63 : decode cX3_readSum 63 = .ok (.invokevirtual 61, 3) := by decide +kernel
theorem dX3_readSum_66 : decode cX3_readSum 66 = .ok (.iinc 3 1, 3) := by decide +kernel
theorem dX3_readSum_69 : decode cX3_readSum 69 = .ok (.goto (-61), 3) := by decide +kernel
theorem dX3_readSum_72 : decode cX3_readSum 72 = .ok (.return_, 1) := by decide +kernel
theorem dX3_readProduct_0 : decode cX3_readProduct 0 = .ok (.aload_n 0, 1) := by decide +kernel
theorem dX3_readProduct_1 : decode cX3_readProduct 1 = .ok (.aload_n 1, 1) := by decide +kernel
theorem dX3_readProduct_2 : decode cX3_readProduct 2 = .ok (.iload_n 2, 1) := by decide +kernel
theorem dX3_readProduct_3 : decode cX3_readProduct 3 = .ok (.invokevirtual 65, 3) := by decide +kernel
theorem dX3_readProduct_6 : decode cX3_readProduct 6 = .ok (.iconst 0, 1) := by decide +kernel
theorem dX3_readProduct_7 : decode cX3_readProduct 7 = .ok (.istore_n 3, 1) := by decide +kernel
theorem dX3_readProduct_8 : decode cX3_readProduct 8 = .ok (.iload_n 3, 1) := by decide +kernel
theorem dX3_readProduct_9 : decode cX3_readProduct 9 = .ok (.sipush 400, 3) := by decide +kernel
theorem dX3_readProduct_12 : decode cX3_readProduct 12 = .ok (.if_icmp .ge 67, 3) := by decide +kernel
theorem dX3_readProduct_15 : decode cX3_readProduct 15 = .ok (.aload_n 1, 1) := by decide +kernel
theorem dX3_readProduct_16 : decode cX3_readProduct 16 = .ok (.invokevirtual 53, 3) := by decide +kernel
theorem dX3_readProduct_19 : decode cX3_readProduct 19 = .ok (.ifCond .eq 60, 3) := by decide +kernel
theorem dX3_readProduct_22 : decode cX3_readProduct 22 = .ok (.aload_n 1, 1) := by decide +kernel
theorem dX3_readProduct_23 : decode cX3_readProduct 23 = .ok (.invokevirtual 57, 3) := by decide +kernel
theorem dX3_readProduct_26 : decode cX3_readProduct 26 = .ok (.istore 4, 2) := by decide +kernel
theorem dX3_readProduct_28 : decode cX3_readProduct 28 = .ok (.iload 4, 2) := by decide +kernel
theorem dX3_readProduct_30 : decode cX3_readProduct 30 = .ok (.bipush 42, 2) := by decide +kernel
theorem dX3_readProduct_32 : decode cX3_readProduct 32 = .ok (.if_icmp .eq 18, 3) := by decide +kernel
theorem dX3_readProduct_35 : decode cX3_readProduct 35 = .ok (.iload 4, 2) := by decide +kernel
theorem dX3_readProduct_37 : decode cX3_readProduct 37 = .ok (.bipush 47, 2) := by decide +kernel
theorem dX3_readProduct_39 : decode cX3_readProduct 39 = .ok (.if_icmp .eq 11, 3) := by decide +kernel
theorem dX3_readProduct_42 : decode cX3_readProduct 42 = .ok (.iload 4, 2) := by decide +kernel
theorem dX3_readProduct_44 : decode cX3_readProduct 44 = .ok (.bipush 37, 2) := by decide +kernel
theorem dX3_readProduct_46 : decode cX3_readProduct 46 = .ok (.if_icmp .eq 4, 3) := by decide +kernel
theorem dX3_readProduct_49 : decode cX3_readProduct 49 = .ok (.return_, 1) := by decide +kernel
theorem dX3_readProduct_50 : decode cX3_readProduct 50 = .ok (.aload_n 1, 1) := by decide +kernel
theorem dX3_readProduct_51 : decode cX3_readProduct 51 = .ok (.dup, 1) := by decide +kernel
theorem dX3_readProduct_52 : decode cX3_readProduct 52 = .ok (.getfield 43, 3) := by decide +kernel
theorem dX3_readProduct_55 : decode cX3_readProduct 55 = .ok (.iconst 1, 1) := by decide +kernel
theorem dX3_readProduct_56 : decode cX3_readProduct 56 = .ok (.iadd, 1) := by decide +kernel
