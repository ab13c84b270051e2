theorem dX8_init_74 : decode cX8_init 74 = .ok (.newarray .int, 2) := by decide +kernel
theorem dX8_init_76 : decode cX8_init 76 = .ok (.putfield 35, 3) := by decide +kernel
theorem dX8_init_79 : decode cX8_init 79 = .ok (.aload_n 0, 1) := by decide +kernel
theorem dX8_init_80 : decode cX8_init 80 = .ok (.iconst 2, 1) := by decide +kernel
theorem dX8_init_81 : decode cX8_init 81 = .ok (.newarray .boolean, 2) := by decide +kernel
theorem dX8_init_83 : decode cX8_init 83 = .ok (.putfield 38, 3) := by decide +kernel
theorem dX8_init_86 : decode cX8_init 86 = .ok (.aload_n 0, 1) := by decide +kernel
theorem dX8_init_87 : decode cX8_init 87 = .ok (.bipush 76, 2) := by decide +kernel
theorem dX8_init_89 : decode cX8_init 89 = .ok (.newarray .int, 2) := by decide +kernel
theorem dX8_init_91 : decode cX8_init 91 = .ok (.putfield 41, 3) := by decide +kernel
theorem dX8_init_94 : decode cX8_init 94 = .ok (.aload_n 0, 1) := by decide +kernel
theorem dX8_init_95 : decode cX8_init 95 = .ok (.bipush 104, 2) := by decide +kernel
theorem dX8_init_97 : decode cX8_init 97 = .ok (.newarray .int, 2) := by decide +kernel
theorem dX8_init_99 : decode cX8_init 99 = .ok (.putfield 44, 3) := by decide +kernel
theorem dX8_init_102 : decode cX8_init 102 = .ok (.aload_n 0, 1) := by decide +kernel
theorem dX8_init_103 : decode cX8_init 103 = .ok (.bipush 6, 2) := by decide +kernel
theorem dX8_init_105 : decode cX8_init 105 = .ok (.newarray .int, 2) := by decide +kernel
theorem dX8_init_107 : decode cX8_init 107 = .ok (.putfield 47, 3) := by decide +kernel
theorem dX8_init_110 : decode cX8_init 110 = .ok (.aload_n 0, 1) := by decide +kernel
theorem dX8_init_111 : decode cX8_init 111 = .ok (.bipush 6, 2) := by decide +kernel
theorem dX8_init_113 : decode cX8_init 113 = .ok (.newarray .int, 2) := by decide +kernel
theorem dX8_init_115 : decode cX8_init 115 = .ok (.putfield 50, 3) := by decide +kernel
theorem dX8_init_118 : decode cX8_init 118 = .ok (.aload_n 0, 1) := by decide +kernel
theorem dX8_init_119 : decode cX8_init 119 = .ok (.sipush 201, 3) := by decide +kernel
theorem dX8_init_122 : decode cX8_init 122 = .ok (.newarray .int, 2) := by decide +kernel
theorem dX8_init_124 : decode cX8_init 124 = .ok (.putfield 53, 3) := by decide +kernel
theorem dX8_init_127 : decode cX8_init 127 = .ok (.aload_n 0, 1) := by decide +kernel
theorem dX8_init_128 : decode cX8_init 128 = .ok (.bipush 105, 2) := by decide +kernel
theorem dX8_init_130 : decode cX8_init 130 = .ok (.newarray .int, 2) := by decide +kernel
theorem dX8_init_132 : decode cX8_init 132 = .ok (.putfield 56, 3) := by decide +kernel
theorem dX8_init_135 : decode cX8_init 135 = .ok (.aload_n 0, 1) := by decide +kernel
theorem dX8_init_136 : decode cX8_init 136 = .ok (.bipush 105, 2) := by decide +kernel
theorem dX8_init_138 : decode cX8_init 138 = .ok (.newarray .int, 2) := by decide +kernel
theorem dX8_init_140 : decode cX8_init 140 = .ok (.putfield 59, 3) := by decide +kernel
theorem dX8_init_143 : decode cX8_init 143 = .ok (.aload_n 0, 1) := by decide +kernel
theorem dX8_init_144 : decode cX8_init 144 = .ok (.bipush 105, 2) := by decide +kernel
theorem dX8_init_146 : decode cX8_init 146 = .ok (.newarray .int, 2) := by decide +kernel
theorem dX8_init_148 : decode cX8_init 148 = .ok (.putfield 62, 3) := by decide +kernel
theorem dX8_init_151 : decode cX8_init 151 = .ok (.aload_n 0, 1) := by decide +kernel
theorem dX8_init_152 : decode cX8_init 152 = .ok (.bipush 104, 2) := by decide +kernel
theorem dX8_init_154 : decode cX8_init 154 = .ok (.newarray .int, 2) := by decide +kernel
theorem dX8_init_156 : decode cX8_init 156 = .ok (.putfield 65, 3) := by decide +kernel
theorem dX8_init_159 : decode cX8_init 159 = .ok (.aload_n 0, 1) := by decide +kernel
theorem dX8_init_160 : decode cX8_init 160 = .ok (.bipush 30, 2) := by decide +kernel
theorem dX8_init_162 : decode cX8_init 162 = .ok (.newarray .int, 2) := by decide +kernel
theorem dX8_init_164 : decode cX8_init 164 = .ok (.putfield 68, 3) := by decide +kernel
theorem dX8_init_167 : decode cX8_init 167 = .ok (.aload_n 0, 1) := by decide +kernel
theorem dX8_init_168 : decode cX8_init 168 = .ok (.bipush 30, 2) := by decide +kernel
theorem dX8_init_170 : decode cX8_init 170 = .ok (.newarray .int, 2) := by decide +kernel
theorem dX8_init_172 : decode cX8_init 172 = .ok (.putfield 71, 3) := by decide +kernel
theorem dX8_init_175 : decode cX8_init 175 = .ok (.aload_n 0, 1) := by decide +kernel
theorem dX8_init_176 : decode cX8_init 176 = .ok (.bipush 30, 2) := by decide +kernel
theorem dX8_init_178 : decode cX8_init 178 = .ok (.newarray .int, 2) := by decide +kernel
theorem dX8_init_180 : decode cX8_init 180 = .ok (.putfield 74, 3) := by decide +kernel
theorem dX8_init_183 : decode cX8_init 183 = .ok (.aload_n 0, 1) := by decide +kernel
theorem dX8_init_184 : decode cX8_init 184 = .ok (.bipush 30, 2) := by decide +kernel
theorem dX8_init_186 : decode cX8_init 186 = .ok (.newarray .int, 2) := by decide +kernel
theorem dX8_init_188 : decode cX8_init 188 = .ok (.putfield 77, 3) := by decide +kernel
theorem dX8_init_191 : decode cX8_init 191 = .ok (.aload_n 0, 1) := by decide +kernel
theorem dX8_init_192 : decode cX8_init 192 = .ok (.bipush 30, 2) := by decide +kernel
theorem dX8_init_194 : decode cX8_init 194 = .ok (.newarray .boolean, 2) := by decide +kernel
theorem dX8_init_196 : decode cX8_init 196 = .ok (.putfield 80, 3) := by decide +kernel
theorem dX8_init_199 : decode cX8_init 199 = .ok (.aload_n 0, 1) := by decide +kernel
theorem dX8_init_200 : decode cX8_init 200 = .ok (.bipush 104, 2) := by decide +kernel
theorem dX8_init_202 : decode cX8_init 202 = .ok (.newarray .int, 2) := by decide +kernel
theorem dX8_init_204 : decode cX8_init 204 = .ok (.putfield 83, 3) := by decide +kernel
theorem dX8_init_207 : decode cX8_init 207 = .ok (.aload_n 0, 1) := by decide +kernel
theorem dX8_init_208 : decode cX8_init 208 = .ok (.invokevirtual 86, 3) := by decide +kernel
theorem dX8_init_211 : decode cX8_init 211 = .ok (.return_, 1) := by decide +kernel
theorem dX8_begins_0 : decode cX8_begins 0 = .ok (.iconst 0, 1) := by decide +kernel
theorem dX8_begins_1 : decode cX8_begins 1 = .ok (.istore_n 1, 1) := by decide +kernel
theorem dX8_begins_2 : decode cX8_begins 2 = .ok (.iload_n 1, 1) := by decide +kernel
theorem dX8_begins_3 : decode cX8_begins 3 = .ok (.bipush 38, 2) := by decide +kernel
theorem dX8_begins_5 : decode cX8_begins 5 = .ok (.if_icmp .ge 36, 3) := by decide +kernel
theorem dX8_begins_8 : decode cX8_begins 8 = .ok (.aload_n 0, 1) := by decide +kernel
theorem dX8_begins_9 : decode cX8_begins 9 = .ok (.getfield 32, 3) := by decide +kernel
theorem dX8_begins_12 : decode cX8_begins 12 = .ok (.iload_n 1, 1) := by decide +kernel
theorem dX8_begins_13 : decode cX8_begins 13 = .ok (.iload_n 1, 1) := by decide +kernel
theorem dX8_begins_14 : decode cX8_begins 14 = .ok (.bipush 26, 2) := by decide +kernel
theorem dX8_begins_16 : decode cX8_begins 16 = .ok (.if_icmp .ge 7, 3) := by decide +kernel
theorem dX8_begins_19 : decode cX8_begins 19 = .ok (.iconst 4, 1) := by decide +kernel
theorem dX8_begins_20 : decode cX8_begins 20 = .ok (.goto 14, 3) := by decide +kernel
theorem dX8_begins_23 : decode cX8_begins 23 = .ok (.iload_n 1, 1) := by decide +kernel
theorem dX8_begins_24 : decode cX8_begins 24 = .ok (.bipush 30, 2) := by decide +kernel
theorem dX8_begins_26 : decode cX8_begins 26 = .ok (.if_icmp .ge 7, 3) := by decide +kernel
theorem dX8_begins_29 : decode cX8_begins 29 = .ok (.iconst 2, 1) := by decide +kernel
theorem dX8_begins_30 : decode cX8_begins 30 = .ok (.goto 4, 3) := by decide +kernel
theorem dX8_begins_33 : decode cX8_begins 33 = .ok (.iconst 0, 1) := by decide +kernel
theorem dX8_begins_34 : decode cX8_begins 34 = .ok (.iastore, 1) := by decide +kernel
theorem dX8_begins_35 : decode cX8_begins 35 = .ok (.iinc 1 1, 3) := by decide +kernel
theorem dX8_begins_38 : decode cX8_begins 38 = .ok (.goto (-36), 3) := by decide +kernel
theorem dX8_begins_41 : decode cX8_begins 41 = .ok (.aload_n 0, 1) := by decide +kernel
theorem dX8_begins_42 : decode cX8_begins 42 = .ok (.getfield 32, 3) := by decide +kernel
theorem dX8_begins_45 : decode cX8_begins 45 = .ok (.bipush 34, 2) := by decide +kernel
theorem dX8_begins_47 : decode cX8_begins 47 = .ok (.iconst 3, 1) := by decide +kernel
theorem dX8_begins_48 : decode cX8_begins 48 = .ok (.iastore, 1) := by decide +kernel
theorem dX8_begins_49 : decode cX8_begins 49 = .ok (.aload_n 0, 1) := by decide +kernel
theorem dX8_begins_50 : decode cX8_begins 50 = .ok (.getfield 32, 3) := by decide +kernel
theorem dX8_begins_53 : decode cX8_begins 53 = .ok (.bipush 35, 2) := by decide +kernel
theorem dX8_begins_55 : decode cX8_begins 55 = .ok (.bipush 60, 2) := by decide +kernel
theorem dX8_begins_57 : decode cX8_begins 57 = .ok (.iastore, 1) := by decide +kernel
theorem dX8_begins_58 : decode cX8_begins 58 = .ok (.aload_n 0, 1) := by decide +kernel
theorem dX8_begins_59 : decode cX8_begins 59 = .ok (.getfield 32, 3) := by decide +kernel
theorem dX8_begins_62 : decode cX8_begins 62 = .ok (.bipush 36, 2) := by decide +kernel
theorem dX8_begins_64 : decode cX8_begins 64 = .ok (.bipush 50, 2) := by decide +kernel
theorem dX8_begins_66 : decode cX8_begins 66 = .ok (.iastore, 1) := by decide +kernel
theorem dX8_begins_67 : decode cX8_begins 67 = .ok (.aload_n 0, 1) := by decide +kernel
theorem dX8_begins_68 : decode cX8_begins 68 = .ok (.getfield 32, 3) := by decide +kernel
theorem dX8_begins_71 : decode cX8_begins 71 = .ok (.bipush 37, 2) := by decide +kernel
theorem dX8_begins_73 : decode cX8_begins 73 = .ok (.bipush 100, 2) := by decide +kernel
theorem dX8_begins_75 : decode cX8_begins 75 = .ok (.iastore, 1) := by decide +kernel
theorem dX8_begins_76 : decode cX8_begins 76 = .ok (.aload_n 0, 1) := by decide +kernel
theorem dX8_begins_77 : decode cX8_begins 77 = .ok (.iconst 0, 1) := by decide +kernel
theorem dX8_begins_78 : decode cX8_begins 78 = .ok (.putfield 89, 3) := by decide +kernel
theorem dX8_begins_81 : decode cX8_begins 81 = .ok (.aload_n 0, 1) := by decide +kernel
theorem dX8_begins_82 : decode cX8_begins 82 = .ok (.iconst 0, 1) := by decide +kernel
theorem dX8_begins_83 : decode cX8_begins 83 = .ok (.putfield 93, 3) := by decide +kernel
theorem dX8_begins_86 : decode cX8_begins 86 = .ok (.aload_n 0, 1) := by decide +kernel
theorem dX8_begins_87 : decode cX8_begins 87 = .ok (.iconst 0, 1) := by decide +kernel
theorem dX8_begins_88 : decode cX8_begins 88 = .ok (.putfield 96, 3) := by decide +kernel
theorem dX8_begins_91 : decode cX8_begins 91 = .ok (.aload_n 0, 1) := by decide +kernel
theorem dX8_begins_92 : decode cX8_begins 92 = .ok (.getfield 38, 3) := by decide +kernel
theorem dX8_begins_95 : decode cX8_begins 95 = .ok (.iconst 0, 1) := by decide +kernel
theorem dX8_begins_96 : decode cX8_begins 96 = .ok (.iconst 0, 1) := by decide +kernel
theorem dX8_begins_97 : decode cX8_begins 97 = .ok (.bastore, 1) := by decide +kernel
theorem dX8_begins_98 : decode cX8_begins 98 = .ok (.aload_n 0, 1) := by decide +kernel
theorem dX8_begins_99 : decode cX8_begins 99 = .ok (.getfield 38, 3) := by decide +kernel
theorem dX8_begins_102 : decode cX8_begins 102 = .ok (.iconst 1, 1) := by decide +kernel
theorem dX8_begins_103 : decode cX8_begins 103 = .ok (.iconst 0, 1) := by decide +kernel
theorem dX8_begins_104 : decode cX8_begins 104 = .ok (.bastore, 1) := by decide +kernel
theorem dX8_begins_105 : decode cX8_begins 105 = .ok (.return_, 1) := by decide +kernel
theorem dX8_type_0 : decode cX8_type 0 = .ok (.iload_n 1, 1) := by decide +kernel
theorem dX8_type_1 : decode cX8_type 1 = .ok (.iconst 0, 1) := by decide +kernel
theorem dX8_type_2 : decode cX8_type 2 = .ok (.sipush 255, 3) := by decide +kernel
theorem dX8_type_5 : decode cX8_type 5 = .ok (.invokestatic 99, 3) := by decide +kernel
theorem dX8_type_8 : decode cX8_type 8 = .ok (.ifCond .ne 5, 3) := by decide +kernel
theorem dX8_type_11 : decode cX8_type 11 = .ok (.iconst (-1), 1) := by decide +kernel
theorem dX8_type_12 : decode cX8_type 12 = .ok (.ireturn, 1) := by decide +kernel
theorem dX8_type_13 : decode cX8_type 13 = .ok (.aload_n 0, 1) := by decide +kernel
theorem dX8_type_14 : decode cX8_type 14 = .ok (.getfield 103, 3) := by decide +kernel
theorem dX8_type_17 : decode cX8_type 17 = .ok (.sipush 200, 3) := by decide +kernel
theorem dX8_type_20 : decode cX8_type 20 = .ok (.if_icmp .ne 6, 3) := by decide +kernel
theorem dX8_type_23 : decode cX8_type 23 = .ok (.bipush (-3), 2) := by decide +kernel
theorem dX8_type_25 : decode cX8_type 25 = .ok (.ireturn, 1) := by decide +kernel
theorem dX8_type_26 : decode cX8_type 26 = .ok (.aload_n 0, 1) := by decide +kernel
theorem dX8_type_27 : decode cX8_type 27 = .ok (.getfield 7, 3) := by decide +kernel
theorem dX8_type_30 : decode cX8_type 30 = .ok (.aload_n 0, 1) := by decide +kernel
theorem dX8_type_31 : decode cX8_type 31 = .ok (.getfield 103, 3) := by decide +kernel
theorem dX8_type_34 : decode cX8_type 34 = .ok (.iload_n 1, 1) := by decide +kernel
theorem dX8_type_35 : decode cX8_type 35 = .ok (.iastore, 1) := by decide +kernel
theorem dX8_type_36 : decode cX8_type 36 = .ok (.aload_n 0, 1) := by decide +kernel
theorem dX8_type_37 : decode cX8_type 37 = .ok (.dup, 1) := by decide +kernel
theorem dX8_type_38 : decode cX8_type 38 = .ok (.getfield 103, 3) := by decide +kernel
theorem dX8_type_41 : decode cX8_type 41 = .ok (.iconst 1, 1) := by decide +kernel
theorem dX8_type_42 : decode cX8_type 42 = .ok (.iadd, 1) := by decide +kernel
theorem dX8_type_43 : decode cX8_type 43 = .ok (.putfield 103, 3) := by decide +kernel
theorem dX8_type_46 : decode cX8_type 46 = .ok (.aload_n 0, 1) := by decide +kernel
theorem dX8_type_47 : decode cX8_type 47 = .ok (.getfield 103, 3) := by decide +kernel
theorem dX8_type_50 : decode cX8_type 50 = .ok (.ireturn, 1) := by decide +kernel
theorem dX8_clear_0 : decode cX8_clear 0 = .ok (.aload_n 0, 1) := by decide +kernel
theorem dX8_clear_1 : decode cX8_clear 1 = .ok (.getfield 103, 3) := by decide +kernel
theorem dX8_clear_4 : decode cX8_clear 4 = .ok (.istore_n 1, 1) := by decide +kernel
theorem dX8_clear_5 : decode cX8_clear 5 = .ok (.aload_n 0, 1) := by decide +kernel
theorem dX8_clear_6 : decode cX8_clear 6 = .ok (.iconst 0, 1) := by decide +kernel
theorem dX8_clear_7 : decode cX8_clear 7 = .ok (.putfield 103, 3) := by decide +kernel
theorem dX8_clear_10 : decode cX8_clear 10 = .ok (.iload_n 1, 1) := by decide +kernel
theorem dX8_clear_11 : decode cX8_clear 11 = .ok (.ireturn, 1) := by decide +kernel
theorem dX8_markOf_0 : decode cX8_markOf 0 = .ok (.iload_n 0, 1) := by decide +kernel
theorem dX8_markOf_1 : decode cX8_markOf 1 = .ok (.bipush 46, 2) := by decide +kernel
theorem dX8_markOf_3 : decode cX8_markOf 3 = .ok (.if_icmp .ne 7, 3) := by decide +kernel
theorem dX8_markOf_6 : decode cX8_markOf 6 = .ok (.iconst 0, 1) := by decide +kernel
theorem dX8_markOf_7 : decode cX8_markOf 7 = .ok (.goto 35, 3) := by decide +kernel
theorem dX8_markOf_10 : decode cX8_markOf 10 = .ok (.iload_n 0, 1) := by decide +kernel
theorem dX8_markOf_11 : decode cX8_markOf 11 = .ok (.bipush 44, 2) := by decide +kernel
theorem dX8_markOf_13 : decode cX8_markOf 13 = .ok (.if_icmp .ne 7, 3) := by decide +kernel
theorem dX8_markOf_16 : decode cX8_markOf 16 = .ok (.iconst 1, 1) := by decide +kernel
theorem dX8_markOf_17 : decode cX8_markOf 17 = .ok (.goto 25, 3) := by decide +kernel
theorem dX8_markOf_20 : decode cX8_markOf 20 = .ok (.iload_n 0, 1) := by decide +kernel
theorem dX8_markOf_21 : decode cX8_markOf 21 = .ok (.bipush 45, 2) := by decide +kernel
theorem dX8_markOf_23 : decode cX8_markOf 23 = .ok (.if_icmp .ne 7, 3) := by decide +kernel
theorem dX8_markOf_26 : decode cX8_markOf 26 = .ok (.iconst 2, 1) := by decide +kernel
theorem dX8_markOf_27 : decode cX8_markOf 27 = .ok (.goto 15, 3) := by decide +kernel
theorem dX8_markOf_30 : decode cX8_markOf 30 = .ok (.iload_n 0, 1) := by decide +kernel
theorem dX8_markOf_31 : decode cX8_markOf 31 = .ok (.bipush 39, 2) := by decide +kernel
theorem dX8_markOf_33 : decode cX8_markOf 33 = .ok (.if_icmp .ne 7, 3) := by decide +kernel
theorem dX8_markOf_36 : decode cX8_markOf 36 = .ok (.iconst 3, 1) := by decide +kernel
theorem dX8_markOf_37 : decode cX8_markOf 37 = .ok (.goto 5, 3) := by decide +kernel
theorem dX8_markOf_40 : decode cX8_markOf 40 = .ok (.bipush (-9), 2) := by decide +kernel
theorem dX8_markOf_42 : decode cX8_markOf 42 = .ok (.ireturn, 1) := by decide +kernel
theorem dX8_isWhole_0 : decode cX8_isWhole 0 = .ok (.iload_n 0, 1) := by decide +kernel
theorem dX8_isWhole_1 : decode cX8_isWhole 1 = .ok (.bipush 97, 2) := by decide +kernel
theorem dX8_isWhole_3 : decode cX8_isWhole 3 = .ok (.bipush 122, 2) := by decide +kernel
theorem dX8_isWhole_5 : decode cX8_isWhole 5 = .ok (.invokestatic 99, 3) := by decide +kernel
theorem dX8_isWhole_8 : decode cX8_isWhole 8 = .ok (.ifCond .ne 12, 3) := by decide +kernel
theorem dX8_isWhole_11 : decode cX8_isWhole 11 = .ok (.iload_n 0, 1) := by decide +kernel
theorem dX8_isWhole_12 : decode cX8_isWhole 12 = .ok (.invokestatic 106, 3) := by decide +kernel
theorem dX8_isWhole_15 : decode cX8_isWhole 15 = .ok (.bipush (-9), 2) := by decide +kernel
theorem dX8_isWhole_17 : decode cX8_isWhole 17 = .ok (.if_icmp .eq 7, 3) := by decide +kernel
theorem dX8_isWhole_20 : decode cX8_isWhole 20 = .ok (.iconst 1, 1) := by decide +kernel
theorem dX8_isWhole_21 : decode cX8_isWhole 21 = .ok (.goto 4, 3) := by decide +kernel
theorem dX8_isWhole_24 : decode cX8_isWhole 24 = .ok (.iconst 0, 1) := by decide +kernel
theorem dX8_isWhole_25 : decode cX8_isWhole 25 = .ok (.ireturn, 1) := by decide +kernel
theorem dX8_isWholeAt_0 : decode cX8_isWholeAt 0 = .ok (.iload_n 1, 1) := by decide +kernel
theorem dX8_isWholeAt_1 : decode cX8_isWholeAt 1 = .ok (.iconst 0, 1) := by decide +kernel
theorem dX8_isWholeAt_2 : decode cX8_isWholeAt 2 = .ok (.aload_n 0, 1) := by decide +kernel
theorem dX8_isWholeAt_3 : decode cX8_isWholeAt 3 = .ok (.getfield 103, 3) := by decide +kernel
theorem dX8_isWholeAt_6 : decode cX8_isWholeAt 6 = .ok (.iconst 1, 1) := by decide +kernel
theorem dX8_isWholeAt_7 : decode cX8_isWholeAt 7 = .ok (.isub, 1) := by decide +kernel
theorem dX8_isWholeAt_8 : decode cX8_isWholeAt 8 = .ok (.invokestatic 99, 3) := by decide +kernel
theorem dX8_isWholeAt_11 : decode cX8_isWholeAt 11 = .ok (.ifCond .eq 19, 3) := by decide +kernel
theorem dX8_isWholeAt_14 : decode cX8_isWholeAt 14 = .ok (.aload_n 0, 1) := by decide +kernel
theorem dX8_isWholeAt_15 : decode cX8_isWholeAt 15 = .ok (.getfield 7, 3) := by decide +kernel
theorem dX8_isWholeAt_18 : decode cX8_isWholeAt 18 = .ok (.iload_n 1, 1) := by decide +kernel
theorem dX8_isWholeAt_19 : decode cX8_isWholeAt 19 = .ok (.iaload, 1) := by decide +kernel
theorem dX8_isWholeAt_20 : decode cX8_isWholeAt 20 = .ok (.invokestatic 110, 3) := by decide +kernel
theorem dX8_isWholeAt_23 : decode cX8_isWholeAt 23 = .ok (.ifCond .eq 7, 3) := by decide +kernel
theorem dX8_isWholeAt_26 : decode cX8_isWholeAt 26 = .ok (.iconst 1, 1) := by decide +kernel
theorem dX8_isWholeAt_27 : decode cX8_isWholeAt 27 = .ok (.goto 4, 3) := by decide +kernel
theorem dX8_isWholeAt_30 : decode cX8_isWholeAt 30 = .ok (.iconst 0, 1) := by decide +kernel
theorem dX8_isWholeAt_31 : decode cX8_isWholeAt 31 = .ok (.ireturn, 1) := by decide +kernel
theorem dX8_fault_0 : decode cX8_fault 0 = .ok (.iconst 0, 1) := by decide +kernel
theorem dX8_fault_1 : decode cX8_fault 1 = .ok (.istore_n 1, 1) := by decide +kernel
theorem dX8_fault_2 : decode cX8_fault 2 = .ok (.iconst 0, 1) := by decide +kernel
theorem dX8_fault_3 : decode cX8_fault 3 = .ok (.istore_n 2, 1) := by decide +kernel
theorem dX8_fault_4 : decode cX8_fault 4 = .ok (.iconst 0, 1) := by decide +kernel
theorem dX8_fault_5 : decode cX8_fault 5 = .ok (.istore_n 3, 1) := by decide +kernel
theorem dX8_fault_6 : decode cX8_fault 6 = .ok (.iload_n 3, 1) := by decide +kernel
theorem dX8_fault_7 : decode cX8_fault 7 = .ok (.aload_n 0, 1) := by decide +kernel
theorem dX8_fault_8 : decode cX8_fault 8 = .ok (.getfield 103, 3) := by decide +kernel
theorem dX8_fault_11 : decode cX8_fault 11 = .ok (.if_icmp .ge 121, 3) := by decide +kernel
theorem dX8_fault_14 : decode cX8_fault 14 = .ok (.aload_n 0, 1) := by decide +kernel
theorem dX8_fault_15 : decode cX8_fault 15 = .ok (.getfield 7, 3) := by decide +kernel
theorem dX8_fault_18 : decode cX8_fault 18 = .ok (.iload_n 3, 1) := by decide +kernel
theorem dX8_fault_19 : decode cX8_fault 19 = .ok (.iaload, 1) := by decide +kernel
theorem dX8_fault_20 : decode cX8_fault 20 = .ok (.istore 4, 2) := by decide +kernel
theorem dX8_fault_22 : decode cX8_fault 22 = .ok (.iload 4, 2) := by decide +kernel
theorem dX8_fault_24 : decode cX8_fault 24 = .ok (.bipush 47, 2) := by decide +kernel
theorem dX8_fault_26 : decode cX8_fault 26 = .ok (.if_icmp .ne 27, 3) := by decide +kernel
theorem dX8_fault_29 : decode cX8_fault 29 = .ok (.aload_n 0, 1) := by decide +kernel
theorem dX8_fault_30 : decode cX8_fault 30 = .ok (.iload_n 3, 1) := by decide +kernel
theorem dX8_fault_31 : decode cX8_fault 31 = .ok (.iconst 1, 1) := by decide +kernel
theorem dX8_fault_32 : decode cX8_fault 32 = .ok (.isub, 1) := by decide +kernel
theorem dX8_fault_33 : decode cX8_fault 33 = .ok (.invokevirtual 114, 3) := by decide +kernel
theorem dX8_fault_36 : decode cX8_fault 36 = .ok (.ifCond .eq 17, 3) := by decide +kernel
theorem dX8_fault_39 : decode cX8_fault 39 = .ok (.aload_n 0, 1) := by decide +kernel
theorem dX8_fault_40 : decode cX8_fault 40 = .ok (.iload_n 3, 1) := by decide +kernel
theorem dX8_fault_41 : decode cX8_fault 41 = .ok (.iconst 1, 1) := by decide +kernel
theorem dX8_fault_42 : decode cX8_fault 42 = .ok (.iadd, 1) := by decide +kernel
theorem dX8_fault_43 : decode cX8_fault 43 = .ok (.invokevirtual 114, 3) := by decide +kernel
theorem dX8_fault_46 : decode cX8_fault 46 = .ok (.ifCond .eq 7, 3) := by decide +kernel
theorem dX8_fault_49 : decode cX8_fault 49 = .ok (.iconst 1, 1) := by decide +kernel
theorem dX8_fault_50 : decode cX8_fault 50 = .ok (.goto 4, 3) := by decide +kernel
theorem dX8_fault_53 : decode cX8_fault 53 = .ok (.iconst 0, 1) := by decide +kernel
theorem dX8_fault_54 : decode cX8_fault 54 = .ok (.istore 5, 2) := by decide +kernel
theorem dX8_fault_56 : decode cX8_fault 56 = .ok (.iload 4, 2) := by decide +kernel
theorem dX8_fault_58 : decode cX8_fault 58 = .ok (.bipush 32, 2) := by decide +kernel
theorem dX8_fault_60 : decode cX8_fault 60 = .ok (.if_icmp .eq 18, 3) := by decide +kernel
theorem dX8_fault_63 : decode cX8_fault 63 = .ok (.iload 4, 2) := by decide +kernel
theorem dX8_fault_65 : decode cX8_fault 65 = .ok (.invokestatic 110, 3) := by decide +kernel
theorem dX8_fault_68 : decode cX8_fault 68 = .ok (.ifCond .ne 10, 3) := by decide +kernel
theorem dX8_fault_71 : decode cX8_fault 71 = .ok (.iload 5, 2) := by decide +kernel
theorem dX8_fault_73 : decode cX8_fault 73 = .ok (.ifCond .ne 5, 3) := by decide +kernel
theorem dX8_fault_76 : decode cX8_fault 76 = .ok (.iload_n 3, 1) := by decide +kernel
theorem dX8_fault_77 : decode cX8_fault 77 = .ok (.ireturn, 1) := by decide +kernel
theorem dX8_fault_78 : decode cX8_fault 78 = .ok (.iload_n 1, 1) := by decide +kernel
theorem dX8_fault_79 : decode cX8_fault 79 = .ok (.iload 4, 2) := by decide +kernel
theorem dX8_fault_81 : decode cX8_fault 81 = .ok (.bipush 32, 2) := by decide +kernel
theorem dX8_fault_83 : decode cX8_fault 83 = .ok (.if_icmp .eq 11, 3) := by decide +kernel
theorem dX8_fault_86 : decode cX8_fault 86 = .ok (.iload_n 2, 1) := by decide +kernel
theorem dX8_fault_87 : decode cX8_fault 87 = .ok (.ifCond .ne 7, 3) := by decide +kernel
theorem dX8_fault_90 : decode cX8_fault 90 = .ok (.iconst 1, 1) := by decide +kernel
theorem dX8_fault_91 : decode cX8_fault 91 = .ok (.goto 4, 3) := by decide +kernel
theorem dX8_fault_94 : decode cX8_fault 94 = .ok (.iconst 0, 1) := by decide +kernel
theorem dX8_fault_95 : decode cX8_fault 95 = .ok (.iadd, 1) := by decide +kernel
theorem dX8_fault_96 : decode cX8_fault 96 = .ok (.istore_n 1, 1) := by decide +kernel
theorem dX8_fault_97 : decode cX8_fault 97 = .ok (.iload 4, 2) := by decide +kernel
theorem dX8_fault_99 : decode cX8_fault 99 = .ok (.bipush 32, 2) := by decide +kernel
theorem dX8_fault_101 : decode cX8_fault 101 = .ok (.if_icmp .ne 7, 3) := by decide +kernel
theorem dX8_fault_104 : decode cX8_fault 104 = .ok (.iconst 0, 1) := by decide +kernel
theorem dX8_fault_105 : decode cX8_fault 105 = .ok (.goto 6, 3) := by decide +kernel
theorem dX8_fault_108 : decode cX8_fault 108 = .ok (.iload_n 2, 1) := by decide +kernel
theorem dX8_fault_109 : decode cX8_fault 109 = .ok (.iconst 1, 1) := by decide +kernel
theorem dX8_fault_110 : decode cX8_fault 110 = .ok (.iadd, 1) := by decide +kernel
theorem dX8_fault_111 : decode cX8_fault 111 = .ok (.istore_n 2, 1) := by decide +kernel
theorem dX8_fault_112 : decode cX8_fault 112 = .ok (.iload_n 2, 1) := by decide +kernel
theorem dX8_fault_113 : decode cX8_fault 113 = .ok (.bipush 16, 2) := by decide +kernel
theorem dX8_fault_115 : decode cX8_fault 115 = .ok (.if_icmp .gt 9, 3) := by decide +kernel
theorem dX8_fault_118 : decode cX8_fault 118 = .ok (.iload_n 1, 1) := by decide +kernel
theorem dX8_fault_119 : decode cX8_fault 119 = .ok (.bipush 30, 2) := by decide +kernel
theorem dX8_fault_121 : decode cX8_fault 121 = .ok (.if_icmp .le 5, 3) := by decide +kernel
theorem dX8_fault_124 : decode cX8_fault 124 = .ok (.iload_n 3, 1) := by decide +kernel
theorem dX8_fault_125 : decode cX8_fault 125 = .ok (.ireturn, 1) := by decide +kernel
theorem dX8_fault_126 : decode cX8_fault 126 = .ok (.iinc 3 1, 3) := by decide +kernel
theorem dX8_fault_129 : decode cX8_fault 129 = .ok (.goto (-123), 3) := by decide +kernel
theorem dX8_fault_132 : decode cX8_fault 132 = .ok (.bipush (-9), 2) := by decide +kernel
theorem dX8_fault_134 : decode cX8_fault 134 = .ok (.ireturn, 1) := by decide +kernel
theorem dX8_laysPlace_0 : decode cX8_laysPlace 0 = .ok (.aload_n 0, 1) := by decide +kernel
theorem dX8_laysPlace_1 : decode cX8_laysPlace 1 = .ok (.getfield 22, 3) := by decide +kernel
theorem dX8_laysPlace_4 : decode cX8_laysPlace 4 = .ok (.aload_n 0, 1) := by decide +kernel
theorem dX8_laysPlace_5 : decode cX8_laysPlace 5 = .ok (.getfield 117, 3) := by decide +kernel
theorem dX8_laysPlace_8 : decode cX8_laysPlace 8 = .ok (.iload_n 1, 1) := by decide +kernel
theorem dX8_laysPlace_9 : decode cX8_laysPlace 9 = .ok (.iastore, 1) := by decide +kernel
theorem dX8_laysPlace_10 : decode cX8_laysPlace 10 = .ok (.aload_n 0, 1) := by decide +kernel
theorem dX8_laysPlace_11 : decode cX8_laysPlace 11 = .ok (.getfield 25, 3) := by decide +kernel
theorem dX8_laysPlace_14 : decode cX8_laysPlace 14 = .ok (.aload_n 0, 1) := by decide +kernel
theorem dX8_laysPlace_15 : decode cX8_laysPlace 15 = .ok (.getfield 117, 3) := by decide +kernel
theorem dX8_laysPlace_18 : decode cX8_laysPlace 18 = .ok (.iload_n 2, 1) := by decide +kernel
theorem dX8_laysPlace_19 : decode cX8_laysPlace 19 = .ok (.iastore, 1) := by decide +kernel
theorem dX8_laysPlace_20 : decode cX8_laysPlace 20 = .ok (.aload_n 0, 1) := by decide +kernel
theorem dX8_laysPlace_21 : decode cX8_laysPlace 21 = .ok (.getfield 28, 3) := by decide +kernel
theorem dX8_laysPlace_24 : decode cX8_laysPlace 24 = .ok (.aload_n 0, 1) := by decide +kernel
theorem dX8_laysPlace_25 : decode cX8_laysPlace 25 = .ok (.getfield 117, 3) := by decide +kernel
theorem dX8_laysPlace_28 : decode cX8_laysPlace 28 = .ok (.iload_n 3, 1) := by decide +kernel
theorem dX8_laysPlace_29 : decode cX8_laysPlace 29 = .ok (.bastore, 1) := by decide +kernel
theorem dX8_laysPlace_30 : decode cX8_laysPlace 30 = .ok (.aload_n 0, 1) := by decide +kernel
theorem dX8_laysPlace_31 : decode cX8_laysPlace 31 = .ok (.dup, 1) := by decide +kernel
theorem dX8_laysPlace_32 : decode cX8_laysPlace 32 = .ok (.getfield 117, 3) := by decide +kernel
theorem dX8_laysPlace_35 : decode cX8_laysPlace 35 = .ok (.iconst 1, 1) := by decide +kernel
theorem dX8_laysPlace_36 : decode cX8_laysPlace 36 = .ok (.iadd, 1) := by decide +kernel
theorem dX8_laysPlace_37 : decode cX8_laysPlace 37 = .ok (.putfield 117, 3) := by decide +kernel
theorem dX8_laysPlace_40 : decode cX8_laysPlace 40 = .ok (.return_, 1) := by decide +kernel
theorem dX8_words_0 : decode cX8_words 0 = .ok (.aload_n 0, 1) := by decide +kernel
theorem dX8_words_1 : decode cX8_words 1 = .ok (.invokevirtual 120, 3) := by decide +kernel
theorem dX8_words_4 : decode cX8_words 4 = .ok (.istore_n 1, 1) := by decide +kernel
theorem dX8_words_5 : decode cX8_words 5 = .ok (.iload_n 1, 1) := by decide +kernel
theorem dX8_words_6 : decode cX8_words 6 = .ok (.bipush (-9), 2) := by decide +kernel
theorem dX8_words_8 : decode cX8_words 8 = .ok (.if_icmp .eq 8, 3) := by decide +kernel
theorem dX8_words_11 : decode cX8_words 11 = .ok (.bipush (-10), 2) := by decide +kernel
theorem dX8_words_13 : decode cX8_words 13 = .ok (.iload_n 1, 1) := by decide +kernel
theorem dX8_words_14 : decode cX8_words 14 = .ok (.isub, 1) := by decide +kernel
theorem dX8_words_15 : decode cX8_words 15 = .ok (.ireturn, 1) := by decide +kernel
theorem dX8_words_16 : decode cX8_words 16 = .ok (.aload_n 0, 1) := by decide +kernel
theorem dX8_words_17 : decode cX8_words 17 = .ok (.aload_n 0, 1) := by decide +kernel
theorem dX8_words_18 : decode cX8_words 18 = .ok (.getfield 103, 3) := by decide +kernel
theorem dX8_words_21 : decode cX8_words 21 = .ok (.putfield 124, 3) := by decide +kernel
theorem dX8_words_24 : decode cX8_words 24 = .ok (.aload_n 0, 1) := by decide +kernel
theorem dX8_words_25 : decode cX8_words 25 = .ok (.iconst 0, 1) := by decide +kernel
theorem dX8_words_26 : decode cX8_words 26 = .ok (.putfield 127, 3) := by decide +kernel
theorem dX8_words_29 : decode cX8_words 29 = .ok (.aload_n 0, 1) := by decide +kernel
theorem dX8_words_30 : decode cX8_words 30 = .ok (.iconst 0, 1) := by decide +kernel
theorem dX8_words_31 : decode cX8_words 31 = .ok (.putfield 117, 3) := by decide +kernel
theorem dX8_words_34 : decode cX8_words 34 = .ok (.iconst 0, 1) := by decide +kernel
theorem dX8_words_35 : decode cX8_words 35 = .ok (.istore_n 2, 1) := by decide +kernel
theorem dX8_words_36 : decode cX8_words 36 = .ok (.iload_n 2, 1) := by decide +kernel
theorem dX8_words_37 : decode cX8_words 37 = .ok (.aload_n 0, 1) := by decide +kernel
theorem dX8_words_38 : decode cX8_words 38 = .ok (.getfield 124, 3) := by decide +kernel
theorem dX8_words_41 : decode cX8_words 41 = .ok (.if_icmp .ge 157, 3) := by decide +kernel
theorem dX8_words_44 : decode cX8_words 44 = .ok (.aload_n 0, 1) := by decide +kernel
theorem dX8_words_45 : decode cX8_words 45 = .ok (.getfield 13, 3) := by decide +kernel
theorem dX8_words_48 : decode cX8_words 48 = .ok (.iload_n 2, 1) := by decide +kernel
theorem dX8_words_49 : decode cX8_words 49 = .ok (.aload_n 0, 1) := by decide +kernel
theorem dX8_words_50 : decode cX8_words 50 = .ok (.getfield 7, 3) := by decide +kernel
theorem dX8_words_53 : decode cX8_words 53 = .ok (.iload_n 2, 1) := by decide +kernel
theorem dX8_words_54 : decode cX8_words 54 = .ok (.iaload, 1) := by decide +kernel
theorem dX8_words_55 : decode cX8_words 55 = .ok (.iastore, 1) := by decide +kernel
theorem dX8_words_56 : decode cX8_words 56 = .ok (.aload_n 0, 1) := by decide +kernel
theorem dX8_words_57 : decode cX8_words 57 = .ok (.getfield 7, 3) := by decide +kernel
theorem dX8_words_60 : decode cX8_words 60 = .ok (.iload_n 2, 1) := by decide +kernel
theorem dX8_words_61 : decode cX8_words 61 = .ok (.iaload, 1) := by decide +kernel
theorem dX8_words_62 : decode cX8_words 62 = .ok (.bipush 32, 2) := by decide +kernel
theorem dX8_words_64 : decode cX8_words 64 = .ok (.if_icmp .eq 7, 3) := by decide +kernel
theorem dX8_words_67 : decode cX8_words 67 = .ok (.iconst 1, 1) := by decide +kernel
theorem dX8_words_68 : decode cX8_words 68 = .ok (.goto 4, 3) := by decide +kernel
theorem dX8_words_71 : decode cX8_words 71 = .ok (.iconst 0, 1) := by decide +kernel
theorem dX8_words_72 : decode cX8_words 72 = .ok (.istore_n 3, 1) := by decide +kernel
theorem dX8_words_73 : decode cX8_words 73 = .ok (.iload_n 3, 1) := by decide +kernel
theorem dX8_words_74 : decode cX8_words 74 = .ok (.ifCond .eq 40, 3) := by decide +kernel
theorem dX8_words_77 : decode cX8_words 77 = .ok (.iload_n 2, 1) := by decide +kernel
theorem dX8_words_78 : decode cX8_words 78 = .ok (.ifCond .eq 16, 3) := by decide +kernel
theorem dX8_words_81 : decode cX8_words 81 = .ok (.aload_n 0, 1) := by decide +kernel
theorem dX8_words_82 : decode cX8_words 82 = .ok (.getfield 7, 3) := by decide +kernel
theorem dX8_words_85 : decode cX8_words 85 = .ok (.iload_n 2, 1) := by decide +kernel
theorem dX8_words_86 : decode cX8_words 86 = .ok (.iconst 1, 1) := by decide +kernel
theorem dX8_words_87 : decode cX8_words 87 = .ok (.isub, 1) := by decide +kernel
theorem dX8_words_88 : decode cX8_words 88 = .ok (.iaload, 1) := by decide +kernel
theorem dX8_words_89 : decode cX8_words 89 = .ok (.bipush 32, 2) := by decide +kernel
theorem dX8_words_91 : decode cX8_words 91 = .ok (.if_icmp .ne 23, 3) := by decide +kernel
theorem dX8_words_94 : decode cX8_words 94 = .ok (.aload_n 0, 1) := by decide +kernel
theorem dX8_words_95 : decode cX8_words 95 = .ok (.getfield 16, 3) := by decide +kernel
theorem dX8_words_98 : decode cX8_words 98 = .ok (.aload_n 0, 1) := by decide +kernel
theorem dX8_words_99 : decode cX8_words 99 = .ok (.getfield 127, 3) := by decide +kernel
theorem dX8_words_102 : decode cX8_words 102 = .ok (.iload_n 2, 1) := by decide +kernel
theorem dX8_words_103 : decode cX8_words 103 = .ok (.iastore, 1) := by decide +kernel
theorem dX8_words_104 : decode cX8_words 104 = .ok (.aload_n 0, 1) := by decide +kernel
theorem dX8_words_105 : decode cX8_words 105 = .ok (.dup, 1) := by decide +kernel
theorem dX8_words_106 : decode cX8_words 106 = .ok (.getfield 127, 3) := by decide +kernel
theorem dX8_words_109 : decode cX8_words 109 = .ok (.iconst 1, 1) := by decide +kernel
theorem dX8_words_110 : decode cX8_words 110 = .ok (.iadd, 1) := by decide +kernel
theorem dX8_words_111 : decode cX8_words 111 = .ok (.putfield 127, 3) := by decide +kernel
theorem dX8_words_114 : decode cX8_words 114 = .ok (.aload_n 0, 1) := by decide +kernel
theorem dX8_words_115 : decode cX8_words 115 = .ok (.getfield 7, 3) := by decide +kernel
theorem dX8_words_118 : decode cX8_words 118 = .ok (.iload_n 2, 1) := by decide +kernel
theorem dX8_words_119 : decode cX8_words 119 = .ok (.iaload, 1) := by decide +kernel
theorem dX8_words_120 : decode cX8_words 120 = .ok (.bipush 47, 2) := by decide +kernel
theorem dX8_words_122 : decode cX8_words 122 = .ok (.if_icmp .ne 15, 3) := by decide +kernel
theorem dX8_words_125 : decode cX8_words 125 = .ok (.aload_n 0, 1) := by decide +kernel
theorem dX8_words_126 : decode cX8_words 126 = .ok (.aload_n 0, 1) := by decide +kernel
theorem dX8_words_127 : decode cX8_words 127 = .ok (.getfield 127, 3) := by decide +kernel
theorem dX8_words_130 : decode cX8_words 130 = .ok (.iconst 1, 1) := by decide +kernel
theorem dX8_words_131 : decode cX8_words 131 = .ok (.isub, 1) := by decide +kernel
theorem dX8_words_132 : decode cX8_words 132 = .ok (.iload_n 2, 1) := by decide +kernel
theorem dX8_words_133 : decode cX8_words 133 = .ok (.iconst 1, 1) := by decide +kernel
theorem dX8_words_134 : decode cX8_words 134 = .ok (.invokevirtual 130, 3) := by decide +kernel
theorem dX8_words_137 : decode cX8_words 137 = .ok (.iload_n 3, 1) := by decide +kernel
theorem dX8_words_138 : decode cX8_words 138 = .ok (.ifCond .eq 54, 3) := by decide +kernel
theorem dX8_words_141 : decode cX8_words 141 = .ok (.iload_n 2, 1) := by decide +kernel
theorem dX8_words_142 : decode cX8_words 142 = .ok (.iconst 1, 1) := by decide +kernel
theorem dX8_words_143 : decode cX8_words 143 = .ok (.iadd, 1) := by decide +kernel
theorem dX8_words_144 : decode cX8_words 144 = .ok (.aload_n 0, 1) := by decide +kernel
theorem dX8_words_145 : decode cX8_words 145 = .ok (.getfield 124, 3) := by decide +kernel
theorem dX8_words_148 : decode cX8_words 148 = .ok (.if_icmp .eq 16, 3) := by decide +kernel
theorem dX8_words_151 : decode cX8_words 151 = .ok (.aload_n 0, 1) := by decide +kernel
theorem dX8_words_152 : decode cX8_words 152 = .ok (.getfield 7, 3) := by decide +kernel
theorem dX8_words_155 : decode cX8_words 155 = .ok (.iload_n 2, 1) := by decide +kernel
theorem dX8_words_156 : decode cX8_words 156 = .ok (.iconst 1, 1) := by decide +kernel
theorem dX8_words_157 : decode cX8_words 157 = .ok (.iadd, 1) := by decide +kernel
theorem dX8_words_158 : decode cX8_words 158 = .ok (.iaload, 1) := by decide +kernel
theorem dX8_words_159 : decode cX8_words 159 = .ok (.bipush 32, 2) := by decide +kernel
theorem dX8_words_161 : decode cX8_words 161 = .ok (.if_icmp .ne 31, 3) := by decide +kernel
theorem dX8_words_164 : decode cX8_words 164 = .ok (.aload_n 0, 1) := by decide +kernel
theorem dX8_words_165 : decode cX8_words 165 = .ok (.getfield 19, 3) := by decide +kernel
theorem dX8_words_168 : decode cX8_words 168 = .ok (.aload_n 0, 1) := by decide +kernel
theorem dX8_words_169 : decode cX8_words 169 = .ok (.getfield 127, 3) := by decide +kernel
theorem dX8_words_172 : decode cX8_words 172 = .ok (.iconst 1, 1) := by decide +kernel
theorem dX8_words_173 : decode cX8_words 173 = .ok (.isub, 1) := by decide +kernel
theorem dX8_words_174 : decode cX8_words 174 = .ok (.iload_n 2, 1) := by decide +kernel
theorem dX8_words_175 : decode cX8_words 175 = .ok (.iconst 1, 1) := by decide +kernel
theorem dX8_words_176 : decode cX8_words 176 = .ok (.iadd, 1) := by decide +kernel
theorem dX8_words_177 : decode cX8_words 177 = .ok (.iastore, 1) := by decide +kernel
theorem dX8_words_178 : decode cX8_words 178 = .ok (.aload_n 0, 1) := by decide +kernel
theorem dX8_words_179 : decode cX8_words 179 = .ok (.aload_n 0, 1) := by decide +kernel
theorem dX8_words_180 : decode cX8_words 180 = .ok (.getfield 127, 3) := by decide +kernel
theorem dX8_words_183 : decode cX8_words 183 = .ok (.iconst 1, 1) := by decide +kernel
theorem dX8_words_184 : decode cX8_words 184 = .ok (.isub, 1) := by decide +kernel
theorem dX8_words_185 : decode cX8_words 185 = .ok (.iload_n 2, 1) := by decide +kernel
theorem dX8_words_186 : decode cX8_words 186 = .ok (.iconst 1, 1) := by decide +kernel
theorem dX8_words_187 : decode cX8_words 187 = .ok (.iadd, 1) := by decide +kernel
theorem dX8_words_188 : decode cX8_words 188 = .ok (.iconst 0, 1) := by decide +kernel
theorem dX8_words_189 : decode cX8_words 189 = .ok (.invokevirtual 130, 3) := by decide +kernel
theorem dX8_words_192 : decode cX8_words 192 = .ok (.iinc 2 1, 3) := by decide +kernel
theorem dX8_words_195 : decode cX8_words 195 = .ok (.goto (-159), 3) := by decide +kernel
theorem dX8_words_198 : decode cX8_words 198 = .ok (.aload_n 0, 1) := by decide +kernel
theorem dX8_words_199 : decode cX8_words 199 = .ok (.iconst 0, 1) := by decide +kernel
theorem dX8_words_200 : decode cX8_words 200 = .ok (.putfield 103, 3) := by decide +kernel
theorem dX8_words_203 : decode cX8_words 203 = .ok (.aload_n 0, 1) := by decide +kernel
theorem dX8_words_204 : decode cX8_words 204 = .ok (.invokevirtual 86, 3) := by decide +kernel
theorem dX8_words_207 : decode cX8_words 207 = .ok (.aload_n 0, 1) := by decide +kernel
theorem dX8_words_208 : decode cX8_words 208 = .ok (.getfield 127, 3) := by decide +kernel
theorem dX8_words_211 : decode cX8_words 211 = .ok (.ireturn, 1) := by decide +kernel
theorem dX8_isWord_0 : decode cX8_isWord 0 = .ok (.iload_n 1, 1) := by decide +kernel
theorem dX8_isWord_1 : decode cX8_isWord 1 = .ok (.iconst 0, 1) := by decide +kernel
theorem dX8_isWord_2 : decode cX8_isWord 2 = .ok (.aload_n 0, 1) := by decide +kernel
theorem dX8_isWord_3 : decode cX8_isWord 3 = .ok (.getfield 127, 3) := by decide +kernel
theorem dX8_isWord_6 : decode cX8_isWord 6 = .ok (.iconst 1, 1) := by decide +kernel
theorem dX8_isWord_7 : decode cX8_isWord 7 = .ok (.isub, 1) := by decide +kernel
theorem dX8_isWord_8 : decode cX8_isWord 8 = .ok (.invokestatic 99, 3) := by decide +kernel
theorem dX8_isWord_11 : decode cX8_isWord 11 = .ok (.ireturn, 1) := by decide +kernel
theorem dX8_word_0 : decode cX8_word 0 = .ok (.aload_n 0, 1) := by decide +kernel
theorem dX8_word_1 : decode cX8_word 1 = .ok (.iload_n 1, 1) := by decide +kernel
theorem dX8_word_2 : decode cX8_word 2 = .ok (.invokevirtual 134, 3) := by decide +kernel
theorem dX8_word_5 : decode cX8_word 5 = .ok (.ifCond .eq 8, 3) := by decide +kernel
theorem dX8_word_8 : decode cX8_word 8 = .ok (.iload_n 2, 1) := by decide +kernel
theorem dX8_word_9 : decode cX8_word 9 = .ok (.iconst (-1), 1) := by decide +kernel
theorem dX8_word_10 : decode cX8_word 10 = .ok (.if_icmp .ge 5, 3) := by decide +kernel
theorem dX8_word_13 : decode cX8_word 13 = .ok (.iconst (-1), 1) := by decide +kernel
theorem dX8_word_14 : decode cX8_word 14 = .ok (.ireturn, 1) := by decide +kernel
theorem dX8_word_15 : decode cX8_word 15 = .ok (.aload_n 0, 1) := by decide +kernel
theorem dX8_word_16 : decode cX8_word 16 = .ok (.getfield 19, 3) := by decide +kernel
theorem dX8_word_19 : decode cX8_word 19 = .ok (.iload_n 1, 1) := by decide +kernel
theorem dX8_word_20 : decode cX8_word 20 = .ok (.iaload, 1) := by decide +kernel
theorem dX8_word_21 : decode cX8_word 21 = .ok (.aload_n 0, 1) := by decide +kernel
theorem dX8_word_22 : decode cX8_word 22 = .ok (.getfield 16, 3) := by decide +kernel
theorem dX8_word_25 : decode cX8_word 25 = .ok (.iload_n 1, 1) := by decide +kernel
theorem dX8_word_26 : decode cX8_word 26 = .ok (.iaload, 1) := by decide +kernel
theorem dX8_word_27 : decode cX8_word 27 = .ok (.isub, 1) := by decide +kernel
theorem dX8_word_28 : decode cX8_word 28 = .ok (.istore_n 3, 1) := by decide +kernel
theorem dX8_word_29 : decode cX8_word 29 = .ok (.iload_n 2, 1) := by decide +kernel
theorem dX8_word_30 : decode cX8_word 30 = .ok (.iconst (-1), 1) := by decide +kernel
theorem dX8_word_31 : decode cX8_word 31 = .ok (.if_icmp .ne 7, 3) := by decide +kernel
theorem dX8_word_34 : decode cX8_word 34 = .ok (.iload_n 3, 1) := by decide +kernel
theorem dX8_word_35 : decode cX8_word 35 = .ok (.goto 26, 3) := by decide +kernel
theorem dX8_word_38 : decode cX8_word 38 = .ok (.iload_n 2, 1) := by decide +kernel
theorem dX8_word_39 : decode cX8_word 39 = .ok (.iload_n 3, 1) := by decide +kernel
theorem dX8_word_40 : decode cX8_word 40 = .ok (.if_icmp .ge 19, 3) := by decide +kernel
theorem dX8_word_43 : decode cX8_word 43 = .ok (.aload_n 0, 1) := by decide +kernel
theorem dX8_word_44 : decode cX8_word 44 = .ok (.getfield 13, 3) := by decide +kernel
theorem dX8_word_47 : decode cX8_word 47 = .ok (.aload_n 0, 1) := by decide +kernel
theorem dX8_word_48 : decode cX8_word 48 = .ok (.getfield 16, 3) := by decide +kernel
theorem dX8_word_51 : decode cX8_word 51 = .ok (.iload_n 1, 1) := by decide +kernel
theorem dX8_word_52 : decode cX8_word 52 = .ok (.iaload, 1) := by decide +kernel
theorem dX8_word_53 : decode cX8_word 53 = .ok (.iload_n 2, 1) := by decide +kernel
theorem dX8_word_54 : decode cX8_word 54 = .ok (.iadd, 1) := by decide +kernel
theorem dX8_word_55 : decode cX8_word 55 = .ok (.iaload, 1) := by decide +kernel
theorem dX8_word_56 : decode cX8_word 56 = .ok (.goto 5, 3) := by decide +kernel
theorem dX8_word_59 : decode cX8_word 59 = .ok (.bipush (-9), 2) := by decide +kernel
theorem dX8_word_61 : decode cX8_word 61 = .ok (.ireturn, 1) := by decide +kernel
theorem dX8_areAlike_0 : decode cX8_areAlike 0 = .ok (.aload_n 0, 1) := by decide +kernel
theorem dX8_areAlike_1 : decode cX8_areAlike 1 = .ok (.getfield 16, 3) := by decide +kernel
theorem dX8_areAlike_4 : decode cX8_areAlike 4 = .ok (.iload_n 1, 1) := by decide +kernel
theorem dX8_areAlike_5 : decode cX8_areAlike 5 = .ok (.iaload, 1) := by decide +kernel
theorem dX8_areAlike_6 : decode cX8_areAlike 6 = .ok (.istore_n 3, 1) := by decide +kernel
theorem dX8_areAlike_7 : decode cX8_areAlike 7 = .ok (.aload_n 0, 1) := by decide +kernel
theorem dX8_areAlike_8 : decode cX8_areAlike 8 = .ok (.getfield 16, 3) := by decide +kernel
theorem dX8_areAlike_11 : decode cX8_areAlike 11 = .ok (.iload_n 2, 1) := by decide +kernel
theorem dX8_areAlike_12 : decode cX8_areAlike 12 = .ok (.iaload, 1) := by decide +kernel
theorem dX8_areAlike_13 : decode cX8_areAlike 13 = .ok (.istore 4, 2) := by decide +kernel
theorem dX8_areAlike_15 : decode cX8_areAlike 15 = .ok (.iload_n 3, 1) := by decide +kernel
theorem dX8_areAlike_16 : decode cX8_areAlike 16 = .ok (.aload_n 0, 1) := by decide +kernel
theorem dX8_areAlike_17 : decode cX8_areAlike 17 = .ok (.getfield 19, 3) := by decide +kernel
theorem dX8_areAlike_20 : decode cX8_areAlike 20 = .ok (.iload_n 1, 1) := by decide +kernel
theorem dX8_areAlike_21 : decode cX8_areAlike 21 = .ok (.iaload, 1) := by decide +kernel
theorem dX8_areAlike_22 : decode cX8_areAlike 22 = .ok (.if_icmp .ge 20, 3) := by decide +kernel
theorem dX8_areAlike_25 : decode cX8_areAlike 25 = .ok (.aload_n 0, 1) := by decide +kernel
theorem dX8_areAlike_26 : decode cX8_areAlike 26 = .ok (.getfield 13, 3) := by decide +kernel
theorem dX8_areAlike_29 : decode cX8_areAlike 29 = .ok (.iload_n 3, 1) := by decide +kernel
theorem dX8_areAlike_30 : decode cX8_areAlike 30 = .ok (.iaload, 1) := by decide +kernel
theorem dX8_areAlike_31 : decode cX8_areAlike 31 = .ok (.bipush 47, 2) := by decide +kernel
theorem dX8_areAlike_33 : decode cX8_areAlike 33 = .ok (.if_icmp .ne 9, 3) := by decide +kernel
theorem dX8_areAlike_36 : decode cX8_areAlike 36 = .ok (.iinc 3 1, 3) := by decide +kernel
theorem dX8_areAlike_39 : decode cX8_areAlike 39 = .ok (.goto (-24), 3) := by decide +kernel
theorem dX8_areAlike_42 : decode cX8_areAlike 42 = .ok (.iload 4, 2) := by decide +kernel
theorem dX8_areAlike_44 : decode cX8_areAlike 44 = .ok (.aload_n 0, 1) := by decide +kernel
theorem dX8_areAlike_45 : decode cX8_areAlike 45 = .ok (.getfield 19, 3) := by decide +kernel
theorem dX8_areAlike_48 : decode cX8_areAlike 48 = .ok (.iload_n 2, 1) := by decide +kernel
theorem dX8_areAlike_49 : decode cX8_areAlike 49 = .ok (.iaload, 1) := by decide +kernel
theorem dX8_areAlike_50 : decode cX8_areAlike 50 = .ok (.if_icmp .ge 21, 3) := by decide +kernel
theorem dX8_areAlike_53 : decode cX8_areAlike 53 = .ok (.aload_n 0, 1) := by decide +kernel
theorem dX8_areAlike_54 : decode cX8_areAlike 54 = .ok (.getfield 13, 3) := by decide +kernel
theorem dX8_areAlike_57 : decode cX8_areAlike 57 = .ok (.iload 4, 2) := by decide +kernel
theorem dX8_areAlike_59 : decode cX8_areAlike 59 = .ok (.iaload, 1) := by decide +kernel
theorem dX8_areAlike_60 : decode cX8_areAlike 60 = .ok (.bipush 47, 2) := by decide +kernel
theorem dX8_areAlike_62 : decode cX8_areAlike 62 = .ok (.if_icmp .ne 9, 3) := by decide +kernel
theorem dX8_areAlike_65 : decode cX8_areAlike 65 = .ok (.iinc 4 1, 3) := by decide +kernel
theorem dX8_areAlike_68 : decode cX8_areAlike 68 = .ok (.goto (-26), 3) := by decide +kernel
theorem dX8_areAlike_71 : decode cX8_areAlike 71 = .ok (.iload_n 3, 1) := by decide +kernel
theorem dX8_areAlike_72 : decode cX8_areAlike 72 = .ok (.aload_n 0, 1) := by decide +kernel
theorem dX8_areAlike_73 : decode cX8_areAlike 73 = .ok (.getfield 19, 3) := by decide +kernel
theorem dX8_areAlike_76 : decode cX8_areAlike 76 = .ok (.iload_n 1, 1) := by decide +kernel
theorem dX8_areAlike_77 : decode cX8_areAlike 77 = .ok (.iaload, 1) := by decide +kernel
theorem dX8_areAlike_78 : decode cX8_areAlike 78 = .ok (.if_icmp .eq 14, 3) := by decide +kernel
theorem dX8_areAlike_81 : decode cX8_areAlike 81 = .ok (.iload 4, 2) := by decide +kernel
theorem dX8_areAlike_83 : decode cX8_areAlike 83 = .ok (.aload_n 0, 1) := by decide +kernel
theorem dX8_areAlike_84 : decode cX8_areAlike 84 = .ok (.getfield 19, 3) := by decide +kernel
theorem dX8_areAlike_87 : decode cX8_areAlike 87 = .ok (.iload_n 2, 1) := by decide +kernel
theorem dX8_areAlike_88 : decode cX8_areAlike 88 = .ok (.iaload, 1) := by decide +kernel
theorem dX8_areAlike_89 : decode cX8_areAlike 89 = .ok (.if_icmp .ne 7, 3) := by decide +kernel
theorem dX8_areAlike_92 : decode cX8_areAlike 92 = .ok (.iconst 1, 1) := by decide +kernel
theorem dX8_areAlike_93 : decode cX8_areAlike 93 = .ok (.goto 4, 3) := by decide +kernel
theorem dX8_areAlike_96 : decode cX8_areAlike 96 = .ok (.iconst 0, 1) := by decide +kernel
theorem dX8_areAlike_97 : decode cX8_areAlike 97 = .ok (.istore 5, 2) := by decide +kernel
theorem dX8_areAlike_99 : decode cX8_areAlike 99 = .ok (.iload 5, 2) := by decide +kernel
theorem dX8_areAlike_101 : decode cX8_areAlike 101 = .ok (.ifCond .ne 19, 3) := by decide +kernel
theorem dX8_areAlike_104 : decode cX8_areAlike 104 = .ok (.aload_n 0, 1) := by decide +kernel
theorem dX8_areAlike_105 : decode cX8_areAlike 105 = .ok (.getfield 13, 3) := by decide +kernel
theorem dX8_areAlike_108 : decode cX8_areAlike 108 = .ok (.iload_n 3, 1) := by decide +kernel
theorem dX8_areAlike_109 : decode cX8_areAlike 109 = .ok (.iaload, 1) := by decide +kernel
theorem dX8_areAlike_110 : decode cX8_areAlike 110 = .ok (.aload_n 0, 1) := by decide +kernel
theorem dX8_areAlike_111 : decode cX8_areAlike 111 = .ok (.getfield 13, 3) := by decide +kernel
theorem dX8_areAlike_114 : decode cX8_areAlike 114 = .ok (.iload 4, 2) := by decide +kernel
theorem dX8_areAlike_116 : decode cX8_areAlike 116 = .ok (.iaload, 1) := by decide +kernel
theorem dX8_areAlike_117 : decode cX8_areAlike 117 = .ok (.if_icmp .eq 30, 3) := by decide +kernel
theorem dX8_areAlike_120 : decode cX8_areAlike 120 = .ok (.iload_n 3, 1) := by decide +kernel
theorem dX8_areAlike_121 : decode cX8_areAlike 121 = .ok (.aload_n 0, 1) := by decide +kernel
theorem dX8_areAlike_122 : decode cX8_areAlike 122 = .ok (.getfield 19, 3) := by decide +kernel
theorem dX8_areAlike_125 : decode cX8_areAlike 125 = .ok (.iload_n 1, 1) := by decide +kernel
theorem dX8_areAlike_126 : decode cX8_areAlike 126 = .ok (.iaload, 1) := by decide +kernel
theorem dX8_areAlike_127 : decode cX8_areAlike 127 = .ok (.if_icmp .ne 18, 3) := by decide +kernel
theorem dX8_areAlike_130 : decode cX8_areAlike 130 = .ok (.iload 4, 2) := by decide +kernel
theorem dX8_areAlike_132 : decode cX8_areAlike 132 = .ok (.aload_n 0, 1) := by decide +kernel
theorem dX8_areAlike_133 : decode cX8_areAlike 133 = .ok (.getfield 19, 3) := by decide +kernel
theorem dX8_areAlike_136 : decode cX8_areAlike 136 = .ok (.iload_n 2, 1) := by decide +kernel
theorem dX8_areAlike_137 : decode cX8_areAlike 137 = .ok (.iaload, 1) := by decide +kernel
theorem dX8_areAlike_138 : decode cX8_areAlike 138 = .ok (.if_icmp .ne 7, 3) := by decide +kernel
theorem dX8_areAlike_141 : decode cX8_areAlike 141 = .ok (.iconst 1, 1) := by decide +kernel
theorem dX8_areAlike_142 : decode cX8_areAlike 142 = .ok (.goto 4, 3) := by decide +kernel
theorem dX8_areAlike_145 : decode cX8_areAlike 145 = .ok (.iconst 0, 1) := by decide +kernel
theorem dX8_areAlike_146 : decode cX8_areAlike 146 = .ok (.ireturn, 1) := by decide +kernel
theorem dX8_areAlike_147 : decode cX8_areAlike 147 = .ok (.iinc 3 1, 3) := by decide +kernel
theorem dX8_areAlike_150 : decode cX8_areAlike 150 = .ok (.iinc 4 1, 3) := by decide +kernel
theorem dX8_areAlike_153 : decode cX8_areAlike 153 = .ok (.goto (-138), 3) := by decide +kernel
theorem dX8_firstLike_0 : decode cX8_firstLike 0 = .ok (.iconst 0, 1) := by decide +kernel
theorem dX8_firstLike_1 : decode cX8_firstLike 1 = .ok (.istore_n 2, 1) := by decide +kernel
theorem dX8_firstLike_2 : decode cX8_firstLike 2 = .ok (.aload_n 0, 1) := by decide +kernel
theorem dX8_firstLike_3 : decode cX8_firstLike 3 = .ok (.iload_n 2, 1) := by decide +kernel
theorem dX8_firstLike_4 : decode cX8_firstLike 4 = .ok (.iload_n 1, 1) := by decide +kernel
theorem dX8_firstLike_5 : decode cX8_firstLike 5 = .ok (.invokevirtual 137, 3) := by decide +kernel
theorem dX8_firstLike_8 : decode cX8_firstLike 8 = .ok (.ifCond .ne 9, 3) := by decide +kernel
theorem dX8_firstLike_11 : decode cX8_firstLike 11 = .ok (.iinc 2 1, 3) := by decide +kernel
theorem dX8_firstLike_14 : decode cX8_firstLike 14 = .ok (.goto (-12), 3) := by decide +kernel
theorem dX8_firstLike_17 : decode cX8_firstLike 17 = .ok (.iload_n 2, 1) := by decide +kernel
theorem dX8_firstLike_18 : decode cX8_firstLike 18 = .ok (.ireturn, 1) := by decide +kernel
theorem dX8_differents_0 : decode cX8_differents 0 = .ok (.iconst 0, 1) := by decide +kernel
theorem dX8_differents_1 : decode cX8_differents 1 = .ok (.istore_n 1, 1) := by decide +kernel
theorem dX8_differents_2 : decode cX8_differents 2 = .ok (.iconst 0, 1) := by decide +kernel
theorem dX8_differents_3 : decode cX8_differents 3 = .ok (.istore_n 2, 1) := by decide +kernel
theorem dX8_differents_4 : decode cX8_differents 4 = .ok (.iload_n 2, 1) := by decide +kernel
theorem dX8_differents_5 : decode cX8_differents 5 = .ok (.aload_n 0, 1) := by decide +kernel
theorem dX8_differents_6 : decode cX8_differents 6 = .ok (.getfield 127, 3) := by decide +kernel
theorem dX8_differents_9 : decode cX8_differents 9 = .ok (.if_icmp .ge 26, 3) := by decide +kernel
theorem dX8_differents_12 : decode cX8_differents 12 = .ok (.iload_n 1, 1) := by decide +kernel
theorem dX8_differents_13 : decode cX8_differents 13 = .ok (.aload_n 0, 1) := by decide +kernel
theorem dX8_differents_14 : decode cX8_differents 14 = .ok (.iload_n 2, 1) := by decide +kernel
theorem dX8_differents_15 : decode cX8_differents 15 = .ok (.invokevirtual 141, 3) := by decide +kernel
theorem dX8_differents_18 : decode cX8_differents 18 = .ok (.iload_n 2, 1) := by decide +kernel
theorem dX8_differents_19 : decode cX8_differents 19 = .ok (.if_icmp .ne 7, 3) := by decide +kernel
theorem dX8_differents_22 : decode cX8_differents 22 = .ok (.iconst 1, 1) := by decide +kernel
theorem dX8_differents_23 : decode cX8_differents 23 = .ok (.goto 4, 3) := by decide +kernel
theorem dX8_differents_26 : decode cX8_differents 26 = .ok (.iconst 0, 1) := by decide +kernel
theorem dX8_differents_27 : decode cX8_differents 27 = .ok (.iadd, 1) := by decide +kernel
theorem dX8_differents_28 : decode cX8_differents 28 = .ok (.istore_n 1, 1) := by decide +kernel
theorem dX8_differents_29 : decode cX8_differents 29 = .ok (.iinc 2 1, 3) := by decide +kernel
theorem dX8_differents_32 : decode cX8_differents 32 = .ok (.goto (-28), 3) := by decide +kernel
theorem dX8_differents_35 : decode cX8_differents 35 = .ok (.iload_n 1, 1) := by decide +kernel
theorem dX8_differents_36 : decode cX8_differents 36 = .ok (.ireturn, 1) := by decide +kernel
theorem dX8_different_0 : decode cX8_different 0 = .ok (.iload_n 1, 1) := by decide +kernel
theorem dX8_different_1 : decode cX8_different 1 = .ok (.ifCond .lt 12, 3) := by decide +kernel
theorem dX8_different_4 : decode cX8_different 4 = .ok (.iload_n 2, 1) := by decide +kernel
theorem dX8_different_5 : decode cX8_different 5 = .ok (.iconst 0, 1) := by decide +kernel
theorem dX8_different_6 : decode cX8_different 6 = .ok (.iconst 1, 1) := by decide +kernel
theorem dX8_different_7 : decode cX8_different 7 = .ok (.invokestatic 99, 3) := by decide +kernel
theorem dX8_different_10 : decode cX8_different 10 = .ok (.ifCond .ne 5, 3) := by decide +kernel
theorem dX8_different_13 : decode cX8_different 13 = .ok (.iconst (-1), 1) := by decide +kernel
theorem dX8_different_14 : decode cX8_different 14 = .ok (.ireturn, 1) := by decide +kernel
theorem dX8_different_15 : decode cX8_different 15 = .ok (.iload_n 1, 1) := by decide +kernel
theorem dX8_different_16 : decode cX8_different 16 = .ok (.istore_n 3, 1) := by decide +kernel
theorem dX8_different_17 : decode cX8_different 17 = .ok (.iconst 0, 1) := by decide +kernel
theorem dX8_different_18 : decode cX8_different 18 = .ok (.istore 4, 2) := by decide +kernel
theorem dX8_different_20 : decode cX8_different 20 = .ok (.iload 4, 2) := by decide +kernel
theorem dX8_different_22 : decode cX8_different 22 = .ok (.aload_n 0, 1) := by decide +kernel
theorem dX8_different_23 : decode cX8_different 23 = .ok (.getfield 127, 3) := by decide +kernel
theorem dX8_different_26 : decode cX8_different 26 = .ok (.if_icmp .ge 82, 3) := by decide +kernel
theorem dX8_different_29 : decode cX8_different 29 = .ok (.aload_n 0, 1) := by decide +kernel
theorem dX8_different_30 : decode cX8_different 30 = .ok (.iload 4, 2) := by decide +kernel
theorem dX8_different_32 : decode cX8_different 32 = .ok (.invokevirtual 141, 3) := by decide +kernel
theorem dX8_different_35 : decode cX8_different 35 = .ok (.iload 4, 2) := by decide +kernel
theorem dX8_different_37 : decode cX8_different 37 = .ok (.if_icmp .ne 65, 3) := by decide +kernel
theorem dX8_different_40 : decode cX8_different 40 = .ok (.iload_n 3, 1) := by decide +kernel
theorem dX8_different_41 : decode cX8_different 41 = .ok (.ifCond .ne 58, 3) := by decide +kernel
theorem dX8_different_44 : decode cX8_different 44 = .ok (.iconst 0, 1) := by decide +kernel
theorem dX8_different_45 : decode cX8_different 45 = .ok (.istore 5, 2) := by decide +kernel
theorem dX8_different_47 : decode cX8_different 47 = .ok (.iload 4, 2) := by decide +kernel
theorem dX8_different_49 : decode cX8_different 49 = .ok (.istore 6, 2) := by decide +kernel
theorem dX8_different_51 : decode cX8_different 51 = .ok (.iload 6, 2) := by decide +kernel
theorem dX8_different_53 : decode cX8_different 53 = .ok (.aload_n 0, 1) := by decide +kernel
theorem dX8_different_54 : decode cX8_different 54 = .ok (.getfield 127, 3) := by decide +kernel
theorem dX8_different_57 : decode cX8_different 57 = .ok (.if_icmp .ge 30, 3) := by decide +kernel
theorem dX8_different_60 : decode cX8_different 60 = .ok (.iload 5, 2) := by decide +kernel
theorem dX8_different_62 : decode cX8_different 62 = .ok (.aload_n 0, 1) := by decide +kernel
theorem dX8_different_63 : decode cX8_different 63 = .ok (.iload 4, 2) := by decide +kernel
theorem dX8_different_65 : decode cX8_different 65 = .ok (.iload 6, 2) := by decide +kernel
theorem dX8_different_67 : decode cX8_different 67 = .ok (.invokevirtual 137, 3) := by decide +kernel
theorem dX8_different_70 : decode cX8_different 70 = .ok (.ifCond .eq 7, 3) := by decide +kernel
theorem dX8_different_73 : decode cX8_different 73 = .ok (.iconst 1, 1) := by decide +kernel
theorem dX8_different_74 : decode cX8_different 74 = .ok (.goto 4, 3) := by decide +kernel
theorem dX8_different_77 : decode cX8_different 77 = .ok (.iconst 0, 1) := by decide +kernel
theorem dX8_different_78 : decode cX8_different 78 = .ok (.iadd, 1) := by decide +kernel
theorem dX8_different_79 : decode cX8_different 79 = .ok (.istore 5, 2) := by decide +kernel
theorem dX8_different_81 : decode cX8_different 81 = .ok (.iinc 6 1, 3) := by decide +kernel
theorem dX8_different_84 : decode cX8_different 84 = .ok (.goto (-33), 3) := by decide +kernel
theorem dX8_different_87 : decode cX8_different 87 = .ok (.iload_n 2, 1) := by decide +kernel
theorem dX8_different_88 : decode cX8_different 88 = .ok (.ifCond .ne 8, 3) := by decide +kernel
theorem dX8_different_91 : decode cX8_different 91 = .ok (.iload 4, 2) := by decide +kernel
theorem dX8_different_93 : decode cX8_different 93 = .ok (.goto 5, 3) := by decide +kernel
theorem dX8_different_96 : decode cX8_different 96 = .ok (.iload 5, 2) := by decide +kernel
theorem dX8_different_98 : decode cX8_different 98 = .ok (.ireturn, 1) := by decide +kernel
theorem dX8_different_99 : decode cX8_different 99 = .ok (.iinc 3 (-1), 3) := by decide +kernel
theorem dX8_different_102 : decode cX8_different 102 = .ok (.iinc 4 1, 3) := by decide +kernel
theorem dX8_different_105 : decode cX8_different 105 = .ok (.goto (-85), 3) := by decide +kernel
theorem dX8_different_108 : decode cX8_different 108 = .ok (.bipush (-9), 2) := by decide +kernel
theorem dX8_different_110 : decode cX8_different 110 = .ok (.ireturn, 1) := by decide +kernel
theorem dX8_isPlace_0 : decode cX8_isPlace 0 = .ok (.iload_n 1, 1) := by decide +kernel
theorem dX8_isPlace_1 : decode cX8_isPlace 1 = .ok (.iconst 0, 1) := by decide +kernel
theorem dX8_isPlace_2 : decode cX8_isPlace 2 = .ok (.aload_n 0, 1) := by decide +kernel
theorem dX8_isPlace_3 : decode cX8_isPlace 3 = .ok (.getfield 117, 3) := by decide +kernel
theorem dX8_isPlace_6 : decode cX8_isPlace 6 = .ok (.iconst 1, 1) := by decide +kernel
theorem dX8_isPlace_7 : decode cX8_isPlace 7 = .ok (.isub, 1) := by decide +kernel
theorem dX8_isPlace_8 : decode cX8_isPlace 8 = .ok (.invokestatic 99, 3) := by decide +kernel
theorem dX8_isPlace_11 : decode cX8_isPlace 11 = .ok (.ireturn, 1) := by decide +kernel
theorem dX8_place_0 : decode cX8_place 0 = .ok (.aload_n 0, 1) := by decide +kernel
theorem dX8_place_1 : decode cX8_place 1 = .ok (.iload_n 1, 1) := by decide +kernel
theorem dX8_place_2 : decode cX8_place 2 = .ok (.invokevirtual 144, 3) := by decide +kernel
theorem dX8_place_5 : decode cX8_place 5 = .ok (.ifCond .eq 12, 3) := by decide +kernel
theorem dX8_place_8 : decode cX8_place 8 = .ok (.iload_n 2, 1) := by decide +kernel
theorem dX8_place_9 : decode cX8_place 9 = .ok (.iconst 0, 1) := by decide +kernel
theorem dX8_place_10 : decode cX8_place 10 = .ok (.iconst 2, 1) := by decide +kernel
theorem dX8_place_11 : decode cX8_place 11 = .ok (.invokestatic 99, 3) := by decide +kernel
theorem dX8_place_14 : decode cX8_place 14 = .ok (.ifCond .ne 5, 3) := by decide +kernel
theorem dX8_place_17 : decode cX8_place 17 = .ok (.iconst (-1), 1) := by decide +kernel
theorem dX8_place_18 : decode cX8_place 18 = .ok (.ireturn, 1) := by decide +kernel
theorem dX8_place_19 : decode cX8_place 19 = .ok (.iconst 0, 1) := by decide +kernel
theorem dX8_place_20 : decode cX8_place 20 = .ok (.istore_n 3, 1) := by decide +kernel
theorem dX8_place_21 : decode cX8_place 21 = .ok (.aload_n 0, 1) := by decide +kernel
theorem dX8_place_22 : decode cX8_place 22 = .ok (.getfield 16, 3) := by decide +kernel
theorem dX8_place_25 : decode cX8_place 25 = .ok (.aload_n 0, 1) := by decide +kernel
theorem dX8_place_26 : decode cX8_place 26 = .ok (.getfield 22, 3) := by decide +kernel
theorem dX8_place_29 : decode cX8_place 29 = .ok (.iload_n 1, 1) := by decide +kernel
theorem dX8_place_30 : decode cX8_place 30 = .ok (.iaload, 1) := by decide +kernel
theorem dX8_place_31 : decode cX8_place 31 = .ok (.iaload, 1) := by decide +kernel
theorem dX8_place_32 : decode cX8_place 32 = .ok (.istore 4, 2) := by decide +kernel
theorem dX8_place_34 : decode cX8_place 34 = .ok (.iload 4, 2) := by decide +kernel
theorem dX8_place_36 : decode cX8_place 36 = .ok (.aload_n 0, 1) := by decide +kernel
theorem dX8_place_37 : decode cX8_place 37 = .ok (.getfield 25, 3) := by decide +kernel
theorem dX8_place_40 : decode cX8_place 40 = .ok (.iload_n 1, 1) := by decide +kernel
theorem dX8_place_41 : decode cX8_place 41 = .ok (.iaload, 1) := by decide +kernel
theorem dX8_place_42 : decode cX8_place 42 = .ok (.if_icmp .ge 29, 3) := by decide +kernel
theorem dX8_place_45 : decode cX8_place 45 = .ok (.iload_n 3, 1) := by decide +kernel
theorem dX8_place_46 : decode cX8_place 46 = .ok (.aload_n 0, 1) := by decide +kernel
theorem dX8_place_47 : decode cX8_place 47 = .ok (.getfield 13, 3) := by decide +kernel
theorem dX8_place_50 : decode cX8_place 50 = .ok (.iload 4, 2) := by decide +kernel
theorem dX8_place_52 : decode cX8_place 52 = .ok (.iaload, 1) := by decide +kernel
theorem dX8_place_53 : decode cX8_place 53 = .ok (.bipush 47, 2) := by decide +kernel
theorem dX8_place_55 : decode cX8_place 55 = .ok (.if_icmp .ne 7, 3) := by decide +kernel
theorem dX8_place_58 : decode cX8_place 58 = .ok (.iconst 0, 1) := by decide +kernel
theorem dX8_place_59 : decode cX8_place 59 = .ok (.goto 4, 3) := by decide +kernel
theorem dX8_place_62 : decode cX8_place 62 = .ok (.iconst 1, 1) := by decide +kernel
theorem dX8_place_63 : decode cX8_place 63 = .ok (.iadd, 1) := by decide +kernel
theorem dX8_place_64 : decode cX8_place 64 = .ok (.istore_n 3, 1) := by decide +kernel
theorem dX8_place_65 : decode cX8_place 65 = .ok (.iinc 4 1, 3) := by decide +kernel
theorem dX8_place_68 : decode cX8_place 68 = .ok (.goto (-34), 3) := by decide +kernel
theorem dX8_place_71 : decode cX8_place 71 = .ok (.iload_n 2, 1) := by decide +kernel
theorem dX8_place_72 : decode cX8_place 72 = .ok (.ifCond .ne 12, 3) := by decide +kernel
theorem dX8_place_75 : decode cX8_place 75 = .ok (.aload_n 0, 1) := by decide +kernel
theorem dX8_place_76 : decode cX8_place 76 = .ok (.getfield 22, 3) := by decide +kernel
theorem dX8_place_79 : decode cX8_place 79 = .ok (.iload_n 1, 1) := by decide +kernel
theorem dX8_place_80 : decode cX8_place 80 = .ok (.iaload, 1) := by decide +kernel
theorem dX8_place_81 : decode cX8_place 81 = .ok (.goto 26, 3) := by decide +kernel
theorem dX8_place_84 : decode cX8_place 84 = .ok (.iload_n 2, 1) := by decide +kernel
theorem dX8_place_85 : decode cX8_place 85 = .ok (.iconst 1, 1) := by decide +kernel
theorem dX8_place_86 : decode cX8_place 86 = .ok (.if_icmp .ne 7, 3) := by decide +kernel
theorem dX8_place_89 : decode cX8_place 89 = .ok (.iload_n 3, 1) := by decide +kernel
theorem dX8_place_90 : decode cX8_place 90 = .ok (.goto 17, 3) := by decide +kernel
theorem dX8_place_93 : decode cX8_place 93 = .ok (.aload_n 0, 1) := by decide +kernel
theorem dX8_place_94 : decode cX8_place 94 = .ok (.getfield 28, 3) := by decide +kernel
theorem dX8_place_97 : decode cX8_place 97 = .ok (.iload_n 1, 1) := by decide +kernel
theorem dX8_place_98 : decode cX8_place 98 = .ok (.baload, 1) := by decide +kernel
theorem dX8_place_99 : decode cX8_place 99 = .ok (.ifCond .eq 7, 3) := by decide +kernel
theorem dX8_place_102 : decode cX8_place 102 = .ok (.iconst 1, 1) := by decide +kernel
theorem dX8_place_103 : decode cX8_place 103 = .ok (.goto 4, 3) := by decide +kernel
theorem dX8_place_106 : decode cX8_place 106 = .ok (.iconst 0, 1) := by decide +kernel
theorem dX8_place_107 : decode cX8_place 107 = .ok (.ireturn, 1) := by decide +kernel
theorem dX8_notes_0 : decode cX8_notes 0 = .ok (.aload_n 0, 1) := by decide +kernel
theorem dX8_notes_1 : decode cX8_notes 1 = .ok (.getfield 89, 3) := by decide +kernel
theorem dX8_notes_4 : decode cX8_notes 4 = .ok (.bipush 10, 2) := by decide +kernel
theorem dX8_notes_6 : decode cX8_notes 6 = .ok (.if_icmp .ne 43, 3) := by decide +kernel
theorem dX8_notes_9 : decode cX8_notes 9 = .ok (.iconst 0, 1) := by decide +kernel
theorem dX8_notes_10 : decode cX8_notes 10 = .ok (.istore_n 1, 1) := by decide +kernel
theorem dX8_notes_11 : decode cX8_notes 11 = .ok (.iload_n 1, 1) := by decide +kernel
theorem dX8_notes_12 : decode cX8_notes 12 = .ok (.sipush 342, 3) := by decide +kernel
theorem dX8_notes_15 : decode cX8_notes 15 = .ok (.if_icmp .ge 24, 3) := by decide +kernel
theorem dX8_notes_18 : decode cX8_notes 18 = .ok (.aload_n 0, 1) := by decide +kernel
theorem dX8_notes_19 : decode cX8_notes 19 = .ok (.getfield 35, 3) := by decide +kernel
theorem dX8_notes_22 : decode cX8_notes 22 = .ok (.iload_n 1, 1) := by decide +kernel
theorem dX8_notes_23 : decode cX8_notes 23 = .ok (.aload_n 0, 1) := by decide +kernel
theorem dX8_notes_24 : decode cX8_notes 24 = .ok (.getfield 35, 3) := by decide +kernel
theorem dX8_notes_27 : decode cX8_notes 27 = .ok (.iload_n 1, 1) := by decide +kernel
theorem dX8_notes_28 : decode cX8_notes 28 = .ok (.bipush 38, 2) := by decide +kernel
theorem dX8_notes_30 : decode cX8_notes 30 = .ok (.iadd, 1) := by decide +kernel
theorem dX8_notes_31 : decode cX8_notes 31 = .ok (.iaload, 1) := by decide +kernel
theorem dX8_notes_32 : decode cX8_notes 32 = .ok (.iastore, 1) := by decide +kernel
theorem dX8_notes_33 : decode cX8_notes 33 = .ok (.iinc 1 1, 3) := by decide +kernel
theorem dX8_notes_36 : decode cX8_notes 36 = .ok (.goto (-25), 3) := by decide +kernel
theorem dX8_notes_39 : decode cX8_notes 39 = .ok (.aload_n 0, 1) := by decide +kernel
theorem dX8_notes_40 : decode cX8_notes 40 = .ok (.dup, 1) := by decide +kernel
theorem dX8_notes_41 : decode cX8_notes 41 = .ok (.getfield 89, 3) := by decide +kernel
theorem dX8_notes_44 : decode cX8_notes 44 = .ok (.iconst 1, 1) := by decide +kernel
theorem dX8_notes_45 : decode cX8_notes 45 = .ok (.isub, 1) := by decide +kernel
theorem dX8_notes_46 : decode cX8_notes 46 = .ok (.putfield 89, 3) := by decide +kernel
theorem dX8_notes_49 : decode cX8_notes 49 = .ok (.iconst 0, 1) := by decide +kernel
theorem dX8_notes_50 : decode cX8_notes 50 = .ok (.istore_n 1, 1) := by decide +kernel
theorem dX8_notes_51 : decode cX8_notes 51 = .ok (.iload_n 1, 1) := by decide +kernel
theorem dX8_notes_52 : decode cX8_notes 52 = .ok (.bipush 38, 2) := by decide +kernel
theorem dX8_notes_54 : decode cX8_notes 54 = .ok (.if_icmp .ge 29, 3) := by decide +kernel
theorem dX8_notes_57 : decode cX8_notes 57 = .ok (.aload_n 0, 1) := by decide +kernel
theorem dX8_notes_58 : decode cX8_notes 58 = .ok (.getfield 35, 3) := by decide +kernel
theorem dX8_notes_61 : decode cX8_notes 61 = .ok (.bipush 38, 2) := by decide +kernel
theorem dX8_notes_63 : decode cX8_notes 63 = .ok (.aload_n 0, 1) := by decide +kernel
theorem dX8_notes_64 : decode cX8_notes 64 = .ok (.getfield 89, 3) := by decide +kernel
theorem dX8_notes_67 : decode cX8_notes 67 = .ok (.imul, 1) := by decide +kernel
theorem dX8_notes_68 : decode cX8_notes 68 = .ok (.iload_n 1, 1) := by decide +kernel
theorem dX8_notes_69 : decode cX8_notes 69 = .ok (.iadd, 1) := by decide +kernel
theorem dX8_notes_70 : decode cX8_notes 70 = .ok (.aload_n 0, 1) := by decide +kernel
theorem dX8_notes_71 : decode cX8_notes 71 = .ok (.getfield 32, 3) := by decide +kernel
theorem dX8_notes_74 : decode cX8_notes 74 = .ok (.iload_n 1, 1) := by decide +kernel
theorem dX8_notes_75 : decode cX8_notes 75 = .ok (.iaload, 1) := by decide +kernel
theorem dX8_notes_76 : decode cX8_notes 76 = .ok (.iastore, 1) := by decide +kernel
theorem dX8_notes_77 : decode cX8_notes 77 = .ok (.iinc 1 1, 3) := by decide +kernel
theorem dX8_notes_80 : decode cX8_notes 80 = .ok (.goto (-29), 3) := by decide +kernel
theorem dX8_notes_83 : decode cX8_notes 83 = .ok (.aload_n 0, 1) := by decide +kernel
theorem dX8_notes_84 : decode cX8_notes 84 = .ok (.dup, 1) := by decide +kernel
theorem dX8_notes_85 : decode cX8_notes 85 = .ok (.getfield 89, 3) := by decide +kernel
theorem dX8_notes_88 : decode cX8_notes 88 = .ok (.iconst 1, 1) := by decide +kernel
theorem dX8_notes_89 : decode cX8_notes 89 = .ok (.iadd, 1) := by decide +kernel
theorem dX8_notes_90 : decode cX8_notes 90 = .ok (.putfield 89, 3) := by decide +kernel
theorem dX8_notes_93 : decode cX8_notes 93 = .ok (.return_, 1) := by decide +kernel
theorem dX8_becomes_0 : decode cX8_becomes 0 = .ok (.aload_n 0, 1) := by decide +kernel
theorem dX8_becomes_1 : decode cX8_becomes 1 = .ok (.getfield 32, 3) := by decide +kernel
theorem dX8_becomes_4 : decode cX8_becomes 4 = .ok (.iload_n 1, 1) := by decide +kernel
theorem dX8_becomes_5 : decode cX8_becomes 5 = .ok (.iaload, 1) := by decide +kernel
theorem dX8_becomes_6 : decode cX8_becomes 6 = .ok (.istore_n 3, 1) := by decide +kernel
theorem dX8_becomes_7 : decode cX8_becomes 7 = .ok (.iload_n 3, 1) := by decide +kernel
theorem dX8_becomes_8 : decode cX8_becomes 8 = .ok (.iload_n 2, 1) := by decide +kernel
theorem dX8_becomes_9 : decode cX8_becomes 9 = .ok (.if_icmp .ne 6, 3) := by decide +kernel
theorem dX8_becomes_12 : decode cX8_becomes 12 = .ok (.bipush (-2), 2) := by decide +kernel
theorem dX8_becomes_14 : decode cX8_becomes 14 = .ok (.ireturn, 1) := by decide +kernel
theorem dX8_becomes_15 : decode cX8_becomes 15 = .ok (.aload_n 0, 1) := by decide +kernel
theorem dX8_becomes_16 : decode cX8_becomes 16 = .ok (.invokevirtual 147, 3) := by decide +kernel
theorem dX8_becomes_19 : decode cX8_becomes 19 = .ok (.aload_n 0, 1) := by decide +kernel
theorem dX8_becomes_20 : decode cX8_becomes 20 = .ok (.getfield 32, 3) := by decide +kernel
theorem dX8_becomes_23 : decode cX8_becomes 23 = .ok (.iload_n 1, 1) := by decide +kernel
theorem dX8_becomes_24 : decode cX8_becomes 24 = .ok (.iload_n 2, 1) := by decide +kernel
theorem dX8_becomes_25 : decode cX8_becomes 25 = .ok (.iastore, 1) := by decide +kernel
theorem dX8_becomes_26 : decode cX8_becomes 26 = .ok (.iload_n 3, 1) := by decide +kernel
theorem dX8_becomes_27 : decode cX8_becomes 27 = .ok (.ireturn, 1) := by decide +kernel
theorem dX8_widthOf_0 : decode cX8_widthOf 0 = .ok (.iload_n 0, 1) := by decide +kernel
theorem dX8_widthOf_1 : decode cX8_widthOf 1 = .ok (.bipush 97, 2) := by decide +kernel
theorem dX8_widthOf_3 : decode cX8_widthOf 3 = .ok (.bipush 122, 2) := by decide +kernel
theorem dX8_widthOf_5 : decode cX8_widthOf 5 = .ok (.invokestatic 99, 3) := by decide +kernel
theorem dX8_widthOf_8 : decode cX8_widthOf 8 = .ok (.ifCond .eq 10, 3) := by decide +kernel
theorem dX8_widthOf_11 : decode cX8_widthOf 11 = .ok (.iload_n 0, 1) := by decide +kernel
theorem dX8_widthOf_12 : decode cX8_widthOf 12 = .ok (.bipush 97, 2) := by decide +kernel
theorem dX8_widthOf_14 : decode cX8_widthOf 14 = .ok (.isub, 1) := by decide +kernel
theorem dX8_widthOf_15 : decode cX8_widthOf 15 = .ok (.goto 10, 3) := by decide +kernel
theorem dX8_widthOf_18 : decode cX8_widthOf 18 = .ok (.bipush 26, 2) := by decide +kernel
theorem dX8_widthOf_20 : decode cX8_widthOf 20 = .ok (.iload_n 0, 1) := by decide +kernel
theorem dX8_widthOf_21 : decode cX8_widthOf 21 = .ok (.invokestatic 106, 3) := by decide +kernel
theorem dX8_widthOf_24 : decode cX8_widthOf 24 = .ok (.iadd, 1) := by decide +kernel
theorem dX8_widthOf_25 : decode cX8_widthOf 25 = .ok (.ireturn, 1) := by decide +kernel
theorem dX8_wide_0 : decode cX8_wide 0 = .ok (.iload_n 1, 1) := by decide +kernel
theorem dX8_wide_1 : decode cX8_wide 1 = .ok (.invokestatic 110, 3) := by decide +kernel
theorem dX8_wide_4 : decode cX8_wide 4 = .ok (.ifCond .eq 25, 3) := by decide +kernel
theorem dX8_wide_7 : decode cX8_wide 7 = .ok (.iload_n 2, 1) := by decide +kernel
theorem dX8_wide_8 : decode cX8_wide 8 = .ok (.iconst 0, 1) := by decide +kernel
theorem dX8_wide_9 : decode cX8_wide 9 = .ok (.bipush 9, 2) := by decide +kernel
theorem dX8_wide_11 : decode cX8_wide 11 = .ok (.invokestatic 99, 3) := by decide +kernel
theorem dX8_wide_14 : decode cX8_wide 14 = .ok (.ifCond .eq 15, 3) := by decide +kernel
theorem dX8_wide_17 : decode cX8_wide 17 = .ok (.aload_n 0, 1) := by decide +kernel
theorem dX8_wide_18 : decode cX8_wide 18 = .ok (.iload_n 1, 1) := by decide +kernel
theorem dX8_wide_19 : decode cX8_wide 19 = .ok (.invokestatic 150, 3) := by decide +kernel
theorem dX8_wide_22 : decode cX8_wide 22 = .ok (.iload_n 2, 1) := by decide +kernel
theorem dX8_wide_23 : decode cX8_wide 23 = .ok (.invokevirtual 153, 3) := by decide +kernel
theorem dX8_wide_26 : decode cX8_wide 26 = .ok (.goto 4, 3) := by decide +kernel
theorem dX8_wide_29 : decode cX8_wide 29 = .ok (.iconst (-1), 1) := by decide +kernel
theorem dX8_wide_30 : decode cX8_wide 30 = .ok (.ireturn, 1) := by decide +kernel
theorem dX8_hangs_0 : decode cX8_hangs 0 = .ok (.iload_n 1, 1) := by decide +kernel
theorem dX8_hangs_1 : decode cX8_hangs 1 = .ok (.invokestatic 106, 3) := by decide +kernel
theorem dX8_hangs_4 : decode cX8_hangs 4 = .ok (.bipush (-9), 2) := by decide +kernel
theorem dX8_hangs_6 : decode cX8_hangs 6 = .ok (.if_icmp .eq 28, 3) := by decide +kernel
theorem dX8_hangs_9 : decode cX8_hangs 9 = .ok (.iload_n 2, 1) := by decide +kernel
theorem dX8_hangs_10 : decode cX8_hangs 10 = .ok (.iconst 0, 1) := by decide +kernel
theorem dX8_hangs_11 : decode cX8_hangs 11 = .ok (.bipush 10, 2) := by decide +kernel
theorem dX8_hangs_13 : decode cX8_hangs 13 = .ok (.invokestatic 99, 3) := by decide +kernel
theorem dX8_hangs_16 : decode cX8_hangs 16 = .ok (.ifCond .eq 18, 3) := by decide +kernel
theorem dX8_hangs_19 : decode cX8_hangs 19 = .ok (.aload_n 0, 1) := by decide +kernel
theorem dX8_hangs_20 : decode cX8_hangs 20 = .ok (.bipush 30, 2) := by decide +kernel
theorem dX8_hangs_22 : decode cX8_hangs 22 = .ok (.iload_n 1, 1) := by decide +kernel
theorem dX8_hangs_23 : decode cX8_hangs 23 = .ok (.invokestatic 106, 3) := by decide +kernel
theorem dX8_hangs_26 : decode cX8_hangs 26 = .ok (.iadd, 1) := by decide +kernel
theorem dX8_hangs_27 : decode cX8_hangs 27 = .ok (.iload_n 2, 1) := by decide +kernel
theorem dX8_hangs_28 : decode cX8_hangs 28 = .ok (.invokevirtual 153, 3) := by decide +kernel
theorem dX8_hangs_31 : decode cX8_hangs 31 = .ok (.goto 4, 3) := by decide +kernel
theorem dX8_hangs_34 : decode cX8_hangs 34 = .ok (.iconst (-1), 1) := by decide +kernel
theorem dX8_hangs_35 : decode cX8_hangs 35 = .ok (.ireturn, 1) := by decide +kernel
theorem dX8_sets_0 : decode cX8_sets 0 = .ok (.iload_n 1, 1) := by decide +kernel
theorem dX8_sets_1 : decode cX8_sets 1 = .ok (.ifCond .ne 13, 3) := by decide +kernel
theorem dX8_sets_4 : decode cX8_sets 4 = .ok (.iload_n 2, 1) := by decide +kernel
theorem dX8_sets_5 : decode cX8_sets 5 = .ok (.iconst 1, 1) := by decide +kernel
theorem dX8_sets_6 : decode cX8_sets 6 = .ok (.bipush 9, 2) := by decide +kernel
theorem dX8_sets_8 : decode cX8_sets 8 = .ok (.invokestatic 99, 3) := by decide +kernel
theorem dX8_sets_11 : decode cX8_sets 11 = .ok (.goto 45, 3) := by decide +kernel
theorem dX8_sets_14 : decode cX8_sets 14 = .ok (.iload_n 1, 1) := by decide +kernel
theorem dX8_sets_15 : decode cX8_sets 15 = .ok (.iconst 1, 1) := by decide +kernel
theorem dX8_sets_16 : decode cX8_sets 16 = .ok (.if_icmp .ne 15, 3) := by decide +kernel
theorem dX8_sets_19 : decode cX8_sets 19 = .ok (.iload_n 2, 1) := by decide +kernel
theorem dX8_sets_20 : decode cX8_sets 20 = .ok (.bipush 10, 2) := by decide +kernel
theorem dX8_sets_22 : decode cX8_sets 22 = .ok (.sipush 200, 3) := by decide +kernel
theorem dX8_sets_25 : decode cX8_sets 25 = .ok (.invokestatic 99, 3) := by decide +kernel
theorem dX8_sets_28 : decode cX8_sets 28 = .ok (.goto 28, 3) := by decide +kernel
theorem dX8_sets_31 : decode cX8_sets 31 = .ok (.iload_n 1, 1) := by decide +kernel
theorem dX8_sets_32 : decode cX8_sets 32 = .ok (.iconst 2, 1) := by decide +kernel
theorem dX8_sets_33 : decode cX8_sets 33 = .ok (.iconst 3, 1) := by decide +kernel
theorem dX8_sets_34 : decode cX8_sets 34 = .ok (.invokestatic 99, 3) := by decide +kernel
theorem dX8_sets_37 : decode cX8_sets 37 = .ok (.ifCond .eq 18, 3) := by decide +kernel
theorem dX8_sets_40 : decode cX8_sets 40 = .ok (.iload_n 2, 1) := by decide +kernel
theorem dX8_sets_41 : decode cX8_sets 41 = .ok (.iconst 0, 1) := by decide +kernel
theorem dX8_sets_42 : decode cX8_sets 42 = .ok (.sipush 999, 3) := by decide +kernel
theorem dX8_sets_45 : decode cX8_sets 45 = .ok (.invokestatic 99, 3) := by decide +kernel
theorem dX8_sets_48 : decode cX8_sets 48 = .ok (.ifCond .eq 7, 3) := by decide +kernel
theorem dX8_sets_51 : decode cX8_sets 51 = .ok (.iconst 1, 1) := by decide +kernel
theorem dX8_sets_52 : decode cX8_sets 52 = .ok (.goto 4, 3) := by decide +kernel
theorem dX8_sets_55 : decode cX8_sets 55 = .ok (.iconst 0, 1) := by decide +kernel
theorem dX8_sets_56 : decode cX8_sets 56 = .ok (.istore_n 3, 1) := by decide +kernel
theorem dX8_sets_57 : decode cX8_sets 57 = .ok (.iload_n 3, 1) := by decide +kernel
theorem dX8_sets_58 : decode cX8_sets 58 = .ok (.ifCond .eq 15, 3) := by decide +kernel
theorem dX8_sets_61 : decode cX8_sets 61 = .ok (.aload_n 0, 1) := by decide +kernel
theorem dX8_sets_62 : decode cX8_sets 62 = .ok (.bipush 34, 2) := by decide +kernel
theorem dX8_sets_64 : decode cX8_sets 64 = .ok (.iload_n 1, 1) := by decide +kernel
theorem dX8_sets_65 : decode cX8_sets 65 = .ok (.iadd, 1) := by decide +kernel
theorem dX8_sets_66 : decode cX8_sets 66 = .ok (.iload_n 2, 1) := by decide +kernel
theorem dX8_sets_67 : decode cX8_sets 67 = .ok (.invokevirtual 153, 3) := by decide +kernel
theorem dX8_sets_70 : decode cX8_sets 70 = .ok (.goto 4, 3) := by decide +kernel
theorem dX8_sets_73 : decode cX8_sets 73 = .ok (.iconst (-1), 1) := by decide +kernel
theorem dX8_sets_74 : decode cX8_sets 74 = .ok (.ireturn, 1) := by decide +kernel
theorem dX8_undo_0 : decode cX8_undo 0 = .ok (.aload_n 0, 1) := by decide +kernel
theorem dX8_undo_1 : decode cX8_undo 1 = .ok (.getfield 89, 3) := by decide +kernel
theorem dX8_undo_4 : decode cX8_undo 4 = .ok (.ifCond .ne 6, 3) := by decide +kernel
theorem dX8_undo_7 : decode cX8_undo 7 = .ok (.bipush (-2), 2) := by decide +kernel
theorem dX8_undo_9 : decode cX8_undo 9 = .ok (.ireturn, 1) := by decide +kernel
theorem dX8_undo_10 : decode cX8_undo 10 = .ok (.aload_n 0, 1) := by decide +kernel
theorem dX8_undo_11 : decode cX8_undo 11 = .ok (.dup, 1) := by decide +kernel
theorem dX8_undo_12 : decode cX8_undo 12 = .ok (.getfield 89, 3) := by decide +kernel
theorem dX8_undo_15 : decode cX8_undo 15 = .ok (.iconst 1, 1) := by decide +kernel
theorem dX8_undo_16 : decode cX8_undo 16 = .ok (.isub, 1) := by decide +kernel
theorem dX8_undo_17 : decode cX8_undo 17 = .ok (.putfield 89, 3) := by decide +kernel
theorem dX8_undo_20 : decode cX8_undo 20 = .ok (.iconst 0, 1) := by decide +kernel
theorem dX8_undo_21 : decode cX8_undo 21 = .ok (.istore_n 1, 1) := by decide +kernel
theorem dX8_undo_22 : decode cX8_undo 22 = .ok (.iload_n 1, 1) := by decide +kernel
theorem dX8_undo_23 : decode cX8_undo 23 = .ok (.bipush 38, 2) := by decide +kernel
theorem dX8_undo_25 : decode cX8_undo 25 = .ok (.if_icmp .ge 29, 3) := by decide +kernel
theorem dX8_undo_28 : decode cX8_undo 28 = .ok (.aload_n 0, 1) := by decide +kernel
theorem dX8_undo_29 : decode cX8_undo 29 = .ok (.getfield 32, 3) := by decide +kernel
theorem dX8_undo_32 : decode cX8_undo 32 = .ok (.iload_n 1, 1) := by decide +kernel
theorem dX8_undo_33 : decode cX8_undo 33 = .ok (.aload_n 0, 1) := by decide +kernel
theorem dX8_undo_34 : decode cX8_undo 34 = .ok (.getfield 35, 3) := by decide +kernel
theorem dX8_undo_37 : decode cX8_undo 37 = .ok (.bipush 38, 2) := by decide +kernel
theorem dX8_undo_39 : decode cX8_undo 39 = .ok (.aload_n 0, 1) := by decide +kernel
theorem dX8_undo_40 : decode cX8_undo 40 = .ok (.getfield 89, 3) := by decide +kernel
theorem dX8_undo_43 : decode cX8_undo 43 = .ok (.imul, 1) := by decide +kernel
theorem dX8_undo_44 : decode cX8_undo 44 = .ok (.iload_n 1, 1) := by decide +kernel
theorem dX8_undo_45 : decode cX8_undo 45 = .ok (.iadd, 1) := by decide +kernel
theorem dX8_undo_46 : decode cX8_undo 46 = .ok (.iaload, 1) := by decide +kernel
theorem dX8_undo_47 : decode cX8_undo 47 = .ok (.iastore, 1) := by decide +kernel
theorem dX8_undo_48 : decode cX8_undo 48 = .ok (.iinc 1 1, 3) := by decide +kernel
theorem dX8_undo_51 : decode cX8_undo 51 = .ok (.goto (-29), 3) := by decide +kernel
theorem dX8_undo_54 : decode cX8_undo 54 = .ok (.aload_n 0, 1) := by decide +kernel
theorem dX8_undo_55 : decode cX8_undo 55 = .ok (.getfield 89, 3) := by decide +kernel
theorem dX8_undo_58 : decode cX8_undo 58 = .ok (.ireturn, 1) := by decide +kernel
theorem dX8_sums_0 : decode cX8_sums 0 = .ok (.aload_n 0, 1) := by decide +kernel
theorem dX8_sums_1 : decode cX8_sums 1 = .ok (.getfield 53, 3) := by decide +kernel
theorem dX8_sums_4 : decode cX8_sums 4 = .ok (.iconst 0, 1) := by decide +kernel
theorem dX8_sums_5 : decode cX8_sums 5 = .ok (.iconst 0, 1) := by decide +kernel
theorem dX8_sums_6 : decode cX8_sums 6 = .ok (.iastore, 1) := by decide +kernel
theorem dX8_sums_7 : decode cX8_sums 7 = .ok (.iconst 0, 1) := by decide +kernel
theorem dX8_sums_8 : decode cX8_sums 8 = .ok (.istore_n 1, 1) := by decide +kernel
theorem dX8_sums_9 : decode cX8_sums 9 = .ok (.iload_n 1, 1) := by decide +kernel
theorem dX8_sums_10 : decode cX8_sums 10 = .ok (.aload_n 0, 1) := by decide +kernel
theorem dX8_sums_11 : decode cX8_sums 11 = .ok (.getfield 124, 3) := by decide +kernel
theorem dX8_sums_14 : decode cX8_sums 14 = .ok (.if_icmp .ge 64, 3) := by decide +kernel
theorem dX8_sums_17 : decode cX8_sums 17 = .ok (.aload_n 0, 1) := by decide +kernel
theorem dX8_sums_18 : decode cX8_sums 18 = .ok (.getfield 53, 3) := by decide +kernel
theorem dX8_sums_21 : decode cX8_sums 21 = .ok (.iload_n 1, 1) := by decide +kernel
theorem dX8_sums_22 : decode cX8_sums 22 = .ok (.iconst 1, 1) := by decide +kernel
theorem dX8_sums_23 : decode cX8_sums 23 = .ok (.iadd, 1) := by decide +kernel
theorem dX8_sums_24 : decode cX8_sums 24 = .ok (.aload_n 0, 1) := by decide +kernel
theorem dX8_sums_25 : decode cX8_sums 25 = .ok (.getfield 53, 3) := by decide +kernel
theorem dX8_sums_28 : decode cX8_sums 28 = .ok (.iload_n 1, 1) := by decide +kernel
theorem dX8_sums_29 : decode cX8_sums 29 = .ok (.iaload, 1) := by decide +kernel
theorem dX8_sums_30 : decode cX8_sums 30 = .ok (.aload_n 0, 1) := by decide +kernel
theorem dX8_sums_31 : decode cX8_sums 31 = .ok (.getfield 13, 3) := by decide +kernel
theorem dX8_sums_34 : decode cX8_sums 34 = .ok (.iload_n 1, 1) := by decide +kernel
theorem dX8_sums_35 : decode cX8_sums 35 = .ok (.iaload, 1) := by decide +kernel
theorem dX8_sums_36 : decode cX8_sums 36 = .ok (.bipush 32, 2) := by decide +kernel
theorem dX8_sums_38 : decode cX8_sums 38 = .ok (.if_icmp .eq 14, 3) := by decide +kernel
theorem dX8_sums_41 : decode cX8_sums 41 = .ok (.aload_n 0, 1) := by decide +kernel
theorem dX8_sums_42 : decode cX8_sums 42 = .ok (.getfield 13, 3) := by decide +kernel
theorem dX8_sums_45 : decode cX8_sums 45 = .ok (.iload_n 1, 1) := by decide +kernel
theorem dX8_sums_46 : decode cX8_sums 46 = .ok (.iaload, 1) := by decide +kernel
theorem dX8_sums_47 : decode cX8_sums 47 = .ok (.bipush 47, 2) := by decide +kernel
theorem dX8_sums_49 : decode cX8_sums 49 = .ok (.if_icmp .ne 7, 3) := by decide +kernel
theorem dX8_sums_52 : decode cX8_sums 52 = .ok (.iconst 0, 1) := by decide +kernel
theorem dX8_sums_53 : decode cX8_sums 53 = .ok (.goto 17, 3) := by decide +kernel
theorem dX8_sums_56 : decode cX8_sums 56 = .ok (.aload_n 0, 1) := by decide +kernel
theorem dX8_sums_57 : decode cX8_sums 57 = .ok (.getfield 32, 3) := by decide +kernel
theorem dX8_sums_60 : decode cX8_sums 60 = .ok (.aload_n 0, 1) := by decide +kernel
theorem dX8_sums_61 : decode cX8_sums 61 = .ok (.getfield 13, 3) := by decide +kernel
theorem dX8_sums_64 : decode cX8_sums 64 = .ok (.iload_n 1, 1) := by decide +kernel
theorem dX8_sums_65 : decode cX8_sums 65 = .ok (.iaload, 1) := by decide +kernel
theorem dX8_sums_66 : decode cX8_sums 66 = .ok (.invokestatic 150, 3) := by decide +kernel
theorem dX8_sums_69 : decode cX8_sums 69 = .ok (.iaload, 1) := by decide +kernel
theorem dX8_sums_70 : decode cX8_sums 70 = .ok (.iadd, 1) := by decide +kernel
theorem dX8_sums_71 : decode cX8_sums 71 = .ok (.iastore, 1) := by decide +kernel
theorem dX8_sums_72 : decode cX8_sums 72 = .ok (.iinc 1 1, 3) := by decide +kernel
theorem dX8_sums_75 : decode cX8_sums 75 = .ok (.goto (-66), 3) := by decide +kernel
theorem dX8_sums_78 : decode cX8_sums 78 = .ok (.return_, 1) := by decide +kernel
theorem dX8_firstWord_0 : decode cX8_firstWord 0 = .ok (.iload_n 1, 1) := by decide +kernel
theorem dX8_firstWord_1 : decode cX8_firstWord 1 = .ok (.ifCond .ge 7, 3) := by decide +kernel
theorem dX8_firstWord_4 : decode cX8_firstWord 4 = .ok (.iconst 0, 1) := by decide +kernel
theorem dX8_firstWord_5 : decode cX8_firstWord 5 = .ok (.goto 29, 3) := by decide +kernel
theorem dX8_firstWord_8 : decode cX8_firstWord 8 = .ok (.aload_n 0, 1) := by decide +kernel
theorem dX8_firstWord_9 : decode cX8_firstWord 9 = .ok (.getfield 28, 3) := by decide +kernel
theorem dX8_firstWord_12 : decode cX8_firstWord 12 = .ok (.iload_n 1, 1) := by decide +kernel
theorem dX8_firstWord_13 : decode cX8_firstWord 13 = .ok (.baload, 1) := by decide +kernel
theorem dX8_firstWord_14 : decode cX8_firstWord 14 = .ok (.ifCond .eq 12, 3) := by decide +kernel
theorem dX8_firstWord_17 : decode cX8_firstWord 17 = .ok (.aload_n 0, 1) := by decide +kernel
theorem dX8_firstWord_18 : decode cX8_firstWord 18 = .ok (.getfield 22, 3) := by decide +kernel
theorem dX8_firstWord_21 : decode cX8_firstWord 21 = .ok (.iload_n 1, 1) := by decide +kernel
theorem dX8_firstWord_22 : decode cX8_firstWord 22 = .ok (.iaload, 1) := by decide +kernel
theorem dX8_firstWord_23 : decode cX8_firstWord 23 = .ok (.goto 11, 3) := by decide +kernel
theorem dX8_firstWord_26 : decode cX8_firstWord 26 = .ok (.aload_n 0, 1) := by decide +kernel
theorem dX8_firstWord_27 : decode cX8_firstWord 27 = .ok (.getfield 22, 3) := by decide +kernel
theorem dX8_firstWord_30 : decode cX8_firstWord 30 = .ok (.iload_n 1, 1) := by decide +kernel
theorem dX8_firstWord_31 : decode cX8_firstWord 31 = .ok (.iaload, 1) := by decide +kernel
theorem dX8_firstWord_32 : decode cX8_firstWord 32 = .ok (.iconst 1, 1) := by decide +kernel
theorem dX8_firstWord_33 : decode cX8_firstWord 33 = .ok (.iadd, 1) := by decide +kernel
theorem dX8_firstWord_34 : decode cX8_firstWord 34 = .ok (.ireturn, 1) := by decide +kernel
theorem dX8_firstLetter_0 : decode cX8_firstLetter 0 = .ok (.iload_n 1, 1) := by decide +kernel
theorem dX8_firstLetter_1 : decode cX8_firstLetter 1 = .ok (.ifCond .lt 23, 3) := by decide +kernel
theorem dX8_firstLetter_4 : decode cX8_firstLetter 4 = .ok (.aload_n 0, 1) := by decide +kernel
theorem dX8_firstLetter_5 : decode cX8_firstLetter 5 = .ok (.getfield 28, 3) := by decide +kernel
theorem dX8_firstLetter_8 : decode cX8_firstLetter 8 = .ok (.iload_n 1, 1) := by decide +kernel
theorem dX8_firstLetter_9 : decode cX8_firstLetter 9 = .ok (.baload, 1) := by decide +kernel
theorem dX8_firstLetter_10 : decode cX8_firstLetter 10 = .ok (.ifCond .eq 14, 3) := by decide +kernel
theorem dX8_firstLetter_13 : decode cX8_firstLetter 13 = .ok (.aload_n 0, 1) := by decide +kernel
theorem dX8_firstLetter_14 : decode cX8_firstLetter 14 = .ok (.getfield 25, 3) := by decide +kernel
theorem dX8_firstLetter_17 : decode cX8_firstLetter 17 = .ok (.iload_n 1, 1) := by decide +kernel
theorem dX8_firstLetter_18 : decode cX8_firstLetter 18 = .ok (.iaload, 1) := by decide +kernel
theorem dX8_firstLetter_19 : decode cX8_firstLetter 19 = .ok (.iconst 1, 1) := by decide +kernel
theorem dX8_firstLetter_20 : decode cX8_firstLetter 20 = .ok (.iadd, 1) := by decide +kernel
theorem dX8_firstLetter_21 : decode cX8_firstLetter 21 = .ok (.goto 13, 3) := by decide +kernel
theorem dX8_firstLetter_24 : decode cX8_firstLetter 24 = .ok (.aload_n 0, 1) := by decide +kernel
theorem dX8_firstLetter_25 : decode cX8_firstLetter 25 = .ok (.getfield 16, 3) := by decide +kernel
theorem dX8_firstLetter_28 : decode cX8_firstLetter 28 = .ok (.aload_n 0, 1) := by decide +kernel
theorem dX8_firstLetter_29 : decode cX8_firstLetter 29 = .ok (.iload_n 1, 1) := by decide +kernel
theorem dX8_firstLetter_30 : decode cX8_firstLetter 30 = .ok (.invokevirtual 157, 3) := by decide +kernel
theorem dX8_firstLetter_33 : decode cX8_firstLetter 33 = .ok (.iaload, 1) := by decide +kernel
theorem dX8_firstLetter_34 : decode cX8_firstLetter 34 = .ok (.ireturn, 1) := by decide +kernel
theorem dX8_natural_0 : decode cX8_natural 0 = .ok (.aload_n 0, 1) := by decide +kernel
theorem dX8_natural_1 : decode cX8_natural 1 = .ok (.getfield 22, 3) := by decide +kernel
theorem dX8_natural_4 : decode cX8_natural 4 = .ok (.iload_n 2, 1) := by decide +kernel
theorem dX8_natural_5 : decode cX8_natural 5 = .ok (.iaload, 1) := by decide +kernel
theorem dX8_natural_6 : decode cX8_natural 6 = .ok (.aload_n 0, 1) := by decide +kernel
theorem dX8_natural_7 : decode cX8_natural 7 = .ok (.iload_n 1, 1) := by decide +kernel
theorem dX8_natural_8 : decode cX8_natural 8 = .ok (.invokevirtual 157, 3) := by decide +kernel
theorem dX8_natural_11 : decode cX8_natural 11 = .ok (.isub, 1) := by decide +kernel
theorem dX8_natural_12 : decode cX8_natural 12 = .ok (.istore_n 3, 1) := by decide +kernel
theorem dX8_natural_13 : decode cX8_natural 13 = .ok (.aload_n 0, 1) := by decide +kernel
theorem dX8_natural_14 : decode cX8_natural 14 = .ok (.getfield 53, 3) := by decide +kernel
theorem dX8_natural_17 : decode cX8_natural 17 = .ok (.aload_n 0, 1) := by decide +kernel
theorem dX8_natural_18 : decode cX8_natural 18 = .ok (.getfield 25, 3) := by decide +kernel
theorem dX8_natural_21 : decode cX8_natural 21 = .ok (.iload_n 2, 1) := by decide +kernel
theorem dX8_natural_22 : decode cX8_natural 22 = .ok (.iaload, 1) := by decide +kernel
theorem dX8_natural_23 : decode cX8_natural 23 = .ok (.iaload, 1) := by decide +kernel
theorem dX8_natural_24 : decode cX8_natural 24 = .ok (.aload_n 0, 1) := by decide +kernel
theorem dX8_natural_25 : decode cX8_natural 25 = .ok (.getfield 53, 3) := by decide +kernel
theorem dX8_natural_28 : decode cX8_natural 28 = .ok (.aload_n 0, 1) := by decide +kernel
theorem dX8_natural_29 : decode cX8_natural 29 = .ok (.iload_n 1, 1) := by decide +kernel
theorem dX8_natural_30 : decode cX8_natural 30 = .ok (.invokevirtual 160, 3) := by decide +kernel
theorem dX8_natural_33 : decode cX8_natural 33 = .ok (.iaload, 1) := by decide +kernel
theorem dX8_natural_34 : decode cX8_natural 34 = .ok (.isub, 1) := by decide +kernel
theorem dX8_natural_35 : decode cX8_natural 35 = .ok (.aload_n 0, 1) := by decide +kernel
theorem dX8_natural_36 : decode cX8_natural 36 = .ok (.getfield 32, 3) := by decide +kernel
theorem dX8_natural_39 : decode cX8_natural 39 = .ok (.bipush 34, 2) := by decide +kernel
theorem dX8_natural_41 : decode cX8_natural 41 = .ok (.iaload, 1) := by decide +kernel
theorem dX8_natural_42 : decode cX8_natural 42 = .ok (.iload_n 3, 1) := by decide +kernel
theorem dX8_natural_43 : decode cX8_natural 43 = .ok (.imul, 1) := by decide +kernel
theorem dX8_natural_44 : decode cX8_natural 44 = .ok (.iadd, 1) := by decide +kernel
theorem dX8_natural_45 : decode cX8_natural 45 = .ok (.aload_n 0, 1) := by decide +kernel
theorem dX8_natural_46 : decode cX8_natural 46 = .ok (.getfield 28, 3) := by decide +kernel
theorem dX8_natural_49 : decode cX8_natural 49 = .ok (.iload_n 2, 1) := by decide +kernel
theorem dX8_natural_50 : decode cX8_natural 50 = .ok (.baload, 1) := by decide +kernel
theorem dX8_natural_51 : decode cX8_natural 51 = .ok (.ifCond .eq 13, 3) := by decide +kernel
theorem dX8_natural_54 : decode cX8_natural 54 = .ok (.aload_n 0, 1) := by decide +kernel
theorem dX8_natural_55 : decode cX8_natural 55 = .ok (.getfield 32, 3) := by decide +kernel
theorem dX8_natural_58 : decode cX8_natural 58 = .ok (.bipush 28, 2) := by decide +kernel
theorem dX8_natural_60 : decode cX8_natural 60 = .ok (.iaload, 1) := by decide +kernel
theorem dX8_natural_61 : decode cX8_natural 61 = .ok (.goto 4, 3) := by decide +kernel
theorem dX8_natural_64 : decode cX8_natural 64 = .ok (.iconst 0, 1) := by decide +kernel
theorem dX8_natural_65 : decode cX8_natural 65 = .ok (.iadd, 1) := by decide +kernel
theorem dX8_natural_66 : decode cX8_natural 66 = .ok (.ireturn, 1) := by decide +kernel
theorem dX8_hung_0 : decode cX8_hung 0 = .ok (.aload_n 0, 1) := by decide +kernel
theorem dX8_hung_1 : decode cX8_hung 1 = .ok (.getfield 28, 3) := by decide +kernel
theorem dX8_hung_4 : decode cX8_hung 4 = .ok (.iload_n 1, 1) := by decide +kernel
theorem dX8_hung_5 : decode cX8_hung 5 = .ok (.baload, 1) := by decide +kernel
theorem dX8_hung_6 : decode cX8_hung 6 = .ok (.ifCond .eq 7, 3) := by decide +kernel
theorem dX8_hung_9 : decode cX8_hung 9 = .ok (.iconst 2, 1) := by decide +kernel
theorem dX8_hung_10 : decode cX8_hung 10 = .ok (.goto 19, 3) := by decide +kernel
theorem dX8_hung_13 : decode cX8_hung 13 = .ok (.aload_n 0, 1) := by decide +kernel
theorem dX8_hung_14 : decode cX8_hung 14 = .ok (.getfield 13, 3) := by decide +kernel
theorem dX8_hung_17 : decode cX8_hung 17 = .ok (.aload_n 0, 1) := by decide +kernel
theorem dX8_hung_18 : decode cX8_hung 18 = .ok (.getfield 25, 3) := by decide +kernel
theorem dX8_hung_21 : decode cX8_hung 21 = .ok (.iload_n 1, 1) := by decide +kernel
theorem dX8_hung_22 : decode cX8_hung 22 = .ok (.iaload, 1) := by decide +kernel
theorem dX8_hung_23 : decode cX8_hung 23 = .ok (.iconst 1, 1) := by decide +kernel
theorem dX8_hung_24 : decode cX8_hung 24 = .ok (.isub, 1) := by decide +kernel
theorem dX8_hung_25 : decode cX8_hung 25 = .ok (.iaload, 1) := by decide +kernel
theorem dX8_hung_26 : decode cX8_hung 26 = .ok (.invokestatic 106, 3) := by decide +kernel
theorem dX8_hung_29 : decode cX8_hung 29 = .ok (.istore_n 2, 1) := by decide +kernel
theorem dX8_hung_30 : decode cX8_hung 30 = .ok (.iload_n 2, 1) := by decide +kernel
theorem dX8_hung_31 : decode cX8_hung 31 = .ok (.bipush (-9), 2) := by decide +kernel
theorem dX8_hung_33 : decode cX8_hung 33 = .ok (.if_icmp .ne 7, 3) := by decide +kernel
theorem dX8_hung_36 : decode cX8_hung 36 = .ok (.iconst 0, 1) := by decide +kernel
theorem dX8_hung_37 : decode cX8_hung 37 = .ok (.goto 25, 3) := by decide +kernel
theorem dX8_hung_40 : decode cX8_hung 40 = .ok (.aload_n 0, 1) := by decide +kernel
theorem dX8_hung_41 : decode cX8_hung 41 = .ok (.getfield 32, 3) := by decide +kernel
theorem dX8_hung_44 : decode cX8_hung 44 = .ok (.bipush 26, 2) := by decide +kernel
theorem dX8_hung_46 : decode cX8_hung 46 = .ok (.iload_n 2, 1) := by decide +kernel
theorem dX8_hung_47 : decode cX8_hung 47 = .ok (.iadd, 1) := by decide +kernel
theorem dX8_hung_48 : decode cX8_hung 48 = .ok (.iaload, 1) := by decide +kernel
theorem dX8_hung_49 : decode cX8_hung 49 = .ok (.aload_n 0, 1) := by decide +kernel
theorem dX8_hung_50 : decode cX8_hung 50 = .ok (.getfield 32, 3) := by decide +kernel
theorem dX8_hung_53 : decode cX8_hung 53 = .ok (.bipush 30, 2) := by decide +kernel
theorem dX8_hung_55 : decode cX8_hung 55 = .ok (.iload_n 2, 1) := by decide +kernel
theorem dX8_hung_56 : decode cX8_hung 56 = .ok (.iadd, 1) := by decide +kernel
theorem dX8_hung_57 : decode cX8_hung 57 = .ok (.iaload, 1) := by decide +kernel
theorem dX8_hung_58 : decode cX8_hung 58 = .ok (.imul, 1) := by decide +kernel
theorem dX8_hung_59 : decode cX8_hung 59 = .ok (.bipush 10, 2) := by decide +kernel
theorem dX8_hung_61 : decode cX8_hung 61 = .ok (.idiv, 1) := by decide +kernel
theorem dX8_hung_62 : decode cX8_hung 62 = .ok (.ireturn, 1) := by decide +kernel
theorem dX8_left_0 : decode cX8_left 0 = .ok (.iload_n 3, 1) := by decide +kernel
theorem dX8_left_1 : decode cX8_left 1 = .ok (.aload_n 0, 1) := by decide +kernel
theorem dX8_left_2 : decode cX8_left 2 = .ok (.iload_n 2, 1) := by decide +kernel
theorem dX8_left_3 : decode cX8_left 3 = .ok (.invokevirtual 163, 3) := by decide +kernel
theorem dX8_left_6 : decode cX8_left 6 = .ok (.iadd, 1) := by decide +kernel
theorem dX8_left_7 : decode cX8_left 7 = .ok (.aload_n 0, 1) := by decide +kernel
theorem dX8_left_8 : decode cX8_left 8 = .ok (.iload_n 1, 1) := by decide +kernel
theorem dX8_left_9 : decode cX8_left 9 = .ok (.iload_n 2, 1) := by decide +kernel
theorem dX8_left_10 : decode cX8_left 10 = .ok (.invokevirtual 166, 3) := by decide +kernel
theorem dX8_left_13 : decode cX8_left 13 = .ok (.isub, 1) := by decide +kernel
theorem dX8_left_14 : decode cX8_left 14 = .ok (.ireturn, 1) := by decide +kernel
theorem dX8_costOf_0 : decode cX8_costOf 0 = .ok (.iload_n 2, 1) := by decide +kernel
theorem dX8_costOf_1 : decode cX8_costOf 1 = .ok (.aload_n 0, 1) := by decide +kernel
theorem dX8_costOf_2 : decode cX8_costOf 2 = .ok (.getfield 117, 3) := by decide +kernel
theorem dX8_costOf_5 : decode cX8_costOf 5 = .ok (.iconst 1, 1) := by decide +kernel
theorem dX8_costOf_6 : decode cX8_costOf 6 = .ok (.isub, 1) := by decide +kernel
theorem dX8_costOf_7 : decode cX8_costOf 7 = .ok (.if_icmp .ne 7, 3) := by decide +kernel
theorem dX8_costOf_10 : decode cX8_costOf 10 = .ok (.iconst 0, 1) := by decide +kernel
theorem dX8_costOf_11 : decode cX8_costOf 11 = .ok (.goto 6, 3) := by decide +kernel
theorem dX8_costOf_14 : decode cX8_costOf 14 = .ok (.iload_n 3, 1) := by decide +kernel
theorem dX8_costOf_15 : decode cX8_costOf 15 = .ok (.iload_n 3, 1) := by decide +kernel
theorem dX8_costOf_16 : decode cX8_costOf 16 = .ok (.imul, 1) := by decide +kernel
theorem dX8_costOf_17 : decode cX8_costOf 17 = .ok (.istore 4, 2) := by decide +kernel
theorem dX8_costOf_19 : decode cX8_costOf 19 = .ok (.iload 4, 2) := by decide +kernel
theorem dX8_costOf_21 : decode cX8_costOf 21 = .ok (.aload_n 0, 1) := by decide +kernel
theorem dX8_costOf_22 : decode cX8_costOf 22 = .ok (.getfield 28, 3) := by decide +kernel
theorem dX8_costOf_25 : decode cX8_costOf 25 = .ok (.iload_n 2, 1) := by decide +kernel
theorem dX8_costOf_26 : decode cX8_costOf 26 = .ok (.baload, 1) := by decide +kernel
theorem dX8_costOf_27 : decode cX8_costOf 27 = .ok (.ifCond .eq 13, 3) := by decide +kernel
theorem dX8_costOf_30 : decode cX8_costOf 30 = .ok (.aload_n 0, 1) := by decide +kernel
theorem dX8_costOf_31 : decode cX8_costOf 31 = .ok (.getfield 32, 3) := by decide +kernel
theorem dX8_costOf_34 : decode cX8_costOf 34 = .ok (.bipush 36, 2) := by decide +kernel
theorem dX8_costOf_36 : decode cX8_costOf 36 = .ok (.iaload, 1) := by decide +kernel
theorem dX8_costOf_37 : decode cX8_costOf 37 = .ok (.goto 4, 3) := by decide +kernel
theorem dX8_costOf_40 : decode cX8_costOf 40 = .ok (.iconst 0, 1) := by decide +kernel
theorem dX8_costOf_41 : decode cX8_costOf 41 = .ok (.iadd, 1) := by decide +kernel
theorem dX8_costOf_42 : decode cX8_costOf 42 = .ok (.istore 4, 2) := by decide +kernel
theorem dX8_costOf_44 : decode cX8_costOf 44 = .ok (.iload 4, 2) := by decide +kernel
theorem dX8_costOf_46 : decode cX8_costOf 46 = .ok (.aload_n 0, 1) := by decide +kernel
theorem dX8_costOf_47 : decode cX8_costOf 47 = .ok (.getfield 28, 3) := by decide +kernel
theorem dX8_costOf_50 : decode cX8_costOf 50 = .ok (.iload_n 2, 1) := by decide +kernel
theorem dX8_costOf_51 : decode cX8_costOf 51 = .ok (.baload, 1) := by decide +kernel
theorem dX8_costOf_52 : decode cX8_costOf 52 = .ok (.ifCond .eq 26, 3) := by decide +kernel
theorem dX8_costOf_55 : decode cX8_costOf 55 = .ok (.iload_n 1, 1) := by decide +kernel
theorem dX8_costOf_56 : decode cX8_costOf 56 = .ok (.ifCond .lt 22, 3) := by decide +kernel
theorem dX8_costOf_59 : decode cX8_costOf 59 = .ok (.aload_n 0, 1) := by decide +kernel
theorem dX8_costOf_60 : decode cX8_costOf 60 = .ok (.getfield 28, 3) := by decide +kernel
theorem dX8_costOf_63 : decode cX8_costOf 63 = .ok (.iload_n 1, 1) := by decide +kernel
theorem dX8_costOf_64 : decode cX8_costOf 64 = .ok (.baload, 1) := by decide +kernel
theorem dX8_costOf_65 : decode cX8_costOf 65 = .ok (.ifCond .eq 13, 3) := by decide +kernel
theorem dX8_costOf_68 : decode cX8_costOf 68 = .ok (.aload_n 0, 1) := by decide +kernel
theorem dX8_costOf_69 : decode cX8_costOf 69 = .ok (.getfield 32, 3) := by decide +kernel
theorem dX8_costOf_72 : decode cX8_costOf 72 = .ok (.bipush 37, 2) := by decide +kernel
theorem dX8_costOf_74 : decode cX8_costOf 74 = .ok (.iaload, 1) := by decide +kernel
theorem dX8_costOf_75 : decode cX8_costOf 75 = .ok (.goto 4, 3) := by decide +kernel
theorem dX8_costOf_78 : decode cX8_costOf 78 = .ok (.iconst 0, 1) := by decide +kernel
theorem dX8_costOf_79 : decode cX8_costOf 79 = .ok (.iadd, 1) := by decide +kernel
theorem dX8_costOf_80 : decode cX8_costOf 80 = .ok (.ireturn, 1) := by decide +kernel
theorem dX8_looksFrom_0 : decode cX8_looksFrom 0 = .ok (.aload_n 0, 1) := by decide +kernel
theorem dX8_looksFrom_1 : decode cX8_looksFrom 1 = .ok (.getfield 56, 3) := by decide +kernel
theorem dX8_looksFrom_4 : decode cX8_looksFrom 4 = .ok (.iload_n 1, 1) := by decide +kernel
theorem dX8_looksFrom_5 : decode cX8_looksFrom 5 = .ok (.iconst 1, 1) := by decide +kernel
theorem dX8_looksFrom_6 : decode cX8_looksFrom 6 = .ok (.iadd, 1) := by decide +kernel
theorem dX8_looksFrom_7 : decode cX8_looksFrom 7 = .ok (.bipush (-9), 2) := by decide +kernel
theorem dX8_looksFrom_9 : decode cX8_looksFrom 9 = .ok (.iastore, 1) := by decide +kernel
theorem dX8_looksFrom_10 : decode cX8_looksFrom 10 = .ok (.iload_n 1, 1) := by decide +kernel
theorem dX8_looksFrom_11 : decode cX8_looksFrom 11 = .ok (.iconst 1, 1) := by decide +kernel
theorem dX8_looksFrom_12 : decode cX8_looksFrom 12 = .ok (.iadd, 1) := by decide +kernel
theorem dX8_looksFrom_13 : decode cX8_looksFrom 13 = .ok (.istore_n 3, 1) := by decide +kernel
theorem dX8_looksFrom_14 : decode cX8_looksFrom 14 = .ok (.iload_n 3, 1) := by decide +kernel
theorem dX8_looksFrom_15 : decode cX8_looksFrom 15 = .ok (.aload_n 0, 1) := by decide +kernel
theorem dX8_looksFrom_16 : decode cX8_looksFrom 16 = .ok (.getfield 117, 3) := by decide +kernel
theorem dX8_looksFrom_19 : decode cX8_looksFrom 19 = .ok (.if_icmp .ge 160, 3) := by decide +kernel
theorem dX8_looksFrom_22 : decode cX8_looksFrom 22 = .ok (.aload_n 0, 1) := by decide +kernel
theorem dX8_looksFrom_23 : decode cX8_looksFrom 23 = .ok (.iload_n 1, 1) := by decide +kernel
theorem dX8_looksFrom_24 : decode cX8_looksFrom 24 = .ok (.iload_n 3, 1) := by decide +kernel
theorem dX8_looksFrom_25 : decode cX8_looksFrom 25 = .ok (.iload_n 2, 1) := by decide +kernel
theorem dX8_looksFrom_26 : decode cX8_looksFrom 26 = .ok (.invokevirtual 169, 3) := by decide +kernel
theorem dX8_looksFrom_29 : decode cX8_looksFrom 29 = .ok (.istore 4, 2) := by decide +kernel
theorem dX8_looksFrom_31 : decode cX8_looksFrom 31 = .ok (.iload 4, 2) := by decide +kernel
theorem dX8_looksFrom_33 : decode cX8_looksFrom 33 = .ok (.ifCond .lt 140, 3) := by decide +kernel
theorem dX8_looksFrom_36 : decode cX8_looksFrom 36 = .ok (.aload_n 0, 1) := by decide +kernel
theorem dX8_looksFrom_37 : decode cX8_looksFrom 37 = .ok (.getfield 56, 3) := by decide +kernel
theorem dX8_looksFrom_40 : decode cX8_looksFrom 40 = .ok (.iload_n 3, 1) := by decide +kernel
theorem dX8_looksFrom_41 : decode cX8_looksFrom 41 = .ok (.iconst 1, 1) := by decide +kernel
theorem dX8_looksFrom_42 : decode cX8_looksFrom 42 = .ok (.iadd, 1) := by decide +kernel
theorem dX8_looksFrom_43 : decode cX8_looksFrom 43 = .ok (.iaload, 1) := by decide +kernel
theorem dX8_looksFrom_44 : decode cX8_looksFrom 44 = .ok (.bipush (-9), 2) := by decide +kernel
theorem dX8_looksFrom_46 : decode cX8_looksFrom 46 = .ok (.if_icmp .eq 127, 3) := by decide +kernel
theorem dX8_looksFrom_49 : decode cX8_looksFrom 49 = .ok (.aload_n 0, 1) := by decide +kernel
theorem dX8_looksFrom_50 : decode cX8_looksFrom 50 = .ok (.iload_n 1, 1) := by decide +kernel
theorem dX8_looksFrom_51 : decode cX8_looksFrom 51 = .ok (.iload_n 3, 1) := by decide +kernel
theorem dX8_looksFrom_52 : decode cX8_looksFrom 52 = .ok (.iload 4, 2) := by decide +kernel
theorem dX8_looksFrom_54 : decode cX8_looksFrom 54 = .ok (.invokevirtual 173, 3) := by decide +kernel
theorem dX8_looksFrom_57 : decode cX8_looksFrom 57 = .ok (.aload_n 0, 1) := by decide +kernel
theorem dX8_looksFrom_58 : decode cX8_looksFrom 58 = .ok (.getfield 56, 3) := by decide +kernel
theorem dX8_looksFrom_61 : decode cX8_looksFrom 61 = .ok (.iload_n 3, 1) := by decide +kernel
theorem dX8_looksFrom_62 : decode cX8_looksFrom 62 = .ok (.iconst 1, 1) := by decide +kernel
theorem dX8_looksFrom_63 : decode cX8_looksFrom 63 = .ok (.iadd, 1) := by decide +kernel
theorem dX8_looksFrom_64 : decode cX8_looksFrom 64 = .ok (.iaload, 1) := by decide +kernel
theorem dX8_looksFrom_65 : decode cX8_looksFrom 65 = .ok (.iadd, 1) := by decide +kernel
theorem dX8_looksFrom_66 : decode cX8_looksFrom 66 = .ok (.istore 5, 2) := by decide +kernel
theorem dX8_looksFrom_68 : decode cX8_looksFrom 68 = .ok (.aload_n 0, 1) := by decide +kernel
theorem dX8_looksFrom_69 : decode cX8_looksFrom 69 = .ok (.getfield 59, 3) := by decide +kernel
theorem dX8_looksFrom_72 : decode cX8_looksFrom 72 = .ok (.iload_n 3, 1) := by decide +kernel
theorem dX8_looksFrom_73 : decode cX8_looksFrom 73 = .ok (.iconst 1, 1) := by decide +kernel
theorem dX8_looksFrom_74 : decode cX8_looksFrom 74 = .ok (.iadd, 1) := by decide +kernel
theorem dX8_looksFrom_75 : decode cX8_looksFrom 75 = .ok (.iaload, 1) := by decide +kernel
theorem dX8_looksFrom_76 : decode cX8_looksFrom 76 = .ok (.iconst 1, 1) := by decide +kernel
theorem dX8_looksFrom_77 : decode cX8_looksFrom 77 = .ok (.iadd, 1) := by decide +kernel
theorem dX8_looksFrom_78 : decode cX8_looksFrom 78 = .ok (.istore 6, 2) := by decide +kernel
theorem dX8_looksFrom_80 : decode cX8_looksFrom 80 = .ok (.aload_n 0, 1) := by decide +kernel
theorem dX8_looksFrom_81 : decode cX8_looksFrom 81 = .ok (.getfield 56, 3) := by decide +kernel
theorem dX8_looksFrom_84 : decode cX8_looksFrom 84 = .ok (.iload_n 1, 1) := by decide +kernel
theorem dX8_looksFrom_85 : decode cX8_looksFrom 85 = .ok (.iconst 1, 1) := by decide +kernel
theorem dX8_looksFrom_86 : decode cX8_looksFrom 86 = .ok (.iadd, 1) := by decide +kernel
theorem dX8_looksFrom_87 : decode cX8_looksFrom 87 = .ok (.iaload, 1) := by decide +kernel
theorem dX8_looksFrom_88 : decode cX8_looksFrom 88 = .ok (.bipush (-9), 2) := by decide +kernel
theorem dX8_looksFrom_90 : decode cX8_looksFrom 90 = .ok (.if_icmp .eq 42, 3) := by decide +kernel
theorem dX8_looksFrom_93 : decode cX8_looksFrom 93 = .ok (.iload 5, 2) := by decide +kernel
theorem dX8_looksFrom_95 : decode cX8_looksFrom 95 = .ok (.aload_n 0, 1) := by decide +kernel
theorem dX8_looksFrom_96 : decode cX8_looksFrom 96 = .ok (.getfield 56, 3) := by decide +kernel
theorem dX8_looksFrom_99 : decode cX8_looksFrom 99 = .ok (.iload_n 1, 1) := by decide +kernel
theorem dX8_looksFrom_100 : decode cX8_looksFrom 100 = .ok (.iconst 1, 1) := by decide +kernel
theorem dX8_looksFrom_101 : decode cX8_looksFrom 101 = .ok (.iadd, 1) := by decide +kernel
theorem dX8_looksFrom_102 : decode cX8_looksFrom 102 = .ok (.iaload, 1) := by decide +kernel
theorem dX8_looksFrom_103 : decode cX8_looksFrom 103 = .ok (.if_icmp .lt 29, 3) := by decide +kernel
theorem dX8_looksFrom_106 : decode cX8_looksFrom 106 = .ok (.iload 5, 2) := by decide +kernel
theorem dX8_looksFrom_108 : decode cX8_looksFrom 108 = .ok (.aload_n 0, 1) := by decide +kernel
theorem dX8_looksFrom_109 : decode cX8_looksFrom 109 = .ok (.getfield 56, 3) := by decide +kernel
theorem dX8_looksFrom_112 : decode cX8_looksFrom 112 = .ok (.iload_n 1, 1) := by decide +kernel
theorem dX8_looksFrom_113 : decode cX8_looksFrom 113 = .ok (.iconst 1, 1) := by decide +kernel
theorem dX8_looksFrom_114 : decode cX8_looksFrom 114 = .ok (.iadd, 1) := by decide +kernel
theorem dX8_looksFrom_115 : decode cX8_looksFrom 115 = .ok (.iaload, 1) := by decide +kernel
theorem dX8_looksFrom_116 : decode cX8_looksFrom 116 = .ok (.if_icmp .ne 20, 3) := by decide +kernel
theorem dX8_looksFrom_119 : decode cX8_looksFrom 119 = .ok (.iload 6, 2) := by decide +kernel
theorem dX8_looksFrom_121 : decode cX8_looksFrom 121 = .ok (.aload_n 0, 1) := by decide +kernel
theorem dX8_looksFrom_122 : decode cX8_looksFrom 122 = .ok (.getfield 59, 3) := by decide +kernel
theorem dX8_looksFrom_125 : decode cX8_looksFrom 125 = .ok (.iload_n 1, 1) := by decide +kernel
theorem dX8_looksFrom_126 : decode cX8_looksFrom 126 = .ok (.iconst 1, 1) := by decide +kernel
theorem dX8_looksFrom_127 : decode cX8_looksFrom 127 = .ok (.iadd, 1) := by decide +kernel
theorem dX8_looksFrom_128 : decode cX8_looksFrom 128 = .ok (.iaload, 1) := by decide +kernel
theorem dX8_looksFrom_129 : decode cX8_looksFrom 129 = .ok (.if_icmp .gt 7, 3) := by decide +kernel
theorem dX8_looksFrom_132 : decode cX8_looksFrom 132 = .ok (.iconst 1, 1) := by decide +kernel
theorem dX8_looksFrom_133 : decode cX8_looksFrom 133 = .ok (.goto 4, 3) := by decide +kernel
theorem dX8_looksFrom_136 : decode cX8_looksFrom 136 = .ok (.iconst 0, 1) := by decide +kernel
theorem dX8_looksFrom_137 : decode cX8_looksFrom 137 = .ok (.istore 7, 2) := by decide +kernel
theorem dX8_looksFrom_139 : decode cX8_looksFrom 139 = .ok (.iload 7, 2) := by decide +kernel
theorem dX8_looksFrom_141 : decode cX8_looksFrom 141 = .ok (.ifCond .eq 32, 3) := by decide +kernel
theorem dX8_looksFrom_144 : decode cX8_looksFrom 144 = .ok (.aload_n 0, 1) := by decide +kernel
theorem dX8_looksFrom_145 : decode cX8_looksFrom 145 = .ok (.getfield 56, 3) := by decide +kernel
theorem dX8_looksFrom_148 : decode cX8_looksFrom 148 = .ok (.iload_n 1, 1) := by decide +kernel
theorem dX8_looksFrom_149 : decode cX8_looksFrom 149 = .ok (.iconst 1, 1) := by decide +kernel
theorem dX8_looksFrom_150 : decode cX8_looksFrom 150 = .ok (.iadd, 1) := by decide +kernel
theorem dX8_looksFrom_151 : decode cX8_looksFrom 151 = .ok (.iload 5, 2) := by decide +kernel
theorem dX8_looksFrom_153 : decode cX8_looksFrom 153 = .ok (.iastore, 1) := by decide +kernel
theorem dX8_looksFrom_154 : decode cX8_looksFrom 154 = .ok (.aload_n 0, 1) := by decide +kernel
theorem dX8_looksFrom_155 : decode cX8_looksFrom 155 = .ok (.getfield 59, 3) := by decide +kernel
theorem dX8_looksFrom_158 : decode cX8_looksFrom 158 = .ok (.iload_n 1, 1) := by decide +kernel
theorem dX8_looksFrom_159 : decode cX8_looksFrom 159 = .ok (.iconst 1, 1) := by decide +kernel
theorem dX8_looksFrom_160 : decode cX8_looksFrom 160 = .ok (.iadd, 1) := by decide +kernel
theorem dX8_looksFrom_161 : decode cX8_looksFrom 161 = .ok (.iload 6, 2) := by decide +kernel
theorem dX8_looksFrom_163 : decode cX8_looksFrom 163 = .ok (.iastore, 1) := by decide +kernel
theorem dX8_looksFrom_164 : decode cX8_looksFrom 164 = .ok (.aload_n 0, 1) := by decide +kernel
theorem dX8_looksFrom_165 : decode cX8_looksFrom 165 = .ok (.getfield 62, 3) := by decide +kernel
theorem dX8_looksFrom_168 : decode cX8_looksFrom 168 = .ok (.iload_n 1, 1) := by decide +kernel
theorem dX8_looksFrom_169 : decode cX8_looksFrom 169 = .ok (.iconst 1, 1) := by decide +kernel
theorem dX8_looksFrom_170 : decode cX8_looksFrom 170 = .ok (.iadd, 1) := by decide +kernel
theorem dX8_looksFrom_171 : decode cX8_looksFrom 171 = .ok (.iload_n 3, 1) := by decide +kernel
theorem dX8_looksFrom_172 : decode cX8_looksFrom 172 = .ok (.iastore, 1) := by decide +kernel
theorem dX8_looksFrom_173 : decode cX8_looksFrom 173 = .ok (.iinc 3 1, 3) := by decide +kernel
theorem dX8_looksFrom_176 : decode cX8_looksFrom 176 = .ok (.goto (-162), 3) := by decide +kernel
theorem dX8_looksFrom_179 : decode cX8_looksFrom 179 = .ok (.return_, 1) := by decide +kernel
theorem dX8_laysPage_0 : decode cX8_laysPage 0 = .ok (.aload_n 0, 1) := by decide +kernel
theorem dX8_laysPage_1 : decode cX8_laysPage 1 = .ok (.invokevirtual 176, 3) := by decide +kernel
theorem dX8_laysPage_4 : decode cX8_laysPage 4 = .ok (.aload_n 0, 1) := by decide +kernel
theorem dX8_laysPage_5 : decode cX8_laysPage 5 = .ok (.getfield 56, 3) := by decide +kernel
theorem dX8_laysPage_8 : decode cX8_laysPage 8 = .ok (.aload_n 0, 1) := by decide +kernel
theorem dX8_laysPage_9 : decode cX8_laysPage 9 = .ok (.getfield 117, 3) := by decide +kernel
theorem dX8_laysPage_12 : decode cX8_laysPage 12 = .ok (.iconst 0, 1) := by decide +kernel
theorem dX8_laysPage_13 : decode cX8_laysPage 13 = .ok (.iastore, 1) := by decide +kernel
theorem dX8_laysPage_14 : decode cX8_laysPage 14 = .ok (.aload_n 0, 1) := by decide +kernel
theorem dX8_laysPage_15 : decode cX8_laysPage 15 = .ok (.getfield 59, 3) := by decide +kernel
theorem dX8_laysPage_18 : decode cX8_laysPage 18 = .ok (.aload_n 0, 1) := by decide +kernel
theorem dX8_laysPage_19 : decode cX8_laysPage 19 = .ok (.getfield 117, 3) := by decide +kernel
theorem dX8_laysPage_22 : decode cX8_laysPage 22 = .ok (.iconst 0, 1) := by decide +kernel
theorem dX8_laysPage_23 : decode cX8_laysPage 23 = .ok (.iastore, 1) := by decide +kernel
theorem dX8_laysPage_24 : decode cX8_laysPage 24 = .ok (.aload_n 0, 1) := by decide +kernel
theorem dX8_laysPage_25 : decode cX8_laysPage 25 = .ok (.getfield 117, 3) := by decide +kernel
theorem dX8_laysPage_28 : decode cX8_laysPage 28 = .ok (.iconst 2, 1) := by decide +kernel
theorem dX8_laysPage_29 : decode cX8_laysPage 29 = .ok (.isub, 1) := by decide +kernel
theorem dX8_laysPage_30 : decode cX8_laysPage 30 = .ok (.istore_n 2, 1) := by decide +kernel
theorem dX8_laysPage_31 : decode cX8_laysPage 31 = .ok (.iload_n 2, 1) := by decide +kernel
theorem dX8_laysPage_32 : decode cX8_laysPage 32 = .ok (.iconst (-1), 1) := by decide +kernel
theorem dX8_laysPage_33 : decode cX8_laysPage 33 = .ok (.if_icmp .lt 15, 3) := by decide +kernel
theorem dX8_laysPage_36 : decode cX8_laysPage 36 = .ok (.aload_n 0, 1) := by decide +kernel
theorem dX8_laysPage_37 : decode cX8_laysPage 37 = .ok (.iload_n 2, 1) := by decide +kernel
theorem dX8_laysPage_38 : decode cX8_laysPage 38 = .ok (.iload_n 1, 1) := by decide +kernel
theorem dX8_laysPage_39 : decode cX8_laysPage 39 = .ok (.invokevirtual 179, 3) := by decide +kernel
theorem dX8_laysPage_42 : decode cX8_laysPage 42 = .ok (.iinc 2 (-1), 3) := by decide +kernel
theorem dX8_laysPage_45 : decode cX8_laysPage 45 = .ok (.goto (-14), 3) := by decide +kernel
theorem dX8_laysPage_48 : decode cX8_laysPage 48 = .ok (.aload_n 0, 1) := by decide +kernel
theorem dX8_laysPage_49 : decode cX8_laysPage 49 = .ok (.iconst 0, 1) := by decide +kernel
theorem dX8_laysPage_50 : decode cX8_laysPage 50 = .ok (.putfield 183, 3) := by decide +kernel
theorem dX8_laysPage_53 : decode cX8_laysPage 53 = .ok (.aload_n 0, 1) := by decide +kernel
theorem dX8_laysPage_54 : decode cX8_laysPage 54 = .ok (.getfield 56, 3) := by decide +kernel
theorem dX8_laysPage_57 : decode cX8_laysPage 57 = .ok (.iconst 0, 1) := by decide +kernel
theorem dX8_laysPage_58 : decode cX8_laysPage 58 = .ok (.iaload, 1) := by decide +kernel
theorem dX8_laysPage_59 : decode cX8_laysPage 59 = .ok (.bipush (-9), 2) := by decide +kernel
theorem dX8_laysPage_61 : decode cX8_laysPage 61 = .ok (.if_icmp .ne 5, 3) := by decide +kernel
theorem dX8_laysPage_64 : decode cX8_laysPage 64 = .ok (.iconst 0, 1) := by decide +kernel
theorem dX8_laysPage_65 : decode cX8_laysPage 65 = .ok (.ireturn, 1) := by decide +kernel
theorem dX8_laysPage_66 : decode cX8_laysPage 66 = .ok (.iconst (-1), 1) := by decide +kernel
theorem dX8_laysPage_67 : decode cX8_laysPage 67 = .ok (.istore_n 2, 1) := by decide +kernel
theorem dX8_laysPage_68 : decode cX8_laysPage 68 = .ok (.iload_n 2, 1) := by decide +kernel
theorem dX8_laysPage_69 : decode cX8_laysPage 69 = .ok (.aload_n 0, 1) := by decide +kernel
theorem dX8_laysPage_70 : decode cX8_laysPage 70 = .ok (.getfield 117, 3) := by decide +kernel
theorem dX8_laysPage_73 : decode cX8_laysPage 73 = .ok (.iconst 1, 1) := by decide +kernel
theorem dX8_laysPage_74 : decode cX8_laysPage 74 = .ok (.isub, 1) := by decide +kernel
theorem dX8_laysPage_75 : decode cX8_laysPage 75 = .ok (.if_icmp .ge 35, 3) := by decide +kernel
theorem dX8_laysPage_78 : decode cX8_laysPage 78 = .ok (.aload_n 0, 1) := by decide +kernel
theorem dX8_laysPage_79 : decode cX8_laysPage 79 = .ok (.getfield 62, 3) := by decide +kernel
theorem dX8_laysPage_82 : decode cX8_laysPage 82 = .ok (.iload_n 2, 1) := by decide +kernel
theorem dX8_laysPage_83 : decode cX8_laysPage 83 = .ok (.iconst 1, 1) := by decide +kernel
theorem dX8_laysPage_84 : decode cX8_laysPage 84 = .ok (.iadd, 1) := by decide +kernel
theorem dX8_laysPage_85 : decode cX8_laysPage 85 = .ok (.iaload, 1) := by decide +kernel
theorem dX8_laysPage_86 : decode cX8_laysPage 86 = .ok (.istore_n 2, 1) := by decide +kernel
theorem dX8_laysPage_87 : decode cX8_laysPage 87 = .ok (.aload_n 0, 1) := by decide +kernel
theorem dX8_laysPage_88 : decode cX8_laysPage 88 = .ok (.getfield 65, 3) := by decide +kernel
theorem dX8_laysPage_91 : decode cX8_laysPage 91 = .ok (.aload_n 0, 1) := by decide +kernel
theorem dX8_laysPage_92 : decode cX8_laysPage 92 = .ok (.getfield 183, 3) := by decide +kernel
theorem dX8_laysPage_95 : decode cX8_laysPage 95 = .ok (.iload_n 2, 1) := by decide +kernel
theorem dX8_laysPage_96 : decode cX8_laysPage 96 = .ok (.iastore, 1) := by decide +kernel
theorem dX8_laysPage_97 : decode cX8_laysPage 97 = .ok (.aload_n 0, 1) := by decide +kernel
theorem dX8_laysPage_98 : decode cX8_laysPage 98 = .ok (.dup, 1) := by decide +kernel
theorem dX8_laysPage_99 : decode cX8_laysPage 99 = .ok (.getfield 183, 3) := by decide +kernel
theorem dX8_laysPage_102 : decode cX8_laysPage 102 = .ok (.iconst 1, 1) := by decide +kernel
theorem dX8_laysPage_103 : decode cX8_laysPage 103 = .ok (.iadd, 1) := by decide +kernel
theorem dX8_laysPage_104 : decode cX8_laysPage 104 = .ok (.putfield 183, 3) := by decide +kernel
theorem dX8_laysPage_107 : decode cX8_laysPage 107 = .ok (.goto (-39), 3) := by decide +kernel
theorem dX8_laysPage_110 : decode cX8_laysPage 110 = .ok (.iconst 1, 1) := by decide +kernel
theorem dX8_laysPage_111 : decode cX8_laysPage 111 = .ok (.ireturn, 1) := by decide +kernel
theorem dX8_before_0 : decode cX8_before 0 = .ok (.iload_n 1, 1) := by decide +kernel
theorem dX8_before_1 : decode cX8_before 1 = .ok (.ifCond .ne 7, 3) := by decide +kernel
theorem dX8_before_4 : decode cX8_before 4 = .ok (.iconst (-1), 1) := by decide +kernel
theorem dX8_before_5 : decode cX8_before 5 = .ok (.goto 11, 3) := by decide +kernel
theorem dX8_before_8 : decode cX8_before 8 = .ok (.aload_n 0, 1) := by decide +kernel
theorem dX8_before_9 : decode cX8_before 9 = .ok (.getfield 65, 3) := by decide +kernel
theorem dX8_before_12 : decode cX8_before 12 = .ok (.iload_n 1, 1) := by decide +kernel
theorem dX8_before_13 : decode cX8_before 13 = .ok (.iconst 1, 1) := by decide +kernel
theorem dX8_before_14 : decode cX8_before 14 = .ok (.isub, 1) := by decide +kernel
theorem dX8_before_15 : decode cX8_before 15 = .ok (.iaload, 1) := by decide +kernel
theorem dX8_before_16 : decode cX8_before 16 = .ok (.ireturn, 1) := by decide +kernel
theorem dX8_blanksOf_0 : decode cX8_blanksOf 0 = .ok (.aload_n 0, 1) := by decide +kernel
theorem dX8_blanksOf_1 : decode cX8_blanksOf 1 = .ok (.getfield 22, 3) := by decide +kernel
theorem dX8_blanksOf_4 : decode cX8_blanksOf 4 = .ok (.aload_n 0, 1) := by decide +kernel
theorem dX8_blanksOf_5 : decode cX8_blanksOf 5 = .ok (.getfield 65, 3) := by decide +kernel
theorem dX8_blanksOf_8 : decode cX8_blanksOf 8 = .ok (.iload_n 1, 1) := by decide +kernel
theorem dX8_blanksOf_9 : decode cX8_blanksOf 9 = .ok (.iaload, 1) := by decide +kernel
theorem dX8_blanksOf_10 : decode cX8_blanksOf 10 = .ok (.iaload, 1) := by decide +kernel
theorem dX8_blanksOf_11 : decode cX8_blanksOf 11 = .ok (.aload_n 0, 1) := by decide +kernel
theorem dX8_blanksOf_12 : decode cX8_blanksOf 12 = .ok (.aload_n 0, 1) := by decide +kernel
theorem dX8_blanksOf_13 : decode cX8_blanksOf 13 = .ok (.iload_n 1, 1) := by decide +kernel
theorem dX8_blanksOf_14 : decode cX8_blanksOf 14 = .ok (.invokevirtual 186, 3) := by decide +kernel
theorem dX8_blanksOf_17 : decode cX8_blanksOf 17 = .ok (.invokevirtual 157, 3) := by decide +kernel
theorem dX8_blanksOf_20 : decode cX8_blanksOf 20 = .ok (.isub, 1) := by decide +kernel
theorem dX8_blanksOf_21 : decode cX8_blanksOf 21 = .ok (.ireturn, 1) := by decide +kernel
theorem dX8_leftIn_0 : decode cX8_leftIn 0 = .ok (.aload_n 0, 1) := by decide +kernel
theorem dX8_leftIn_1 : decode cX8_leftIn 1 = .ok (.aload_n 0, 1) := by decide +kernel
theorem dX8_leftIn_2 : decode cX8_leftIn 2 = .ok (.iload_n 1, 1) := by decide +kernel
theorem dX8_leftIn_3 : decode cX8_leftIn 3 = .ok (.invokevirtual 186, 3) := by decide +kernel
theorem dX8_leftIn_6 : decode cX8_leftIn 6 = .ok (.aload_n 0, 1) := by decide +kernel
theorem dX8_leftIn_7 : decode cX8_leftIn 7 = .ok (.getfield 65, 3) := by decide +kernel
theorem dX8_leftIn_10 : decode cX8_leftIn 10 = .ok (.iload_n 1, 1) := by decide +kernel
theorem dX8_leftIn_11 : decode cX8_leftIn 11 = .ok (.iaload, 1) := by decide +kernel
theorem dX8_leftIn_12 : decode cX8_leftIn 12 = .ok (.aload_n 0, 1) := by decide +kernel
theorem dX8_leftIn_13 : decode cX8_leftIn 13 = .ok (.getfield 32, 3) := by decide +kernel
theorem dX8_leftIn_16 : decode cX8_leftIn 16 = .ok (.bipush 35, 2) := by decide +kernel
theorem dX8_leftIn_18 : decode cX8_leftIn 18 = .ok (.iaload, 1) := by decide +kernel
theorem dX8_leftIn_19 : decode cX8_leftIn 19 = .ok (.invokevirtual 169, 3) := by decide +kernel
theorem dX8_leftIn_22 : decode cX8_leftIn 22 = .ok (.ireturn, 1) := by decide +kernel
theorem dX8_isGiving_0 : decode cX8_isGiving 0 = .ok (.iload_n 1, 1) := by decide +kernel
theorem dX8_isGiving_1 : decode cX8_isGiving 1 = .ok (.aload_n 0, 1) := by decide +kernel
theorem dX8_isGiving_2 : decode cX8_isGiving 2 = .ok (.getfield 183, 3) := by decide +kernel
theorem dX8_isGiving_5 : decode cX8_isGiving 5 = .ok (.iconst 1, 1) := by decide +kernel
theorem dX8_isGiving_6 : decode cX8_isGiving 6 = .ok (.isub, 1) := by decide +kernel
theorem dX8_isGiving_7 : decode cX8_isGiving 7 = .ok (.if_icmp .ge 15, 3) := by decide +kernel
theorem dX8_isGiving_10 : decode cX8_isGiving 10 = .ok (.aload_n 0, 1) := by decide +kernel
theorem dX8_isGiving_11 : decode cX8_isGiving 11 = .ok (.iload_n 1, 1) := by decide +kernel
theorem dX8_isGiving_12 : decode cX8_isGiving 12 = .ok (.invokevirtual 189, 3) := by decide +kernel
theorem dX8_isGiving_15 : decode cX8_isGiving 15 = .ok (.ifCond .le 7, 3) := by decide +kernel
theorem dX8_isGiving_18 : decode cX8_isGiving 18 = .ok (.iconst 1, 1) := by decide +kernel
theorem dX8_isGiving_19 : decode cX8_isGiving 19 = .ok (.goto 4, 3) := by decide +kernel
theorem dX8_isGiving_22 : decode cX8_isGiving 22 = .ok (.iconst 0, 1) := by decide +kernel
theorem dX8_isGiving_23 : decode cX8_isGiving 23 = .ok (.ireturn, 1) := by decide +kernel
theorem dX8_endOf_0 : decode cX8_endOf 0 = .ok (.aload_n 0, 1) := by decide +kernel
theorem dX8_endOf_1 : decode cX8_endOf 1 = .ok (.aload_n 0, 1) := by decide +kernel
theorem dX8_endOf_2 : decode cX8_endOf 2 = .ok (.iload_n 1, 1) := by decide +kernel
theorem dX8_endOf_3 : decode cX8_endOf 3 = .ok (.invokevirtual 186, 3) := by decide +kernel
theorem dX8_endOf_6 : decode cX8_endOf 6 = .ok (.aload_n 0, 1) := by decide +kernel
theorem dX8_endOf_7 : decode cX8_endOf 7 = .ok (.getfield 65, 3) := by decide +kernel
theorem dX8_endOf_10 : decode cX8_endOf 10 = .ok (.iload_n 1, 1) := by decide +kernel
theorem dX8_endOf_11 : decode cX8_endOf 11 = .ok (.iaload, 1) := by decide +kernel
theorem dX8_endOf_12 : decode cX8_endOf 12 = .ok (.invokevirtual 166, 3) := by decide +kernel
theorem dX8_endOf_15 : decode cX8_endOf 15 = .ok (.aload_n 0, 1) := by decide +kernel
theorem dX8_endOf_16 : decode cX8_endOf 16 = .ok (.iload_n 1, 1) := by decide +kernel
theorem dX8_endOf_17 : decode cX8_endOf 17 = .ok (.invokevirtual 192, 3) := by decide +kernel
theorem dX8_endOf_20 : decode cX8_endOf 20 = .ok (.ifCond .eq 11, 3) := by decide +kernel
theorem dX8_endOf_23 : decode cX8_endOf 23 = .ok (.aload_n 0, 1) := by decide +kernel
theorem dX8_endOf_24 : decode cX8_endOf 24 = .ok (.iload_n 1, 1) := by decide +kernel
theorem dX8_endOf_25 : decode cX8_endOf 25 = .ok (.invokevirtual 195, 3) := by decide +kernel
theorem dX8_endOf_28 : decode cX8_endOf 28 = .ok (.goto 4, 3) := by decide +kernel
theorem dX8_endOf_31 : decode cX8_endOf 31 = .ok (.iconst 0, 1) := by decide +kernel
theorem dX8_endOf_32 : decode cX8_endOf 32 = .ok (.iadd, 1) := by decide +kernel
theorem dX8_endOf_33 : decode cX8_endOf 33 = .ok (.ireturn, 1) := by decide +kernel
theorem dX8_laysBlanks_0 : decode cX8_laysBlanks 0 = .ok (.aload_n 0, 1) := by decide +kernel
theorem dX8_laysBlanks_1 : decode cX8_laysBlanks 1 = .ok (.iconst 0, 1) := by decide +kernel
theorem dX8_laysBlanks_2 : decode cX8_laysBlanks 2 = .ok (.putfield 198, 3) := by decide +kernel
theorem dX8_laysBlanks_5 : decode cX8_laysBlanks 5 = .ok (.iconst 0, 1) := by decide +kernel
theorem dX8_laysBlanks_6 : decode cX8_laysBlanks 6 = .ok (.istore_n 1, 1) := by decide +kernel
theorem dX8_laysBlanks_7 : decode cX8_laysBlanks 7 = .ok (.iload_n 1, 1) := by decide +kernel
theorem dX8_laysBlanks_8 : decode cX8_laysBlanks 8 = .ok (.aload_n 0, 1) := by decide +kernel
theorem dX8_laysBlanks_9 : decode cX8_laysBlanks 9 = .ok (.getfield 183, 3) := by decide +kernel
theorem dX8_laysBlanks_12 : decode cX8_laysBlanks 12 = .ok (.if_icmp .ge 223, 3) := by decide +kernel
theorem dX8_laysBlanks_15 : decode cX8_laysBlanks 15 = .ok (.aload_n 0, 1) := by decide +kernel
theorem dX8_laysBlanks_16 : decode cX8_laysBlanks 16 = .ok (.iload_n 1, 1) := by decide +kernel
theorem dX8_laysBlanks_17 : decode cX8_laysBlanks 17 = .ok (.invokevirtual 189, 3) := by decide +kernel
theorem dX8_laysBlanks_20 : decode cX8_laysBlanks 20 = .ok (.istore_n 2, 1) := by decide +kernel
theorem dX8_laysBlanks_21 : decode cX8_laysBlanks 21 = .ok (.aload_n 0, 1) := by decide +kernel
theorem dX8_laysBlanks_22 : decode cX8_laysBlanks 22 = .ok (.iload_n 1, 1) := by decide +kernel
theorem dX8_laysBlanks_23 : decode cX8_laysBlanks 23 = .ok (.invokevirtual 192, 3) := by decide +kernel
theorem dX8_laysBlanks_26 : decode cX8_laysBlanks 26 = .ok (.ifCond .eq 13, 3) := by decide +kernel
theorem dX8_laysBlanks_29 : decode cX8_laysBlanks 29 = .ok (.aload_n 0, 1) := by decide +kernel
theorem dX8_laysBlanks_30 : decode cX8_laysBlanks 30 = .ok (.iload_n 1, 1) := by decide +kernel
theorem dX8_laysBlanks_31 : decode cX8_laysBlanks 31 = .ok (.invokevirtual 195, 3) := by decide +kernel
theorem dX8_laysBlanks_34 : decode cX8_laysBlanks 34 = .ok (.iload_n 2, 1) := by decide +kernel
theorem dX8_laysBlanks_35 : decode cX8_laysBlanks 35 = .ok (.idiv, 1) := by decide +kernel
theorem dX8_laysBlanks_36 : decode cX8_laysBlanks 36 = .ok (.goto 4, 3) := by decide +kernel
theorem dX8_laysBlanks_39 : decode cX8_laysBlanks 39 = .ok (.iconst 0, 1) := by decide +kernel
theorem dX8_laysBlanks_40 : decode cX8_laysBlanks 40 = .ok (.istore_n 3, 1) := by decide +kernel
theorem dX8_laysBlanks_41 : decode cX8_laysBlanks 41 = .ok (.aload_n 0, 1) := by decide +kernel
theorem dX8_laysBlanks_42 : decode cX8_laysBlanks 42 = .ok (.iload_n 1, 1) := by decide +kernel
theorem dX8_laysBlanks_43 : decode cX8_laysBlanks 43 = .ok (.invokevirtual 192, 3) := by decide +kernel
theorem dX8_laysBlanks_46 : decode cX8_laysBlanks 46 = .ok (.ifCond .eq 13, 3) := by decide +kernel
theorem dX8_laysBlanks_49 : decode cX8_laysBlanks 49 = .ok (.aload_n 0, 1) := by decide +kernel
theorem dX8_laysBlanks_50 : decode cX8_laysBlanks 50 = .ok (.iload_n 1, 1) := by decide +kernel
theorem dX8_laysBlanks_51 : decode cX8_laysBlanks 51 = .ok (.invokevirtual 195, 3) := by decide +kernel
theorem dX8_laysBlanks_54 : decode cX8_laysBlanks 54 = .ok (.iload_n 2, 1) := by decide +kernel
theorem dX8_laysBlanks_55 : decode cX8_laysBlanks 55 = .ok (.irem, 1) := by decide +kernel
theorem dX8_laysBlanks_56 : decode cX8_laysBlanks 56 = .ok (.goto 4, 3) := by decide +kernel
theorem dX8_laysBlanks_59 : decode cX8_laysBlanks 59 = .ok (.iconst 0, 1) := by decide +kernel
theorem dX8_laysBlanks_60 : decode cX8_laysBlanks 60 = .ok (.istore 4, 2) := by decide +kernel
theorem dX8_laysBlanks_62 : decode cX8_laysBlanks 62 = .ok (.aload_n 0, 1) := by decide +kernel
theorem dX8_laysBlanks_63 : decode cX8_laysBlanks 63 = .ok (.aload_n 0, 1) := by decide +kernel
theorem dX8_laysBlanks_64 : decode cX8_laysBlanks 64 = .ok (.iload_n 1, 1) := by decide +kernel
theorem dX8_laysBlanks_65 : decode cX8_laysBlanks 65 = .ok (.invokevirtual 186, 3) := by decide +kernel
theorem dX8_laysBlanks_68 : decode cX8_laysBlanks 68 = .ok (.invokevirtual 157, 3) := by decide +kernel
theorem dX8_laysBlanks_71 : decode cX8_laysBlanks 71 = .ok (.istore 5, 2) := by decide +kernel
theorem dX8_laysBlanks_73 : decode cX8_laysBlanks 73 = .ok (.aload_n 0, 1) := by decide +kernel
theorem dX8_laysBlanks_74 : decode cX8_laysBlanks 74 = .ok (.getfield 53, 3) := by decide +kernel
theorem dX8_laysBlanks_77 : decode cX8_laysBlanks 77 = .ok (.aload_n 0, 1) := by decide +kernel
theorem dX8_laysBlanks_78 : decode cX8_laysBlanks 78 = .ok (.getfield 19, 3) := by decide +kernel
theorem dX8_laysBlanks_81 : decode cX8_laysBlanks 81 = .ok (.iload 5, 2) := by decide +kernel
theorem dX8_laysBlanks_83 : decode cX8_laysBlanks 83 = .ok (.iaload, 1) := by decide +kernel
theorem dX8_laysBlanks_84 : decode cX8_laysBlanks 84 = .ok (.iaload, 1) := by decide +kernel
theorem dX8_laysBlanks_85 : decode cX8_laysBlanks 85 = .ok (.aload_n 0, 1) := by decide +kernel
theorem dX8_laysBlanks_86 : decode cX8_laysBlanks 86 = .ok (.getfield 53, 3) := by decide +kernel
theorem dX8_laysBlanks_89 : decode cX8_laysBlanks 89 = .ok (.aload_n 0, 1) := by decide +kernel
theorem dX8_laysBlanks_90 : decode cX8_laysBlanks 90 = .ok (.aload_n 0, 1) := by decide +kernel
theorem dX8_laysBlanks_91 : decode cX8_laysBlanks 91 = .ok (.iload_n 1, 1) := by decide +kernel
theorem dX8_laysBlanks_92 : decode cX8_laysBlanks 92 = .ok (.invokevirtual 186, 3) := by decide +kernel
theorem dX8_laysBlanks_95 : decode cX8_laysBlanks 95 = .ok (.invokevirtual 160, 3) := by decide +kernel
theorem dX8_laysBlanks_98 : decode cX8_laysBlanks 98 = .ok (.iaload, 1) := by decide +kernel
theorem dX8_laysBlanks_99 : decode cX8_laysBlanks 99 = .ok (.isub, 1) := by decide +kernel
theorem dX8_laysBlanks_100 : decode cX8_laysBlanks 100 = .ok (.istore 6, 2) := by decide +kernel
theorem dX8_laysBlanks_102 : decode cX8_laysBlanks 102 = .ok (.iconst 0, 1) := by decide +kernel
theorem dX8_laysBlanks_103 : decode cX8_laysBlanks 103 = .ok (.istore 7, 2) := by decide +kernel
theorem dX8_laysBlanks_105 : decode cX8_laysBlanks 105 = .ok (.iload 7, 2) := by decide +kernel
theorem dX8_laysBlanks_107 : decode cX8_laysBlanks 107 = .ok (.iload_n 2, 1) := by decide +kernel
theorem dX8_laysBlanks_108 : decode cX8_laysBlanks 108 = .ok (.if_icmp .ge 121, 3) := by decide +kernel
theorem dX8_laysBlanks_111 : decode cX8_laysBlanks 111 = .ok (.aload_n 0, 1) := by decide +kernel
theorem dX8_laysBlanks_112 : decode cX8_laysBlanks 112 = .ok (.getfield 68, 3) := by decide +kernel
theorem dX8_laysBlanks_115 : decode cX8_laysBlanks 115 = .ok (.aload_n 0, 1) := by decide +kernel
theorem dX8_laysBlanks_116 : decode cX8_laysBlanks 116 = .ok (.getfield 198, 3) := by decide +kernel
theorem dX8_laysBlanks_119 : decode cX8_laysBlanks 119 = .ok (.iload_n 1, 1) := by decide +kernel
theorem dX8_laysBlanks_120 : decode cX8_laysBlanks 120 = .ok (.iastore, 1) := by decide +kernel
theorem dX8_laysBlanks_121 : decode cX8_laysBlanks 121 = .ok (.aload_n 0, 1) := by decide +kernel
theorem dX8_laysBlanks_122 : decode cX8_laysBlanks 122 = .ok (.getfield 71, 3) := by decide +kernel
theorem dX8_laysBlanks_125 : decode cX8_laysBlanks 125 = .ok (.aload_n 0, 1) := by decide +kernel
theorem dX8_laysBlanks_126 : decode cX8_laysBlanks 126 = .ok (.getfield 198, 3) := by decide +kernel
theorem dX8_laysBlanks_129 : decode cX8_laysBlanks 129 = .ok (.iload 6, 2) := by decide +kernel
theorem dX8_laysBlanks_131 : decode cX8_laysBlanks 131 = .ok (.iastore, 1) := by decide +kernel
theorem dX8_laysBlanks_132 : decode cX8_laysBlanks 132 = .ok (.aload_n 0, 1) := by decide +kernel
theorem dX8_laysBlanks_133 : decode cX8_laysBlanks 133 = .ok (.getfield 74, 3) := by decide +kernel
theorem dX8_laysBlanks_136 : decode cX8_laysBlanks 136 = .ok (.aload_n 0, 1) := by decide +kernel
theorem dX8_laysBlanks_137 : decode cX8_laysBlanks 137 = .ok (.getfield 198, 3) := by decide +kernel
theorem dX8_laysBlanks_140 : decode cX8_laysBlanks 140 = .ok (.iload 6, 2) := by decide +kernel
theorem dX8_laysBlanks_142 : decode cX8_laysBlanks 142 = .ok (.aload_n 0, 1) := by decide +kernel
theorem dX8_laysBlanks_143 : decode cX8_laysBlanks 143 = .ok (.getfield 32, 3) := by decide +kernel
theorem dX8_laysBlanks_146 : decode cX8_laysBlanks 146 = .ok (.bipush 34, 2) := by decide +kernel
theorem dX8_laysBlanks_148 : decode cX8_laysBlanks 148 = .ok (.iaload, 1) := by decide +kernel
theorem dX8_laysBlanks_149 : decode cX8_laysBlanks 149 = .ok (.iadd, 1) := by decide +kernel
theorem dX8_laysBlanks_150 : decode cX8_laysBlanks 150 = .ok (.iload_n 3, 1) := by decide +kernel
theorem dX8_laysBlanks_151 : decode cX8_laysBlanks 151 = .ok (.iadd, 1) := by decide +kernel
theorem dX8_laysBlanks_152 : decode cX8_laysBlanks 152 = .ok (.iload 7, 2) := by decide +kernel
theorem dX8_laysBlanks_154 : decode cX8_laysBlanks 154 = .ok (.iload 4, 2) := by decide +kernel
theorem dX8_laysBlanks_156 : decode cX8_laysBlanks 156 = .ok (.if_icmp .ge 7, 3) := by decide +kernel
theorem dX8_laysBlanks_159 : decode cX8_laysBlanks 159 = .ok (.iconst 1, 1) := by decide +kernel
theorem dX8_laysBlanks_160 : decode cX8_laysBlanks 160 = .ok (.goto 4, 3) := by decide +kernel
theorem dX8_laysBlanks_163 : decode cX8_laysBlanks 163 = .ok (.iconst 0, 1) := by decide +kernel
theorem dX8_laysBlanks_164 : decode cX8_laysBlanks 164 = .ok (.iadd, 1) := by decide +kernel
theorem dX8_laysBlanks_165 : decode cX8_laysBlanks 165 = .ok (.iastore, 1) := by decide +kernel
theorem dX8_laysBlanks_166 : decode cX8_laysBlanks 166 = .ok (.aload_n 0, 1) := by decide +kernel
theorem dX8_laysBlanks_167 : decode cX8_laysBlanks 167 = .ok (.getfield 74, 3) := by decide +kernel
theorem dX8_laysBlanks_170 : decode cX8_laysBlanks 170 = .ok (.aload_n 0, 1) := by decide +kernel
theorem dX8_laysBlanks_171 : decode cX8_laysBlanks 171 = .ok (.getfield 198, 3) := by decide +kernel
theorem dX8_laysBlanks_174 : decode cX8_laysBlanks 174 = .ok (.iaload, 1) := by decide +kernel
theorem dX8_laysBlanks_175 : decode cX8_laysBlanks 175 = .ok (.aload_n 0, 1) := by decide +kernel
theorem dX8_laysBlanks_176 : decode cX8_laysBlanks 176 = .ok (.getfield 53, 3) := by decide +kernel
theorem dX8_laysBlanks_179 : decode cX8_laysBlanks 179 = .ok (.aload_n 0, 1) := by decide +kernel
theorem dX8_laysBlanks_180 : decode cX8_laysBlanks 180 = .ok (.getfield 19, 3) := by decide +kernel
theorem dX8_laysBlanks_183 : decode cX8_laysBlanks 183 = .ok (.iload 5, 2) := by decide +kernel
theorem dX8_laysBlanks_185 : decode cX8_laysBlanks 185 = .ok (.iload 7, 2) := by decide +kernel
theorem dX8_laysBlanks_187 : decode cX8_laysBlanks 187 = .ok (.iadd, 1) := by decide +kernel
theorem dX8_laysBlanks_188 : decode cX8_laysBlanks 188 = .ok (.iconst 1, 1) := by decide +kernel
theorem dX8_laysBlanks_189 : decode cX8_laysBlanks 189 = .ok (.iadd, 1) := by decide +kernel
theorem dX8_laysBlanks_190 : decode cX8_laysBlanks 190 = .ok (.iaload, 1) := by decide +kernel
theorem dX8_laysBlanks_191 : decode cX8_laysBlanks 191 = .ok (.iaload, 1) := by decide +kernel
theorem dX8_laysBlanks_192 : decode cX8_laysBlanks 192 = .ok (.iadd, 1) := by decide +kernel
theorem dX8_laysBlanks_193 : decode cX8_laysBlanks 193 = .ok (.aload_n 0, 1) := by decide +kernel
theorem dX8_laysBlanks_194 : decode cX8_laysBlanks 194 = .ok (.getfield 53, 3) := by decide +kernel
theorem dX8_laysBlanks_197 : decode cX8_laysBlanks 197 = .ok (.aload_n 0, 1) := by decide +kernel
theorem dX8_laysBlanks_198 : decode cX8_laysBlanks 198 = .ok (.getfield 16, 3) := by decide +kernel
theorem dX8_laysBlanks_201 : decode cX8_laysBlanks 201 = .ok (.iload 5, 2) := by decide +kernel
theorem dX8_laysBlanks_203 : decode cX8_laysBlanks 203 = .ok (.iload 7, 2) := by decide +kernel
theorem dX8_laysBlanks_205 : decode cX8_laysBlanks 205 = .ok (.iadd, 1) := by decide +kernel
theorem dX8_laysBlanks_206 : decode cX8_laysBlanks 206 = .ok (.iconst 1, 1) := by decide +kernel
theorem dX8_laysBlanks_207 : decode cX8_laysBlanks 207 = .ok (.iadd, 1) := by decide +kernel
theorem dX8_laysBlanks_208 : decode cX8_laysBlanks 208 = .ok (.iaload, 1) := by decide +kernel
theorem dX8_laysBlanks_209 : decode cX8_laysBlanks 209 = .ok (.iaload, 1) := by decide +kernel
theorem dX8_laysBlanks_210 : decode cX8_laysBlanks 210 = .ok (.isub, 1) := by decide +kernel
theorem dX8_laysBlanks_211 : decode cX8_laysBlanks 211 = .ok (.istore 6, 2) := by decide +kernel
theorem dX8_laysBlanks_213 : decode cX8_laysBlanks 213 = .ok (.aload_n 0, 1) := by decide +kernel
theorem dX8_laysBlanks_214 : decode cX8_laysBlanks 214 = .ok (.dup, 1) := by decide +kernel
theorem dX8_laysBlanks_215 : decode cX8_laysBlanks 215 = .ok (.getfield 198, 3) := by decide +kernel
theorem dX8_laysBlanks_218 : decode cX8_laysBlanks 218 = .ok (.iconst 1, 1) := by decide +kernel
theorem dX8_laysBlanks_219 : decode cX8_laysBlanks 219 = .ok (.iadd, 1) := by decide +kernel
theorem dX8_laysBlanks_220 : decode cX8_laysBlanks 220 = .ok (.putfield 198, 3) := by decide +kernel
theorem dX8_laysBlanks_223 : decode cX8_laysBlanks 223 = .ok (.iinc 7 1, 3) := by decide +kernel
theorem dX8_laysBlanks_226 : decode cX8_laysBlanks 226 = .ok (.goto (-121), 3) := by decide +kernel
theorem dX8_laysBlanks_229 : decode cX8_laysBlanks 229 = .ok (.iinc 1 1, 3) := by decide +kernel
theorem dX8_laysBlanks_232 : decode cX8_laysBlanks 232 = .ok (.goto (-225), 3) := by decide +kernel
theorem dX8_laysBlanks_235 : decode cX8_laysBlanks 235 = .ok (.aload_n 0, 1) := by decide +kernel
theorem dX8_laysBlanks_236 : decode cX8_laysBlanks 236 = .ok (.invokevirtual 201, 3) := by decide +kernel
theorem dX8_laysBlanks_239 : decode cX8_laysBlanks 239 = .ok (.return_, 1) := by decide +kernel
theorem dX8_areCommon_0 : decode cX8_areCommon 0 = .ok (.aload_n 0, 1) := by decide +kernel
theorem dX8_areCommon_1 : decode cX8_areCommon 1 = .ok (.getfield 71, 3) := by decide +kernel
theorem dX8_areCommon_4 : decode cX8_areCommon 4 = .ok (.iload_n 1, 1) := by decide +kernel
theorem dX8_areCommon_5 : decode cX8_areCommon 5 = .ok (.iaload, 1) := by decide +kernel
theorem dX8_areCommon_6 : decode cX8_areCommon 6 = .ok (.aload_n 0, 1) := by decide +kernel
theorem dX8_areCommon_7 : decode cX8_areCommon 7 = .ok (.getfield 71, 3) := by decide +kernel
theorem dX8_areCommon_10 : decode cX8_areCommon 10 = .ok (.iload_n 2, 1) := by decide +kernel
theorem dX8_areCommon_11 : decode cX8_areCommon 11 = .ok (.iaload, 1) := by decide +kernel
theorem dX8_areCommon_12 : decode cX8_areCommon 12 = .ok (.if_icmp .le 12, 3) := by decide +kernel
theorem dX8_areCommon_15 : decode cX8_areCommon 15 = .ok (.aload_n 0, 1) := by decide +kernel
theorem dX8_areCommon_16 : decode cX8_areCommon 16 = .ok (.getfield 71, 3) := by decide +kernel
theorem dX8_areCommon_19 : decode cX8_areCommon 19 = .ok (.iload_n 1, 1) := by decide +kernel
theorem dX8_areCommon_20 : decode cX8_areCommon 20 = .ok (.iaload, 1) := by decide +kernel
theorem dX8_areCommon_21 : decode cX8_areCommon 21 = .ok (.goto 9, 3) := by decide +kernel
theorem dX8_areCommon_24 : decode cX8_areCommon 24 = .ok (.aload_n 0, 1) := by decide +kernel
theorem dX8_areCommon_25 : decode cX8_areCommon 25 = .ok (.getfield 71, 3) := by decide +kernel
theorem dX8_areCommon_28 : decode cX8_areCommon 28 = .ok (.iload_n 2, 1) := by decide +kernel
theorem dX8_areCommon_29 : decode cX8_areCommon 29 = .ok (.iaload, 1) := by decide +kernel
theorem dX8_areCommon_30 : decode cX8_areCommon 30 = .ok (.istore_n 3, 1) := by decide +kernel
theorem dX8_areCommon_31 : decode cX8_areCommon 31 = .ok (.aload_n 0, 1) := by decide +kernel
theorem dX8_areCommon_32 : decode cX8_areCommon 32 = .ok (.getfield 74, 3) := by decide +kernel
theorem dX8_areCommon_35 : decode cX8_areCommon 35 = .ok (.iload_n 1, 1) := by decide +kernel
theorem dX8_areCommon_36 : decode cX8_areCommon 36 = .ok (.iaload, 1) := by decide +kernel
theorem dX8_areCommon_37 : decode cX8_areCommon 37 = .ok (.aload_n 0, 1) := by decide +kernel
theorem dX8_areCommon_38 : decode cX8_areCommon 38 = .ok (.getfield 74, 3) := by decide +kernel
theorem dX8_areCommon_41 : decode cX8_areCommon 41 = .ok (.iload_n 2, 1) := by decide +kernel
theorem dX8_areCommon_42 : decode cX8_areCommon 42 = .ok (.iaload, 1) := by decide +kernel
theorem dX8_areCommon_43 : decode cX8_areCommon 43 = .ok (.if_icmp .ge 12, 3) := by decide +kernel
theorem dX8_areCommon_46 : decode cX8_areCommon 46 = .ok (.aload_n 0, 1) := by decide +kernel
theorem dX8_areCommon_47 : decode cX8_areCommon 47 = .ok (.getfield 74, 3) := by decide +kernel
theorem dX8_areCommon_50 : decode cX8_areCommon 50 = .ok (.iload_n 1, 1) := by decide +kernel
theorem dX8_areCommon_51 : decode cX8_areCommon 51 = .ok (.iaload, 1) := by decide +kernel
theorem dX8_areCommon_52 : decode cX8_areCommon 52 = .ok (.goto 9, 3) := by decide +kernel
theorem dX8_areCommon_55 : decode cX8_areCommon 55 = .ok (.aload_n 0, 1) := by decide +kernel
theorem dX8_areCommon_56 : decode cX8_areCommon 56 = .ok (.getfield 74, 3) := by decide +kernel
theorem dX8_areCommon_59 : decode cX8_areCommon 59 = .ok (.iload_n 2, 1) := by decide +kernel
theorem dX8_areCommon_60 : decode cX8_areCommon 60 = .ok (.iaload, 1) := by decide +kernel
theorem dX8_areCommon_61 : decode cX8_areCommon 61 = .ok (.istore 4, 2) := by decide +kernel
