theorem dX0_init_0 : decode cX0_init 0 = .ok (.aload_n 0, 1) := by decide +kernel
theorem dX0_init_1 : decode cX0_init 1 = .ok (.invokespecial 3, 3) := by decide +kernel
theorem dX0_init_4 : decode cX0_init 4 = .ok (.aload_n 0, 1) := by decide +kernel
theorem dX0_init_5 : decode cX0_init 5 = .ok (.bipush 101, 2) := by decide +kernel
theorem dX0_init_7 : decode cX0_init 7 = .ok (.newarray .int, 2) := by decide +kernel
theorem dX0_init_9 : decode cX0_init 9 = .ok (.putfield 9, 3) := by decide +kernel
theorem dX0_init_12 : decode cX0_init 12 = .ok (.aload_n 0, 1) := by decide +kernel
theorem dX0_init_13 : decode cX0_init 13 = .ok (.bipush 101, 2) := by decide +kernel
theorem dX0_init_15 : decode cX0_init 15 = .ok (.newarray .int, 2) := by decide +kernel
theorem dX0_init_17 : decode cX0_init 17 = .ok (.putfield 15, 3) := by decide +kernel
theorem dX0_init_20 : decode cX0_init 20 = .ok (.aload_n 0, 1) := by decide +kernel
theorem dX0_init_21 : decode cX0_init 21 = .ok (.bipush 101, 2) := by decide +kernel
theorem dX0_init_23 : decode cX0_init 23 = .ok (.newarray .int, 2) := by decide +kernel
theorem dX0_init_25 : decode cX0_init 25 = .ok (.putfield 18, 3) := by decide +kernel
theorem dX0_init_28 : decode cX0_init 28 = .ok (.return_, 1) := by decide +kernel
theorem dX0_solve_0 : decode cX0_solve 0 = .ok (.iconst 0, 1) := by decide +kernel
theorem dX0_solve_1 : decode cX0_solve 1 = .ok (.aload_n 1, 1) := by decide +kernel
theorem dX0_solve_2 : decode cX0_solve 2 = .ok (.invokevirtual 21, 3) := by decide +kernel
theorem dX0_solve_5 : decode cX0_solve 5 = .ok (.bipush 100, 2) := by decide +kernel
theorem dX0_solve_7 : decode cX0_solve 7 = .ok (.invokestatic 27, 3) := by decide +kernel
theorem dX0_solve_10 : decode cX0_solve 10 = .ok (.invokestatic 33, 3) := by decide +kernel
theorem dX0_solve_13 : decode cX0_solve 13 = .ok (.istore_n 3, 1) := by decide +kernel
theorem dX0_solve_14 : decode cX0_solve 14 = .ok (.aload_n 0, 1) := by decide +kernel
theorem dX0_solve_15 : decode cX0_solve 15 = .ok (.getfield 9, 3) := by decide +kernel
theorem dX0_solve_18 : decode cX0_solve 18 = .ok (.iload_n 3, 1) := by decide +kernel
theorem dX0_solve_19 : decode cX0_solve 19 = .ok (.iconst 0, 1) := by decide +kernel
theorem dX0_solve_20 : decode cX0_solve 20 = .ok (.iastore, 1) := by decide +kernel
theorem dX0_solve_21 : decode cX0_solve 21 = .ok (.aload_n 0, 1) := by decide +kernel
theorem dX0_solve_22 : decode cX0_solve 22 = .ok (.getfield 15, 3) := by decide +kernel
theorem dX0_solve_25 : decode cX0_solve 25 = .ok (.iload_n 3, 1) := by decide +kernel
theorem dX0_solve_26 : decode cX0_solve 26 = .ok (.iconst 0, 1) := by decide +kernel
theorem dX0_solve_27 : decode cX0_solve 27 = .ok (.iastore, 1) := by decide +kernel
theorem dX0_solve_28 : decode cX0_solve 28 = .ok (.aload_n 0, 1) := by decide +kernel
theorem dX0_solve_29 : decode cX0_solve 29 = .ok (.getfield 18, 3) := by decide +kernel
theorem dX0_solve_32 : decode cX0_solve 32 = .ok (.iload_n 3, 1) := by decide +kernel
theorem dX0_solve_33 : decode cX0_solve 33 = .ok (.iload_n 3, 1) := by decide +kernel
theorem dX0_solve_34 : decode cX0_solve 34 = .ok (.iastore, 1) := by decide +kernel
theorem dX0_solve_35 : decode cX0_solve 35 = .ok (.iload_n 3, 1) := by decide +kernel
theorem dX0_solve_36 : decode cX0_solve 36 = .ok (.iconst 2, 1) := by decide +kernel
theorem dX0_solve_37 : decode cX0_solve 37 = .ok (.isub, 1) := by decide +kernel
theorem dX0_solve_38 : decode cX0_solve 38 = .ok (.istore 4, 2) := by decide +kernel
theorem dX0_solve_40 : decode cX0_solve 40 = .ok (.iload 4, 2) := by decide +kernel
theorem dX0_solve_42 : decode cX0_solve 42 = .ok (.iconst (-1), 1) := by decide +kernel
theorem dX0_solve_43 : decode cX0_solve 43 = .ok (.if_icmp .lt 18, 3) := by decide +kernel
theorem dX0_solve_46 : decode cX0_solve 46 = .ok (.aload_n 0, 1) := by decide +kernel
theorem dX0_solve_47 : decode cX0_solve 47 = .ok (.aload_n 1, 1) := by decide +kernel
theorem dX0_solve_48 : decode cX0_solve 48 = .ok (.iload_n 2, 1) := by decide +kernel
theorem dX0_solve_49 : decode cX0_solve 49 = .ok (.iload 4, 2) := by decide +kernel
theorem dX0_solve_51 : decode cX0_solve 51 = .ok (.iload_n 3, 1) := by decide +kernel
theorem dX0_solve_52 : decode cX0_solve 52 = .ok (.invokevirtual 36, 3) := by decide +kernel
theorem dX0_solve_55 : decode cX0_solve 55 = .ok (.iinc 4 (-1), 3) := by decide +kernel
theorem dX0_solve_58 : decode cX0_solve 58 = .ok (.goto (-18), 3) := by decide +kernel
theorem dX0_solve_61 : decode cX0_solve 61 = .ok (.return_, 1) := by decide +kernel
theorem dX0_chooseEnd_0 : decode cX0_chooseEnd 0 = .ok (.iconst 0, 1) := by decide +kernel
theorem dX0_chooseEnd_1 : decode cX0_chooseEnd 1 = .ok (.istore 5, 2) := by decide +kernel
theorem dX0_chooseEnd_3 : decode cX0_chooseEnd 3 = .ok (.iconst (-1), 1) := by decide +kernel
theorem dX0_chooseEnd_4 : decode cX0_chooseEnd 4 = .ok (.istore 6, 2) := by decide +kernel
theorem dX0_chooseEnd_6 : decode cX0_chooseEnd 6 = .ok (.iconst (-1), 1) := by decide +kernel
theorem dX0_chooseEnd_7 : decode cX0_chooseEnd 7 = .ok (.istore 7, 2) := by decide +kernel
theorem dX0_chooseEnd_9 : decode cX0_chooseEnd 9 = .ok (.iload_n 2, 1) := by decide +kernel
theorem dX0_chooseEnd_10 : decode cX0_chooseEnd 10 = .ok (.bipush 9, 2) := by decide +kernel
theorem dX0_chooseEnd_12 : decode cX0_chooseEnd 12 = .ok (.iadd, 1) := by decide +kernel
theorem dX0_chooseEnd_13 : decode cX0_chooseEnd 13 = .ok (.aload_n 1, 1) := by decide +kernel
theorem dX0_chooseEnd_14 : decode cX0_chooseEnd 14 = .ok (.iload_n 3, 1) := by decide +kernel
theorem dX0_chooseEnd_15 : decode cX0_chooseEnd 15 = .ok (.invokevirtual 40, 3) := by decide +kernel
theorem dX0_chooseEnd_18 : decode cX0_chooseEnd 18 = .ok (.iadd, 1) := by decide +kernel
theorem dX0_chooseEnd_19 : decode cX0_chooseEnd 19 = .ok (.istore 8, 2) := by decide +kernel
theorem dX0_chooseEnd_21 : decode cX0_chooseEnd 21 = .ok (.iload_n 3, 1) := by decide +kernel
theorem dX0_chooseEnd_22 : decode cX0_chooseEnd 22 = .ok (.iconst 1, 1) := by decide +kernel
theorem dX0_chooseEnd_23 : decode cX0_chooseEnd 23 = .ok (.iadd, 1) := by decide +kernel
theorem dX0_chooseEnd_24 : decode cX0_chooseEnd 24 = .ok (.istore 9, 2) := by decide +kernel
theorem dX0_chooseEnd_26 : decode cX0_chooseEnd 26 = .ok (.iload 9, 2) := by decide +kernel
theorem dX0_chooseEnd_28 : decode cX0_chooseEnd 28 = .ok (.iload 4, 2) := by decide +kernel
theorem dX0_chooseEnd_30 : decode cX0_chooseEnd 30 = .ok (.if_icmp .ge 122, 3) := by decide +kernel
theorem dX0_chooseEnd_33 : decode cX0_chooseEnd 33 = .ok (.aload_n 1, 1) := by decide +kernel
theorem dX0_chooseEnd_34 : decode cX0_chooseEnd 34 = .ok (.iload_n 2, 1) := by decide +kernel
theorem dX0_chooseEnd_35 : decode cX0_chooseEnd 35 = .ok (.iload_n 3, 1) := by decide +kernel
theorem dX0_chooseEnd_36 : decode cX0_chooseEnd 36 = .ok (.iload 9, 2) := by decide +kernel
theorem dX0_chooseEnd_38 : decode cX0_chooseEnd 38 = .ok (.invokevirtual 44, 3) := by decide +kernel
theorem dX0_chooseEnd_41 : decode cX0_chooseEnd 41 = .ok (.istore 10, 2) := by decide +kernel
theorem dX0_chooseEnd_43 : decode cX0_chooseEnd 43 = .ok (.iload 10, 2) := by decide +kernel
theorem dX0_chooseEnd_45 : decode cX0_chooseEnd 45 = .ok (.ifCond .lt 87, 3) := by decide +kernel
theorem dX0_chooseEnd_48 : decode cX0_chooseEnd 48 = .ok (.aload_n 0, 1) := by decide +kernel
theorem dX0_chooseEnd_49 : decode cX0_chooseEnd 49 = .ok (.getfield 15, 3) := by decide +kernel
theorem dX0_chooseEnd_52 : decode cX0_chooseEnd 52 = .ok (.iload 9, 2) := by decide +kernel
theorem dX0_chooseEnd_54 : decode cX0_chooseEnd 54 = .ok (.iconst 1, 1) := by decide +kernel
theorem dX0_chooseEnd_55 : decode cX0_chooseEnd 55 = .ok (.iadd, 1) := by decide +kernel
theorem dX0_chooseEnd_56 : decode cX0_chooseEnd 56 = .ok (.iaload, 1) := by decide +kernel
theorem dX0_chooseEnd_57 : decode cX0_chooseEnd 57 = .ok (.ifCond .lt 75, 3) := by decide +kernel
theorem dX0_chooseEnd_60 : decode cX0_chooseEnd 60 = .ok (.aload_n 1, 1) := by decide +kernel
theorem dX0_chooseEnd_61 : decode cX0_chooseEnd 61 = .ok (.iload 10, 2) := by decide +kernel
theorem dX0_chooseEnd_63 : decode cX0_chooseEnd 63 = .ok (.iload_n 3, 1) := by decide +kernel
theorem dX0_chooseEnd_64 : decode cX0_chooseEnd 64 = .ok (.iload 9, 2) := by decide +kernel
theorem dX0_chooseEnd_66 : decode cX0_chooseEnd 66 = .ok (.invokevirtual 48, 3) := by decide +kernel
theorem dX0_chooseEnd_69 : decode cX0_chooseEnd 69 = .ok (.aload_n 0, 1) := by decide +kernel
theorem dX0_chooseEnd_70 : decode cX0_chooseEnd 70 = .ok (.getfield 9, 3) := by decide +kernel
theorem dX0_chooseEnd_73 : decode cX0_chooseEnd 73 = .ok (.iload 9, 2) := by decide +kernel
theorem dX0_chooseEnd_75 : decode cX0_chooseEnd 75 = .ok (.iconst 1, 1) := by decide +kernel
theorem dX0_chooseEnd_76 : decode cX0_chooseEnd 76 = .ok (.iadd, 1) := by decide +kernel
theorem dX0_chooseEnd_77 : decode cX0_chooseEnd 77 = .ok (.iaload, 1) := by decide +kernel
theorem dX0_chooseEnd_78 : decode cX0_chooseEnd 78 = .ok (.iadd, 1) := by decide +kernel
theorem dX0_chooseEnd_79 : decode cX0_chooseEnd 79 = .ok (.istore 11, 2) := by decide +kernel
theorem dX0_chooseEnd_81 : decode cX0_chooseEnd 81 = .ok (.aload_n 0, 1) := by decide +kernel
theorem dX0_chooseEnd_82 : decode cX0_chooseEnd 82 = .ok (.getfield 15, 3) := by decide +kernel
theorem dX0_chooseEnd_85 : decode cX0_chooseEnd 85 = .ok (.iload 9, 2) := by decide +kernel
theorem dX0_chooseEnd_87 : decode cX0_chooseEnd 87 = .ok (.iconst 1, 1) := by decide +kernel
theorem dX0_chooseEnd_88 : decode cX0_chooseEnd 88 = .ok (.iadd, 1) := by decide +kernel
theorem dX0_chooseEnd_89 : decode cX0_chooseEnd 89 = .ok (.iaload, 1) := by decide +kernel
theorem dX0_chooseEnd_90 : decode cX0_chooseEnd 90 = .ok (.iconst 1, 1) := by decide +kernel
theorem dX0_chooseEnd_91 : decode cX0_chooseEnd 91 = .ok (.iadd, 1) := by decide +kernel
theorem dX0_chooseEnd_92 : decode cX0_chooseEnd 92 = .ok (.istore 12, 2) := by decide +kernel
theorem dX0_chooseEnd_94 : decode cX0_chooseEnd 94 = .ok (.iload 7, 2) := by decide +kernel
theorem dX0_chooseEnd_96 : decode cX0_chooseEnd 96 = .ok (.ifCond .lt 24, 3) := by decide +kernel
theorem dX0_chooseEnd_99 : decode cX0_chooseEnd 99 = .ok (.iload 11, 2) := by decide +kernel
theorem dX0_chooseEnd_101 : decode cX0_chooseEnd 101 = .ok (.iload 5, 2) := by decide +kernel
theorem dX0_chooseEnd_103 : decode cX0_chooseEnd 103 = .ok (.if_icmp .lt 17, 3) := by decide +kernel
theorem dX0_chooseEnd_106 : decode cX0_chooseEnd 106 = .ok (.iload 11, 2) := by decide +kernel
theorem dX0_chooseEnd_108 : decode cX0_chooseEnd 108 = .ok (.iload 5, 2) := by decide +kernel
theorem dX0_chooseEnd_110 : decode cX0_chooseEnd 110 = .ok (.if_icmp .ne 22, 3) := by decide +kernel
theorem dX0_chooseEnd_113 : decode cX0_chooseEnd 113 = .ok (.iload 12, 2) := by decide +kernel
theorem dX0_chooseEnd_115 : decode cX0_chooseEnd 115 = .ok (.iload 6, 2) := by decide +kernel
theorem dX0_chooseEnd_117 : decode cX0_chooseEnd 117 = .ok (.if_icmp .gt 15, 3) := by decide +kernel
theorem dX0_chooseEnd_120 : decode cX0_chooseEnd 120 = .ok (.iload 11, 2) := by decide +kernel
theorem dX0_chooseEnd_122 : decode cX0_chooseEnd 122 = .ok (.istore 5, 2) := by decide +kernel
theorem dX0_chooseEnd_124 : decode cX0_chooseEnd 124 = .ok (.iload 12, 2) := by decide +kernel
theorem dX0_chooseEnd_126 : decode cX0_chooseEnd 126 = .ok (.istore 6, 2) := by decide +kernel
theorem dX0_chooseEnd_128 : decode cX0_chooseEnd 128 = .ok (.iload 9, 2) := by decide +kernel
theorem dX0_chooseEnd_130 : decode cX0_chooseEnd 130 = .ok (.istore 7, 2) := by decide +kernel
theorem dX0_chooseEnd_132 : decode cX0_chooseEnd 132 = .ok (.aload_n 1, 1) := by decide +kernel
theorem dX0_chooseEnd_133 : decode cX0_chooseEnd 133 = .ok (.iload 9, 2) := by decide +kernel
theorem dX0_chooseEnd_135 : decode cX0_chooseEnd 135 = .ok (.invokevirtual 40, 3) := by decide +kernel
theorem dX0_chooseEnd_138 : decode cX0_chooseEnd 138 = .ok (.iload 8, 2) := by decide +kernel
theorem dX0_chooseEnd_140 : decode cX0_chooseEnd 140 = .ok (.if_icmp .le 6, 3) := by decide +kernel
theorem dX0_chooseEnd_143 : decode cX0_chooseEnd 143 = .ok (.goto 9, 3) := by decide +kernel
theorem dX0_chooseEnd_146 : decode cX0_chooseEnd 146 = .ok (.iinc 9 1, 3) := by decide +kernel
theorem dX0_chooseEnd_149 : decode cX0_chooseEnd 149 = .ok (.goto (-123), 3) := by decide +kernel
theorem dX0_chooseEnd_152 : decode cX0_chooseEnd 152 = .ok (.aload_n 0, 1) := by decide +kernel
theorem dX0_chooseEnd_153 : decode cX0_chooseEnd 153 = .ok (.getfield 9, 3) := by decide +kernel
theorem dX0_chooseEnd_156 : decode cX0_chooseEnd 156 = .ok (.iload_n 3, 1) := by decide +kernel
theorem dX0_chooseEnd_157 : decode cX0_chooseEnd 157 = .ok (.iconst 1, 1) := by decide +kernel
theorem dX0_chooseEnd_158 : decode cX0_chooseEnd 158 = .ok (.iadd, 1) := by decide +kernel
theorem dX0_chooseEnd_159 : decode cX0_chooseEnd 159 = .ok (.iload 5, 2) := by decide +kernel
theorem dX0_chooseEnd_161 : decode cX0_chooseEnd 161 = .ok (.iastore, 1) := by decide +kernel
theorem dX0_chooseEnd_162 : decode cX0_chooseEnd 162 = .ok (.aload_n 0, 1) := by decide +kernel
theorem dX0_chooseEnd_163 : decode cX0_chooseEnd 163 = .ok (.getfield 15, 3) := by decide +kernel
theorem dX0_chooseEnd_166 : decode cX0_chooseEnd 166 = .ok (.iload_n 3, 1) := by decide +kernel
theorem dX0_chooseEnd_167 : decode cX0_chooseEnd 167 = .ok (.iconst 1, 1) := by decide +kernel
theorem dX0_chooseEnd_168 : decode cX0_chooseEnd 168 = .ok (.iadd, 1) := by decide +kernel
theorem dX0_chooseEnd_169 : decode cX0_chooseEnd 169 = .ok (.iload 6, 2) := by decide +kernel
theorem dX0_chooseEnd_171 : decode cX0_chooseEnd 171 = .ok (.iastore, 1) := by decide +kernel
theorem dX0_chooseEnd_172 : decode cX0_chooseEnd 172 = .ok (.aload_n 0, 1) := by decide +kernel
theorem dX0_chooseEnd_173 : decode cX0_chooseEnd 173 = .ok (.getfield 18, 3) := by decide +kernel
theorem dX0_chooseEnd_176 : decode cX0_chooseEnd 176 = .ok (.iload_n 3, 1) := by decide +kernel
theorem dX0_chooseEnd_177 : decode cX0_chooseEnd 177 = .ok (.iconst 1, 1) := by decide +kernel
theorem dX0_chooseEnd_178 : decode cX0_chooseEnd 178 = .ok (.iadd, 1) := by decide +kernel
theorem dX0_chooseEnd_179 : decode cX0_chooseEnd 179 = .ok (.iload 7, 2) := by decide +kernel
theorem dX0_chooseEnd_181 : decode cX0_chooseEnd 181 = .ok (.iastore, 1) := by decide +kernel
theorem dX0_chooseEnd_182 : decode cX0_chooseEnd 182 = .ok (.return_, 1) := by decide +kernel
theorem dX0_hasPage_0 : decode cX0_hasPage 0 = .ok (.aload_n 0, 1) := by decide +kernel
theorem dX0_hasPage_1 : decode cX0_hasPage 1 = .ok (.getfield 15, 3) := by decide +kernel
theorem dX0_hasPage_4 : decode cX0_hasPage 4 = .ok (.iconst 0, 1) := by decide +kernel
theorem dX0_hasPage_5 : decode cX0_hasPage 5 = .ok (.iaload, 1) := by decide +kernel
theorem dX0_hasPage_6 : decode cX0_hasPage 6 = .ok (.ifCond .lt 7, 3) := by decide +kernel
theorem dX0_hasPage_9 : decode cX0_hasPage 9 = .ok (.iconst 1, 1) := by decide +kernel
theorem dX0_hasPage_10 : decode cX0_hasPage 10 = .ok (.goto 4, 3) := by decide +kernel
theorem dX0_hasPage_13 : decode cX0_hasPage 13 = .ok (.iconst 0, 1) := by decide +kernel
theorem dX0_hasPage_14 : decode cX0_hasPage 14 = .ok (.ireturn, 1) := by decide +kernel
theorem dX0_cost_0 : decode cX0_cost 0 = .ok (.aload_n 0, 1) := by decide +kernel
theorem dX0_cost_1 : decode cX0_cost 1 = .ok (.getfield 9, 3) := by decide +kernel
theorem dX0_cost_4 : decode cX0_cost 4 = .ok (.iconst 0, 1) := by decide +kernel
theorem dX0_cost_5 : decode cX0_cost 5 = .ok (.iaload, 1) := by decide +kernel
theorem dX0_cost_6 : decode cX0_cost 6 = .ok (.ireturn, 1) := by decide +kernel
theorem dX0_lineCount_0 : decode cX0_lineCount 0 = .ok (.aload_n 0, 1) := by decide +kernel
theorem dX0_lineCount_1 : decode cX0_lineCount 1 = .ok (.getfield 15, 3) := by decide +kernel
theorem dX0_lineCount_4 : decode cX0_lineCount 4 = .ok (.iconst 0, 1) := by decide +kernel
theorem dX0_lineCount_5 : decode cX0_lineCount 5 = .ok (.iaload, 1) := by decide +kernel
theorem dX0_lineCount_6 : decode cX0_lineCount 6 = .ok (.ireturn, 1) := by decide +kernel
theorem dX0_endBehind_0 : decode cX0_endBehind 0 = .ok (.iload_n 1, 1) := by decide +kernel
theorem dX0_endBehind_1 : decode cX0_endBehind 1 = .ok (.iconst 1, 1) := by decide +kernel
theorem dX0_endBehind_2 : decode cX0_endBehind 2 = .ok (.iadd, 1) := by decide +kernel
theorem dX0_endBehind_3 : decode cX0_endBehind 3 = .ok (.istore_n 2, 1) := by decide +kernel
theorem dX0_endBehind_4 : decode cX0_endBehind 4 = .ok (.iload_n 2, 1) := by decide +kernel
theorem dX0_endBehind_5 : decode cX0_endBehind 5 = .ok (.ifCond .lt 21, 3) := by decide +kernel
theorem dX0_endBehind_8 : decode cX0_endBehind 8 = .ok (.iload_n 2, 1) := by decide +kernel
theorem dX0_endBehind_9 : decode cX0_endBehind 9 = .ok (.aload_n 0, 1) := by decide +kernel
theorem dX0_endBehind_10 : decode cX0_endBehind 10 = .ok (.getfield 18, 3) := by decide +kernel
theorem dX0_endBehind_13 : decode cX0_endBehind 13 = .ok (.arraylength, 1) := by decide +kernel
theorem dX0_endBehind_14 : decode cX0_endBehind 14 = .ok (.if_icmp .ge 12, 3) := by decide +kernel
theorem dX0_endBehind_17 : decode cX0_endBehind 17 = .ok (.aload_n 0, 1) := by decide +kernel
theorem dX0_endBehind_18 : decode cX0_endBehind 18 = .ok (.getfield 18, 3) := by decide +kernel
theorem dX0_endBehind_21 : decode cX0_endBehind 21 = .ok (.iload_n 2, 1) := by decide +kernel
theorem dX0_endBehind_22 : decode cX0_endBehind 22 = .ok (.iaload, 1) := by decide +kernel
theorem dX0_endBehind_23 : decode cX0_endBehind 23 = .ok (.goto 4, 3) := by decide +kernel
theorem dX0_endBehind_26 : decode cX0_endBehind 26 = .ok (.iconst (-1), 1) := by decide +kernel
theorem dX0_endBehind_27 : decode cX0_endBehind 27 = .ok (.ireturn, 1) := by decide +kernel
theorem dX1_init_0 : decode cX1_init 0 = .ok (.aload_n 0, 1) := by decide +kernel
theorem dX1_init_1 : decode cX1_init 1 = .ok (.invokespecial 3, 3) := by decide +kernel
theorem dX1_init_4 : decode cX1_init 4 = .ok (.aload_n 0, 1) := by decide +kernel
theorem dX1_init_5 : decode cX1_init 5 = .ok (.new 9, 3) := by decide +kernel
theorem dX1_init_8 : decode cX1_init 8 = .ok (.dup, 1) := by decide +kernel
theorem dX1_init_9 : decode cX1_init 9 = .ok (.bipush 100, 2) := by decide +kernel
theorem dX1_init_11 : decode cX1_init 11 = .ok (.invokespecial 11, 3) := by decide +kernel
theorem dX1_init_14 : decode cX1_init 14 = .ok (.putfield 14, 3) := by decide +kernel
theorem dX1_init_17 : decode cX1_init 17 = .ok (.aload_n 0, 1) := by decide +kernel
theorem dX1_init_18 : decode cX1_init 18 = .ok (.new 9, 3) := by decide +kernel
theorem dX1_init_21 : decode cX1_init 21 = .ok (.dup, 1) := by decide +kernel
theorem dX1_init_22 : decode cX1_init 22 = .ok (.bipush 100, 2) := by decide +kernel
theorem dX1_init_24 : decode cX1_init 24 = .ok (.invokespecial 11, 3) := by decide +kernel
theorem dX1_init_27 : decode cX1_init 27 = .ok (.putfield 20, 3) := by decide +kernel
theorem dX1_init_30 : decode cX1_init 30 = .ok (.aload_n 0, 1) := by decide +kernel
theorem dX1_init_31 : decode cX1_init 31 = .ok (.new 9, 3) := by decide +kernel
theorem dX1_init_34 : decode cX1_init 34 = .ok (.dup, 1) := by decide +kernel
theorem dX1_init_35 : decode cX1_init 35 = .ok (.bipush 100, 2) := by decide +kernel
theorem dX1_init_37 : decode cX1_init 37 = .ok (.invokespecial 11, 3) := by decide +kernel
theorem dX1_init_40 : decode cX1_init 40 = .ok (.putfield 23, 3) := by decide +kernel
theorem dX1_init_43 : decode cX1_init 43 = .ok (.aload_n 0, 1) := by decide +kernel
theorem dX1_init_44 : decode cX1_init 44 = .ok (.new 9, 3) := by decide +kernel
theorem dX1_init_47 : decode cX1_init 47 = .ok (.dup, 1) := by decide +kernel
theorem dX1_init_48 : decode cX1_init 48 = .ok (.bipush 100, 2) := by decide +kernel
theorem dX1_init_50 : decode cX1_init 50 = .ok (.invokespecial 11, 3) := by decide +kernel
theorem dX1_init_53 : decode cX1_init 53 = .ok (.putfield 26, 3) := by decide +kernel
theorem dX1_init_56 : decode cX1_init 56 = .ok (.aload_n 0, 1) := by decide +kernel
theorem dX1_init_57 : decode cX1_init 57 = .ok (.new 9, 3) := by decide +kernel
theorem dX1_init_60 : decode cX1_init 60 = .ok (.dup, 1) := by decide +kernel
theorem dX1_init_61 : decode cX1_init 61 = .ok (.bipush 101, 2) := by decide +kernel
theorem dX1_init_63 : decode cX1_init 63 = .ok (.invokespecial 11, 3) := by decide +kernel
theorem dX1_init_66 : decode cX1_init 66 = .ok (.putfield 29, 3) := by decide +kernel
theorem dX1_init_69 : decode cX1_init 69 = .ok (.return_, 1) := by decide +kernel
theorem dX1_take_0 : decode cX1_take 0 = .ok (.aload_n 0, 1) := by decide +kernel
theorem dX1_take_1 : decode cX1_take 1 = .ok (.aload_n 2, 1) := by decide +kernel
theorem dX1_take_2 : decode cX1_take 2 = .ok (.bipush 34, 2) := by decide +kernel
theorem dX1_take_4 : decode cX1_take 4 = .ok (.invokevirtual 32, 3) := by decide +kernel
theorem dX1_take_7 : decode cX1_take 7 = .ok (.putfield 38, 3) := by decide +kernel
theorem dX1_take_10 : decode cX1_take 10 = .ok (.aload_n 0, 1) := by decide +kernel
theorem dX1_take_11 : decode cX1_take 11 = .ok (.aload_n 2, 1) := by decide +kernel
theorem dX1_take_12 : decode cX1_take 12 = .ok (.bipush 35, 2) := by decide +kernel
theorem dX1_take_14 : decode cX1_take 14 = .ok (.invokevirtual 32, 3) := by decide +kernel
theorem dX1_take_17 : decode cX1_take 17 = .ok (.putfield 42, 3) := by decide +kernel
theorem dX1_take_20 : decode cX1_take 20 = .ok (.aload_n 0, 1) := by decide +kernel
theorem dX1_take_21 : decode cX1_take 21 = .ok (.aload_n 2, 1) := by decide +kernel
theorem dX1_take_22 : decode cX1_take 22 = .ok (.bipush 36, 2) := by decide +kernel
theorem dX1_take_24 : decode cX1_take 24 = .ok (.invokevirtual 32, 3) := by decide +kernel
theorem dX1_take_27 : decode cX1_take 27 = .ok (.putfield 45, 3) := by decide +kernel
theorem dX1_take_30 : decode cX1_take 30 = .ok (.aload_n 0, 1) := by decide +kernel
theorem dX1_take_31 : decode cX1_take 31 = .ok (.aload_n 2, 1) := by decide +kernel
theorem dX1_take_32 : decode cX1_take 32 = .ok (.bipush 37, 2) := by decide +kernel
theorem dX1_take_34 : decode cX1_take 34 = .ok (.invokevirtual 32, 3) := by decide +kernel
theorem dX1_take_37 : decode cX1_take 37 = .ok (.putfield 48, 3) := by decide +kernel
theorem dX1_take_40 : decode cX1_take 40 = .ok (.aload_n 0, 1) := by decide +kernel
theorem dX1_take_41 : decode cX1_take 41 = .ok (.getfield 14, 3) := by decide +kernel
theorem dX1_take_44 : decode cX1_take 44 = .ok (.invokevirtual 51, 3) := by decide +kernel
theorem dX1_take_47 : decode cX1_take 47 = .ok (.aload_n 0, 1) := by decide +kernel
theorem dX1_take_48 : decode cX1_take 48 = .ok (.getfield 20, 3) := by decide +kernel
theorem dX1_take_51 : decode cX1_take 51 = .ok (.invokevirtual 51, 3) := by decide +kernel
theorem dX1_take_54 : decode cX1_take 54 = .ok (.aload_n 0, 1) := by decide +kernel
theorem dX1_take_55 : decode cX1_take 55 = .ok (.getfield 23, 3) := by decide +kernel
theorem dX1_take_58 : decode cX1_take 58 = .ok (.invokevirtual 51, 3) := by decide +kernel
theorem dX1_take_61 : decode cX1_take 61 = .ok (.aload_n 0, 1) := by decide +kernel
theorem dX1_take_62 : decode cX1_take 62 = .ok (.getfield 26, 3) := by decide +kernel
theorem dX1_take_65 : decode cX1_take 65 = .ok (.invokevirtual 51, 3) := by decide +kernel
theorem dX1_take_68 : decode cX1_take 68 = .ok (.aload_n 0, 1) := by decide +kernel
theorem dX1_take_69 : decode cX1_take 69 = .ok (.getfield 29, 3) := by decide +kernel
theorem dX1_take_72 : decode cX1_take 72 = .ok (.invokevirtual 51, 3) := by decide +kernel
theorem dX1_take_75 : decode cX1_take 75 = .ok (.aload_n 0, 1) := by decide +kernel
theorem dX1_take_76 : decode cX1_take 76 = .ok (.getfield 29, 3) := by decide +kernel
theorem dX1_take_79 : decode cX1_take 79 = .ok (.iconst 0, 1) := by decide +kernel
theorem dX1_take_80 : decode cX1_take 80 = .ok (.invokevirtual 54, 3) := by decide +kernel
theorem dX1_take_83 : decode cX1_take 83 = .ok (.pop, 1) := by decide +kernel
theorem dX1_take_84 : decode cX1_take 84 = .ok (.iconst 0, 1) := by decide +kernel
theorem dX1_take_85 : decode cX1_take 85 = .ok (.istore_n 3, 1) := by decide +kernel
theorem dX1_take_86 : decode cX1_take 86 = .ok (.iconst 0, 1) := by decide +kernel
theorem dX1_take_87 : decode cX1_take 87 = .ok (.istore 4, 2) := by decide +kernel
theorem dX1_take_89 : decode cX1_take 89 = .ok (.iload 4, 2) := by decide +kernel
theorem dX1_take_91 : decode cX1_take 91 = .ok (.aload_n 1, 1) := by decide +kernel
theorem dX1_take_92 : decode cX1_take 92 = .ok (.invokevirtual 58, 3) := by decide +kernel
theorem dX1_take_95 : decode cX1_take 95 = .ok (.if_icmp .ge 19, 3) := by decide +kernel
theorem dX1_take_98 : decode cX1_take 98 = .ok (.aload_n 0, 1) := by decide +kernel
theorem dX1_take_99 : decode cX1_take 99 = .ok (.aload_n 1, 1) := by decide +kernel
theorem dX1_take_100 : decode cX1_take 100 = .ok (.aload_n 2, 1) := by decide +kernel
theorem dX1_take_101 : decode cX1_take 101 = .ok (.iload 4, 2) := by decide +kernel
theorem dX1_take_103 : decode cX1_take 103 = .ok (.iload_n 3, 1) := by decide +kernel
theorem dX1_take_104 : decode cX1_take 104 = .ok (.invokevirtual 64, 3) := by decide +kernel
theorem dX1_take_107 : decode cX1_take 107 = .ok (.istore_n 3, 1) := by decide +kernel
theorem dX1_take_108 : decode cX1_take 108 = .ok (.iinc 4 1, 3) := by decide +kernel
theorem dX1_take_111 : decode cX1_take 111 = .ok (.goto (-22), 3) := by decide +kernel
theorem dX1_take_114 : decode cX1_take 114 = .ok (.return_, 1) := by decide +kernel
theorem dX1_takeWord_0 : decode cX1_takeWord 0 = .ok (.iload 4, 2) := by decide +kernel
theorem dX1_takeWord_2 : decode cX1_takeWord 2 = .ok (.istore 5, 2) := by decide +kernel
theorem dX1_takeWord_4 : decode cX1_takeWord 4 = .ok (.iconst 0, 1) := by decide +kernel
theorem dX1_takeWord_5 : decode cX1_takeWord 5 = .ok (.istore 6, 2) := by decide +kernel
theorem dX1_takeWord_7 : decode cX1_takeWord 7 = .ok (.iconst 0, 1) := by decide +kernel
theorem dX1_takeWord_8 : decode cX1_takeWord 8 = .ok (.istore 7, 2) := by decide +kernel
theorem dX1_takeWord_10 : decode cX1_takeWord 10 = .ok (.iload 7, 2) := by decide +kernel
theorem dX1_takeWord_12 : decode cX1_takeWord 12 = .ok (.aload_n 1, 1) := by decide +kernel
theorem dX1_takeWord_13 : decode cX1_takeWord 13 = .ok (.iload_n 3, 1) := by decide +kernel
theorem dX1_takeWord_14 : decode cX1_takeWord 14 = .ok (.invokevirtual 68, 3) := by decide +kernel
theorem dX1_takeWord_17 : decode cX1_takeWord 17 = .ok (.if_icmp .ge 59, 3) := by decide +kernel
theorem dX1_takeWord_20 : decode cX1_takeWord 20 = .ok (.aload_n 1, 1) := by decide +kernel
theorem dX1_takeWord_21 : decode cX1_takeWord 21 = .ok (.iload_n 3, 1) := by decide +kernel
theorem dX1_takeWord_22 : decode cX1_takeWord 22 = .ok (.iload 7, 2) := by decide +kernel
theorem dX1_takeWord_24 : decode cX1_takeWord 24 = .ok (.invokevirtual 71, 3) := by decide +kernel
theorem dX1_takeWord_27 : decode cX1_takeWord 27 = .ok (.istore 6, 2) := by decide +kernel
theorem dX1_takeWord_29 : decode cX1_takeWord 29 = .ok (.iload 5, 2) := by decide +kernel
theorem dX1_takeWord_31 : decode cX1_takeWord 31 = .ok (.aload_n 2, 1) := by decide +kernel
theorem dX1_takeWord_32 : decode cX1_takeWord 32 = .ok (.iload 6, 2) := by decide +kernel
theorem dX1_takeWord_34 : decode cX1_takeWord 34 = .ok (.invokevirtual 75, 3) := by decide +kernel
theorem dX1_takeWord_37 : decode cX1_takeWord 37 = .ok (.iadd, 1) := by decide +kernel
theorem dX1_takeWord_38 : decode cX1_takeWord 38 = .ok (.istore 5, 2) := by decide +kernel
theorem dX1_takeWord_40 : decode cX1_takeWord 40 = .ok (.iload 6, 2) := by decide +kernel
theorem dX1_takeWord_42 : decode cX1_takeWord 42 = .ok (.bipush 47, 2) := by decide +kernel
theorem dX1_takeWord_44 : decode cX1_takeWord 44 = .ok (.if_icmp .ne 26, 3) := by decide +kernel
theorem dX1_takeWord_47 : decode cX1_takeWord 47 = .ok (.aload_n 0, 1) := by decide +kernel
theorem dX1_takeWord_48 : decode cX1_takeWord 48 = .ok (.iload_n 3, 1) := by decide +kernel
theorem dX1_takeWord_49 : decode cX1_takeWord 49 = .ok (.iconst 1, 1) := by decide +kernel
theorem dX1_takeWord_50 : decode cX1_takeWord 50 = .ok (.iload 5, 2) := by decide +kernel
theorem dX1_takeWord_52 : decode cX1_takeWord 52 = .ok (.aload_n 2, 1) := by decide +kernel
theorem dX1_takeWord_53 : decode cX1_takeWord 53 = .ok (.bipush 45, 2) := by decide +kernel
theorem dX1_takeWord_55 : decode cX1_takeWord 55 = .ok (.invokevirtual 75, 3) := by decide +kernel
theorem dX1_takeWord_58 : decode cX1_takeWord 58 = .ok (.iadd, 1) := by decide +kernel
theorem dX1_takeWord_59 : decode cX1_takeWord 59 = .ok (.aload_n 2, 1) := by decide +kernel
theorem dX1_takeWord_60 : decode cX1_takeWord 60 = .ok (.bipush 45, 2) := by decide +kernel
theorem dX1_takeWord_62 : decode cX1_takeWord 62 = .ok (.invokevirtual 78, 3) := by decide +kernel
theorem dX1_takeWord_65 : decode cX1_takeWord 65 = .ok (.iload 5, 2) := by decide +kernel
theorem dX1_takeWord_67 : decode cX1_takeWord 67 = .ok (.invokevirtual 81, 3) := by decide +kernel
theorem dX1_takeWord_70 : decode cX1_takeWord 70 = .ok (.iinc 7 1, 3) := by decide +kernel
theorem dX1_takeWord_73 : decode cX1_takeWord 73 = .ok (.goto (-63), 3) := by decide +kernel
theorem dX1_takeWord_76 : decode cX1_takeWord 76 = .ok (.aload_n 0, 1) := by decide +kernel
theorem dX1_takeWord_77 : decode cX1_takeWord 77 = .ok (.iload_n 3, 1) := by decide +kernel
theorem dX1_takeWord_78 : decode cX1_takeWord 78 = .ok (.iconst 0, 1) := by decide +kernel
theorem dX1_takeWord_79 : decode cX1_takeWord 79 = .ok (.iload 5, 2) := by decide +kernel
theorem dX1_takeWord_81 : decode cX1_takeWord 81 = .ok (.aload_n 2, 1) := by decide +kernel
theorem dX1_takeWord_82 : decode cX1_takeWord 82 = .ok (.iload 6, 2) := by decide +kernel
theorem dX1_takeWord_84 : decode cX1_takeWord 84 = .ok (.invokevirtual 78, 3) := by decide +kernel
theorem dX1_takeWord_87 : decode cX1_takeWord 87 = .ok (.iload 5, 2) := by decide +kernel
theorem dX1_takeWord_89 : decode cX1_takeWord 89 = .ok (.aload_n 0, 1) := by decide +kernel
theorem dX1_takeWord_90 : decode cX1_takeWord 90 = .ok (.getfield 38, 3) := by decide +kernel
theorem dX1_takeWord_93 : decode cX1_takeWord 93 = .ok (.iadd, 1) := by decide +kernel
theorem dX1_takeWord_94 : decode cX1_takeWord 94 = .ok (.invokevirtual 81, 3) := by decide +kernel
theorem dX1_takeWord_97 : decode cX1_takeWord 97 = .ok (.iload 5, 2) := by decide +kernel
theorem dX1_takeWord_99 : decode cX1_takeWord 99 = .ok (.aload_n 0, 1) := by decide +kernel
theorem dX1_takeWord_100 : decode cX1_takeWord 100 = .ok (.getfield 38, 3) := by decide +kernel
theorem dX1_takeWord_103 : decode cX1_takeWord 103 = .ok (.iadd, 1) := by decide +kernel
theorem dX1_takeWord_104 : decode cX1_takeWord 104 = .ok (.ireturn, 1) := by decide +kernel
theorem dX1_addPlace_0 : decode cX1_addPlace 0 = .ok (.aload_n 0, 1) := by decide +kernel
theorem dX1_addPlace_1 : decode cX1_addPlace 1 = .ok (.getfield 26, 3) := by decide +kernel
theorem dX1_addPlace_4 : decode cX1_addPlace 4 = .ok (.iload_n 1, 1) := by decide +kernel
theorem dX1_addPlace_5 : decode cX1_addPlace 5 = .ok (.invokevirtual 54, 3) := by decide +kernel
theorem dX1_addPlace_8 : decode cX1_addPlace 8 = .ok (.pop, 1) := by decide +kernel
theorem dX1_addPlace_9 : decode cX1_addPlace 9 = .ok (.aload_n 0, 1) := by decide +kernel
theorem dX1_addPlace_10 : decode cX1_addPlace 10 = .ok (.getfield 23, 3) := by decide +kernel
theorem dX1_addPlace_13 : decode cX1_addPlace 13 = .ok (.iload_n 2, 1) := by decide +kernel
theorem dX1_addPlace_14 : decode cX1_addPlace 14 = .ok (.invokevirtual 54, 3) := by decide +kernel
theorem dX1_addPlace_17 : decode cX1_addPlace 17 = .ok (.pop, 1) := by decide +kernel
theorem dX1_addPlace_18 : decode cX1_addPlace 18 = .ok (.aload_n 0, 1) := by decide +kernel
theorem dX1_addPlace_19 : decode cX1_addPlace 19 = .ok (.getfield 14, 3) := by decide +kernel
theorem dX1_addPlace_22 : decode cX1_addPlace 22 = .ok (.iload_n 3, 1) := by decide +kernel
theorem dX1_addPlace_23 : decode cX1_addPlace 23 = .ok (.invokevirtual 54, 3) := by decide +kernel
theorem dX1_addPlace_26 : decode cX1_addPlace 26 = .ok (.pop, 1) := by decide +kernel
theorem dX1_addPlace_27 : decode cX1_addPlace 27 = .ok (.aload_n 0, 1) := by decide +kernel
theorem dX1_addPlace_28 : decode cX1_addPlace 28 = .ok (.getfield 20, 3) := by decide +kernel
theorem dX1_addPlace_31 : decode cX1_addPlace 31 = .ok (.iload 4, 2) := by decide +kernel
theorem dX1_addPlace_33 : decode cX1_addPlace 33 = .ok (.invokevirtual 54, 3) := by decide +kernel
theorem dX1_addPlace_36 : decode cX1_addPlace 36 = .ok (.pop, 1) := by decide +kernel
theorem dX1_addPlace_37 : decode cX1_addPlace 37 = .ok (.aload_n 0, 1) := by decide +kernel
theorem dX1_addPlace_38 : decode cX1_addPlace 38 = .ok (.getfield 29, 3) := by decide +kernel
theorem dX1_addPlace_41 : decode cX1_addPlace 41 = .ok (.iload 5, 2) := by decide +kernel
theorem dX1_addPlace_43 : decode cX1_addPlace 43 = .ok (.invokevirtual 54, 3) := by decide +kernel
theorem dX1_addPlace_46 : decode cX1_addPlace 46 = .ok (.pop, 1) := by decide +kernel
theorem dX1_addPlace_47 : decode cX1_addPlace 47 = .ok (.return_, 1) := by decide +kernel
theorem dX1_places_0 : decode cX1_places 0 = .ok (.aload_n 0, 1) := by decide +kernel
theorem dX1_places_1 : decode cX1_places 1 = .ok (.getfield 14, 3) := by decide +kernel
theorem dX1_places_4 : decode cX1_places 4 = .ok (.invokevirtual 85, 3) := by decide +kernel
theorem dX1_places_7 : decode cX1_places 7 = .ok (.ireturn, 1) := by decide +kernel
theorem dX1_gap_0 : decode cX1_gap 0 = .ok (.aload_n 0, 1) := by decide +kernel
theorem dX1_gap_1 : decode cX1_gap 1 = .ok (.getfield 38, 3) := by decide +kernel
theorem dX1_gap_4 : decode cX1_gap 4 = .ok (.ireturn, 1) := by decide +kernel
theorem dX1_isSlashAt_0 : decode cX1_isSlashAt 0 = .ok (.aload_n 0, 1) := by decide +kernel
theorem dX1_isSlashAt_1 : decode cX1_isSlashAt 1 = .ok (.getfield 23, 3) := by decide +kernel
theorem dX1_isSlashAt_4 : decode cX1_isSlashAt 4 = .ok (.iload_n 1, 1) := by decide +kernel
theorem dX1_isSlashAt_5 : decode cX1_isSlashAt 5 = .ok (.invokevirtual 88, 3) := by decide +kernel
theorem dX1_isSlashAt_8 : decode cX1_isSlashAt 8 = .ok (.iconst 1, 1) := by decide +kernel
theorem dX1_isSlashAt_9 : decode cX1_isSlashAt 9 = .ok (.if_icmp .ne 7, 3) := by decide +kernel
theorem dX1_isSlashAt_12 : decode cX1_isSlashAt 12 = .ok (.iconst 1, 1) := by decide +kernel
theorem dX1_isSlashAt_13 : decode cX1_isSlashAt 13 = .ok (.goto 4, 3) := by decide +kernel
theorem dX1_isSlashAt_16 : decode cX1_isSlashAt 16 = .ok (.iconst 0, 1) := by decide +kernel
theorem dX1_isSlashAt_17 : decode cX1_isSlashAt 17 = .ok (.ireturn, 1) := by decide +kernel
theorem dX1_hungAt_0 : decode cX1_hungAt 0 = .ok (.aload_n 0, 1) := by decide +kernel
theorem dX1_hungAt_1 : decode cX1_hungAt 1 = .ok (.getfield 20, 3) := by decide +kernel
theorem dX1_hungAt_4 : decode cX1_hungAt 4 = .ok (.iload_n 1, 1) := by decide +kernel
theorem dX1_hungAt_5 : decode cX1_hungAt 5 = .ok (.invokevirtual 88, 3) := by decide +kernel
theorem dX1_hungAt_8 : decode cX1_hungAt 8 = .ok (.ireturn, 1) := by decide +kernel
theorem dX1_beginBehind_0 : decode cX1_beginBehind 0 = .ok (.aload_n 0, 1) := by decide +kernel
theorem dX1_beginBehind_1 : decode cX1_beginBehind 1 = .ok (.getfield 29, 3) := by decide +kernel
theorem dX1_beginBehind_4 : decode cX1_beginBehind 4 = .ok (.iload_n 1, 1) := by decide +kernel
theorem dX1_beginBehind_5 : decode cX1_beginBehind 5 = .ok (.iconst 1, 1) := by decide +kernel
theorem dX1_beginBehind_6 : decode cX1_beginBehind 6 = .ok (.iadd, 1) := by decide +kernel
theorem dX1_beginBehind_7 : decode cX1_beginBehind 7 = .ok (.invokevirtual 88, 3) := by decide +kernel
theorem dX1_beginBehind_10 : decode cX1_beginBehind 10 = .ok (.ireturn, 1) := by decide +kernel
theorem dX1_natural_0 : decode cX1_natural 0 = .ok (.aload_n 0, 1) := by decide +kernel
theorem dX1_natural_1 : decode cX1_natural 1 = .ok (.getfield 14, 3) := by decide +kernel
theorem dX1_natural_4 : decode cX1_natural 4 = .ok (.iload_n 2, 1) := by decide +kernel
theorem dX1_natural_5 : decode cX1_natural 5 = .ok (.invokevirtual 88, 3) := by decide +kernel
theorem dX1_natural_8 : decode cX1_natural 8 = .ok (.aload_n 0, 1) := by decide +kernel
theorem dX1_natural_9 : decode cX1_natural 9 = .ok (.getfield 29, 3) := by decide +kernel
theorem dX1_natural_12 : decode cX1_natural 12 = .ok (.iload_n 1, 1) := by decide +kernel
theorem dX1_natural_13 : decode cX1_natural 13 = .ok (.iconst 1, 1) := by decide +kernel
theorem dX1_natural_14 : decode cX1_natural 14 = .ok (.iadd, 1) := by decide +kernel
theorem dX1_natural_15 : decode cX1_natural 15 = .ok (.invokevirtual 88, 3) := by decide +kernel
theorem dX1_natural_18 : decode cX1_natural 18 = .ok (.isub, 1) := by decide +kernel
theorem dX1_natural_19 : decode cX1_natural 19 = .ok (.ireturn, 1) := by decide +kernel
theorem dX1_leftBy_0 : decode cX1_leftBy 0 = .ok (.iload_n 1, 1) := by decide +kernel
theorem dX1_leftBy_1 : decode cX1_leftBy 1 = .ok (.aload_n 0, 1) := by decide +kernel
theorem dX1_leftBy_2 : decode cX1_leftBy 2 = .ok (.getfield 20, 3) := by decide +kernel
theorem dX1_leftBy_5 : decode cX1_leftBy 5 = .ok (.iload_n 3, 1) := by decide +kernel
theorem dX1_leftBy_6 : decode cX1_leftBy 6 = .ok (.invokevirtual 88, 3) := by decide +kernel
theorem dX1_leftBy_9 : decode cX1_leftBy 9 = .ok (.iadd, 1) := by decide +kernel
theorem dX1_leftBy_10 : decode cX1_leftBy 10 = .ok (.aload_n 0, 1) := by decide +kernel
theorem dX1_leftBy_11 : decode cX1_leftBy 11 = .ok (.getfield 14, 3) := by decide +kernel
theorem dX1_leftBy_14 : decode cX1_leftBy 14 = .ok (.iload_n 3, 1) := by decide +kernel
theorem dX1_leftBy_15 : decode cX1_leftBy 15 = .ok (.invokevirtual 88, 3) := by decide +kernel
theorem dX1_leftBy_18 : decode cX1_leftBy 18 = .ok (.isub, 1) := by decide +kernel
theorem dX1_leftBy_19 : decode cX1_leftBy 19 = .ok (.aload_n 0, 1) := by decide +kernel
theorem dX1_leftBy_20 : decode cX1_leftBy 20 = .ok (.getfield 29, 3) := by decide +kernel
theorem dX1_leftBy_23 : decode cX1_leftBy 23 = .ok (.iload_n 2, 1) := by decide +kernel
theorem dX1_leftBy_24 : decode cX1_leftBy 24 = .ok (.iconst 1, 1) := by decide +kernel
theorem dX1_leftBy_25 : decode cX1_leftBy 25 = .ok (.iadd, 1) := by decide +kernel
theorem dX1_leftBy_26 : decode cX1_leftBy 26 = .ok (.invokevirtual 88, 3) := by decide +kernel
theorem dX1_leftBy_29 : decode cX1_leftBy 29 = .ok (.iadd, 1) := by decide +kernel
theorem dX1_leftBy_30 : decode cX1_leftBy 30 = .ok (.ireturn, 1) := by decide +kernel
theorem dX1_left_0 : decode cX1_left 0 = .ok (.aload_n 0, 1) := by decide +kernel
theorem dX1_left_1 : decode cX1_left 1 = .ok (.aload_n 0, 1) := by decide +kernel
theorem dX1_left_2 : decode cX1_left 2 = .ok (.getfield 42, 3) := by decide +kernel
theorem dX1_left_5 : decode cX1_left 5 = .ok (.iload_n 1, 1) := by decide +kernel
theorem dX1_left_6 : decode cX1_left 6 = .ok (.iload_n 2, 1) := by decide +kernel
theorem dX1_left_7 : decode cX1_left 7 = .ok (.invokevirtual 89, 3) := by decide +kernel
theorem dX1_left_10 : decode cX1_left 10 = .ok (.ireturn, 1) := by decide +kernel
theorem dX1_costBy_0 : decode cX1_costBy 0 = .ok (.iload_n 3, 1) := by decide +kernel
theorem dX1_costBy_1 : decode cX1_costBy 1 = .ok (.aload_n 0, 1) := by decide +kernel
theorem dX1_costBy_2 : decode cX1_costBy 2 = .ok (.getfield 14, 3) := by decide +kernel
theorem dX1_costBy_5 : decode cX1_costBy 5 = .ok (.invokevirtual 85, 3) := by decide +kernel
theorem dX1_costBy_8 : decode cX1_costBy 8 = .ok (.iconst 1, 1) := by decide +kernel
theorem dX1_costBy_9 : decode cX1_costBy 9 = .ok (.isub, 1) := by decide +kernel
theorem dX1_costBy_10 : decode cX1_costBy 10 = .ok (.if_icmp .ne 5, 3) := by decide +kernel
theorem dX1_costBy_13 : decode cX1_costBy 13 = .ok (.iconst 0, 1) := by decide +kernel
theorem dX1_costBy_14 : decode cX1_costBy 14 = .ok (.ireturn, 1) := by decide +kernel
theorem dX1_costBy_15 : decode cX1_costBy 15 = .ok (.iload_n 1, 1) := by decide +kernel
theorem dX1_costBy_16 : decode cX1_costBy 16 = .ok (.iload_n 1, 1) := by decide +kernel
theorem dX1_costBy_17 : decode cX1_costBy 17 = .ok (.imul, 1) := by decide +kernel
theorem dX1_costBy_18 : decode cX1_costBy 18 = .ok (.istore 4, 2) := by decide +kernel
theorem dX1_costBy_20 : decode cX1_costBy 20 = .ok (.aload_n 0, 1) := by decide +kernel
theorem dX1_costBy_21 : decode cX1_costBy 21 = .ok (.getfield 23, 3) := by decide +kernel
theorem dX1_costBy_24 : decode cX1_costBy 24 = .ok (.iload_n 3, 1) := by decide +kernel
theorem dX1_costBy_25 : decode cX1_costBy 25 = .ok (.invokevirtual 88, 3) := by decide +kernel
theorem dX1_costBy_28 : decode cX1_costBy 28 = .ok (.iconst 1, 1) := by decide +kernel
theorem dX1_costBy_29 : decode cX1_costBy 29 = .ok (.if_icmp .ne 37, 3) := by decide +kernel
theorem dX1_costBy_32 : decode cX1_costBy 32 = .ok (.iload 4, 2) := by decide +kernel
theorem dX1_costBy_34 : decode cX1_costBy 34 = .ok (.aload_n 0, 1) := by decide +kernel
theorem dX1_costBy_35 : decode cX1_costBy 35 = .ok (.getfield 45, 3) := by decide +kernel
theorem dX1_costBy_38 : decode cX1_costBy 38 = .ok (.iload_n 2, 1) := by decide +kernel
theorem dX1_costBy_39 : decode cX1_costBy 39 = .ok (.ifCond .lt 22, 3) := by decide +kernel
theorem dX1_costBy_42 : decode cX1_costBy 42 = .ok (.aload_n 0, 1) := by decide +kernel
theorem dX1_costBy_43 : decode cX1_costBy 43 = .ok (.getfield 23, 3) := by decide +kernel
theorem dX1_costBy_46 : decode cX1_costBy 46 = .ok (.iload_n 2, 1) := by decide +kernel
theorem dX1_costBy_47 : decode cX1_costBy 47 = .ok (.invokevirtual 88, 3) := by decide +kernel
theorem dX1_costBy_50 : decode cX1_costBy 50 = .ok (.iconst 1, 1) := by decide +kernel
theorem dX1_costBy_51 : decode cX1_costBy 51 = .ok (.if_icmp .ne 10, 3) := by decide +kernel
theorem dX1_costBy_54 : decode cX1_costBy 54 = .ok (.aload_n 0, 1) := by decide +kernel
theorem dX1_costBy_55 : decode cX1_costBy 55 = .ok (.getfield 48, 3) := by decide +kernel
theorem dX1_costBy_58 : decode cX1_costBy 58 = .ok (.goto 4, 3) := by decide +kernel
theorem dX1_costBy_61 : decode cX1_costBy 61 = .ok (.iconst 0, 1) := by decide +kernel
theorem dX1_costBy_62 : decode cX1_costBy 62 = .ok (.iadd, 1) := by decide +kernel
theorem dX1_costBy_63 : decode cX1_costBy 63 = .ok (.iadd, 1) := by decide +kernel
theorem dX1_costBy_64 : decode cX1_costBy 64 = .ok (.istore 4, 2) := by decide +kernel
theorem dX1_costBy_66 : decode cX1_costBy 66 = .ok (.iload 4, 2) := by decide +kernel
theorem dX1_costBy_68 : decode cX1_costBy 68 = .ok (.ireturn, 1) := by decide +kernel
theorem dX1_cost_0 : decode cX1_cost 0 = .ok (.aload_n 0, 1) := by decide +kernel
theorem dX1_cost_1 : decode cX1_cost 1 = .ok (.aload_n 0, 1) := by decide +kernel
theorem dX1_cost_2 : decode cX1_cost 2 = .ok (.iload_n 1, 1) := by decide +kernel
theorem dX1_cost_3 : decode cX1_cost 3 = .ok (.iload_n 2, 1) := by decide +kernel
theorem dX1_cost_4 : decode cX1_cost 4 = .ok (.invokevirtual 93, 3) := by decide +kernel
theorem dX1_cost_7 : decode cX1_cost 7 = .ok (.iload_n 1, 1) := by decide +kernel
theorem dX1_cost_8 : decode cX1_cost 8 = .ok (.iload_n 2, 1) := by decide +kernel
theorem dX1_cost_9 : decode cX1_cost 9 = .ok (.invokevirtual 96, 3) := by decide +kernel
theorem dX1_cost_12 : decode cX1_cost 12 = .ok (.ireturn, 1) := by decide +kernel
theorem dX1_blanks_0 : decode cX1_blanks 0 = .ok (.aload_n 0, 1) := by decide +kernel
theorem dX1_blanks_1 : decode cX1_blanks 1 = .ok (.getfield 26, 3) := by decide +kernel
theorem dX1_blanks_4 : decode cX1_blanks 4 = .ok (.iload_n 2, 1) := by decide +kernel
theorem dX1_blanks_5 : decode cX1_blanks 5 = .ok (.invokevirtual 88, 3) := by decide +kernel
theorem dX1_blanks_8 : decode cX1_blanks 8 = .ok (.aload_n 0, 1) := by decide +kernel
theorem dX1_blanks_9 : decode cX1_blanks 9 = .ok (.getfield 26, 3) := by decide +kernel
theorem dX1_blanks_12 : decode cX1_blanks 12 = .ok (.iload_n 1, 1) := by decide +kernel
theorem dX1_blanks_13 : decode cX1_blanks 13 = .ok (.iconst 1, 1) := by decide +kernel
theorem dX1_blanks_14 : decode cX1_blanks 14 = .ok (.iadd, 1) := by decide +kernel
theorem dX1_blanks_15 : decode cX1_blanks 15 = .ok (.invokevirtual 88, 3) := by decide +kernel
theorem dX1_blanks_18 : decode cX1_blanks 18 = .ok (.isub, 1) := by decide +kernel
theorem dX1_blanks_19 : decode cX1_blanks 19 = .ok (.ireturn, 1) := by decide +kernel
theorem dX1_spread_0 : decode cX1_spread 0 = .ok (.iload_n 2, 1) := by decide +kernel
theorem dX1_spread_1 : decode cX1_spread 1 = .ok (.aload_n 0, 1) := by decide +kernel
theorem dX1_spread_2 : decode cX1_spread 2 = .ok (.invokevirtual 99, 3) := by decide +kernel
theorem dX1_spread_5 : decode cX1_spread 5 = .ok (.iconst 1, 1) := by decide +kernel
theorem dX1_spread_6 : decode cX1_spread 6 = .ok (.isub, 1) := by decide +kernel
theorem dX1_spread_7 : decode cX1_spread 7 = .ok (.if_icmp .eq 12, 3) := by decide +kernel
theorem dX1_spread_10 : decode cX1_spread 10 = .ok (.aload_n 0, 1) := by decide +kernel
theorem dX1_spread_11 : decode cX1_spread 11 = .ok (.iload_n 1, 1) := by decide +kernel
theorem dX1_spread_12 : decode cX1_spread 12 = .ok (.iload_n 2, 1) := by decide +kernel
theorem dX1_spread_13 : decode cX1_spread 13 = .ok (.invokevirtual 102, 3) := by decide +kernel
theorem dX1_spread_16 : decode cX1_spread 16 = .ok (.ifCond .ne 7, 3) := by decide +kernel
theorem dX1_spread_19 : decode cX1_spread 19 = .ok (.iconst 0, 1) := by decide +kernel
theorem dX1_spread_20 : decode cX1_spread 20 = .ok (.goto 13, 3) := by decide +kernel
theorem dX1_spread_23 : decode cX1_spread 23 = .ok (.aload_n 0, 1) := by decide +kernel
theorem dX1_spread_24 : decode cX1_spread 24 = .ok (.aload_n 0, 1) := by decide +kernel
theorem dX1_spread_25 : decode cX1_spread 25 = .ok (.getfield 42, 3) := by decide +kernel
theorem dX1_spread_28 : decode cX1_spread 28 = .ok (.iload_n 1, 1) := by decide +kernel
theorem dX1_spread_29 : decode cX1_spread 29 = .ok (.iload_n 2, 1) := by decide +kernel
theorem dX1_spread_30 : decode cX1_spread 30 = .ok (.invokevirtual 89, 3) := by decide +kernel
theorem dX1_spread_33 : decode cX1_spread 33 = .ok (.ireturn, 1) := by decide +kernel
theorem dX2_init_0 : decode cX2_init 0 = .ok (.aload_n 0, 1) := by decide +kernel
theorem dX2_init_1 : decode cX2_init 1 = .ok (.invokespecial 1, 3) := by decide +kernel
theorem dX2_init_4 : decode cX2_init 4 = .ok (.aload_n 0, 1) := by decide +kernel
theorem dX2_init_5 : decode cX2_init 5 = .ok (.iconst 0, 1) := by decide +kernel
theorem dX2_init_6 : decode cX2_init 6 = .ok (.iload_n 1, 1) := by decide +kernel
theorem dX2_init_7 : decode cX2_init 7 = .ok (.invokestatic 7, 3) := by decide +kernel
theorem dX2_init_10 : decode cX2_init 10 = .ok (.newarray .int, 2) := by decide +kernel
theorem dX2_init_12 : decode cX2_init 12 = .ok (.putfield 13, 3) := by decide +kernel
theorem dX2_init_15 : decode cX2_init 15 = .ok (.return_, 1) := by decide +kernel
theorem dX2_size_0 : decode cX2_size 0 = .ok (.aload_n 0, 1) := by decide +kernel
theorem dX2_size_1 : decode cX2_size 1 = .ok (.getfield 19, 3) := by decide +kernel
theorem dX2_size_4 : decode cX2_size 4 = .ok (.ireturn, 1) := by decide +kernel
theorem dX2_get_0 : decode cX2_get 0 = .ok (.iload_n 1, 1) := by decide +kernel
theorem dX2_get_1 : decode cX2_get 1 = .ok (.ifCond .lt 29, 3) := by decide +kernel
theorem dX2_get_4 : decode cX2_get 4 = .ok (.iload_n 1, 1) := by decide +kernel
theorem dX2_get_5 : decode cX2_get 5 = .ok (.aload_n 0, 1) := by decide +kernel
theorem dX2_get_6 : decode cX2_get 6 = .ok (.getfield 19, 3) := by decide +kernel
theorem dX2_get_9 : decode cX2_get 9 = .ok (.if_icmp .ge 21, 3) := by decide +kernel
theorem dX2_get_12 : decode cX2_get 12 = .ok (.iload_n 1, 1) := by decide +kernel
theorem dX2_get_13 : decode cX2_get 13 = .ok (.aload_n 0, 1) := by decide +kernel
theorem dX2_get_14 : decode cX2_get 14 = .ok (.getfield 13, 3) := by decide +kernel
theorem dX2_get_17 : decode cX2_get 17 = .ok (.arraylength, 1) := by decide +kernel
theorem dX2_get_18 : decode cX2_get 18 = .ok (.if_icmp .ge 12, 3) := by decide +kernel
theorem dX2_get_21 : decode cX2_get 21 = .ok (.aload_n 0, 1) := by decide +kernel
theorem dX2_get_22 : decode cX2_get 22 = .ok (.getfield 13, 3) := by decide +kernel
theorem dX2_get_25 : decode cX2_get 25 = .ok (.iload_n 1, 1) := by decide +kernel
theorem dX2_get_26 : decode cX2_get 26 = .ok (.iaload, 1) := by decide +kernel
theorem dX2_get_27 : decode cX2_get 27 = .ok (.goto 4, 3) := by decide +kernel
theorem dX2_get_30 : decode cX2_get 30 = .ok (.iconst 0, 1) := by decide +kernel
theorem dX2_get_31 : decode cX2_get 31 = .ok (.ireturn, 1) := by decide +kernel
theorem dX2_set_0 : decode cX2_set 0 = .ok (.iload_n 1, 1) := by decide +kernel
theorem dX2_set_1 : decode cX2_set 1 = .ok (.ifCond .lt 27, 3) := by decide +kernel
theorem dX2_set_4 : decode cX2_set 4 = .ok (.iload_n 1, 1) := by decide +kernel
theorem dX2_set_5 : decode cX2_set 5 = .ok (.aload_n 0, 1) := by decide +kernel
theorem dX2_set_6 : decode cX2_set 6 = .ok (.getfield 19, 3) := by decide +kernel
theorem dX2_set_9 : decode cX2_set 9 = .ok (.if_icmp .ge 19, 3) := by decide +kernel
theorem dX2_set_12 : decode cX2_set 12 = .ok (.iload_n 1, 1) := by decide +kernel
theorem dX2_set_13 : decode cX2_set 13 = .ok (.aload_n 0, 1) := by decide +kernel
theorem dX2_set_14 : decode cX2_set 14 = .ok (.getfield 13, 3) := by decide +kernel
theorem dX2_set_17 : decode cX2_set 17 = .ok (.arraylength, 1) := by decide +kernel
theorem dX2_set_18 : decode cX2_set 18 = .ok (.if_icmp .ge 10, 3) := by decide +kernel
theorem dX2_set_21 : decode cX2_set 21 = .ok (.aload_n 0, 1) := by decide +kernel
theorem dX2_set_22 : decode cX2_set 22 = .ok (.getfield 13, 3) := by decide +kernel
theorem dX2_set_25 : decode cX2_set 25 = .ok (.iload_n 1, 1) := by decide +kernel
theorem dX2_set_26 : decode cX2_set 26 = .ok (.iload_n 2, 1) := by decide +kernel
theorem dX2_set_27 : decode cX2_set 27 = .ok (.iastore, 1) := by decide +kernel
theorem dX2_set_28 : decode cX2_set 28 = .ok (.return_, 1) := by decide +kernel
theorem dX2_add_0 : decode cX2_add 0 = .ok (.aload_n 0, 1) := by decide +kernel
theorem dX2_add_1 : decode cX2_add 1 = .ok (.getfield 19, 3) := by decide +kernel
theorem dX2_add_4 : decode cX2_add 4 = .ok (.ifCond .lt 15, 3) := by decide +kernel
theorem dX2_add_7 : decode cX2_add 7 = .ok (.aload_n 0, 1) := by decide +kernel
theorem dX2_add_8 : decode cX2_add 8 = .ok (.getfield 19, 3) := by decide +kernel
theorem dX2_add_11 : decode cX2_add 11 = .ok (.aload_n 0, 1) := by decide +kernel
theorem dX2_add_12 : decode cX2_add 12 = .ok (.getfield 13, 3) := by decide +kernel
theorem dX2_add_15 : decode cX2_add 15 = .ok (.arraylength, 1) := by decide +kernel
theorem dX2_add_16 : decode cX2_add 16 = .ok (.if_icmp .lt 5, 3) := by decide +kernel
theorem dX2_add_19 : decode cX2_add 19 = .ok (.iconst 0, 1) := by decide +kernel
theorem dX2_add_20 : decode cX2_add 20 = .ok (.ireturn, 1) := by decide +kernel
theorem dX2_add_21 : decode cX2_add 21 = .ok (.aload_n 0, 1) := by decide +kernel
theorem dX2_add_22 : decode cX2_add 22 = .ok (.getfield 13, 3) := by decide +kernel
theorem dX2_add_25 : decode cX2_add 25 = .ok (.aload_n 0, 1) := by decide +kernel
theorem dX2_add_26 : decode cX2_add 26 = .ok (.getfield 19, 3) := by decide +kernel
theorem dX2_add_29 : decode cX2_add 29 = .ok (.iload_n 1, 1) := by decide +kernel
theorem dX2_add_30 : decode cX2_add 30 = .ok (.iastore, 1) := by decide +kernel
theorem dX2_add_31 : decode cX2_add 31 = .ok (.aload_n 0, 1) := by decide +kernel
theorem dX2_add_32 : decode cX2_add 32 = .ok (.dup, 1) := by decide +kernel
theorem dX2_add_33 : decode cX2_add 33 = .ok (.getfield 19, 3) := by decide +kernel
theorem dX2_add_36 : decode cX2_add 36 = .ok (.iconst 1, 1) := by decide +kernel
theorem dX2_add_37 : decode cX2_add 37 = .ok (.iadd, 1) := by decide +kernel
theorem dX2_add_38 : decode cX2_add 38 = .ok (.putfield 19, 3) := by decide +kernel
theorem dX2_add_41 : decode cX2_add 41 = .ok (.iconst 1, 1) := by decide +kernel
theorem dX2_add_42 : decode cX2_add 42 = .ok (.ireturn, 1) := by decide +kernel
theorem dX2_drop_0 : decode cX2_drop 0 = .ok (.aload_n 0, 1) := by decide +kernel
theorem dX2_drop_1 : decode cX2_drop 1 = .ok (.getfield 19, 3) := by decide +kernel
theorem dX2_drop_4 : decode cX2_drop 4 = .ok (.ifCond .le 13, 3) := by decide +kernel
theorem dX2_drop_7 : decode cX2_drop 7 = .ok (.aload_n 0, 1) := by decide +kernel
theorem dX2_drop_8 : decode cX2_drop 8 = .ok (.dup, 1) := by decide +kernel
theorem dX2_drop_9 : decode cX2_drop 9 = .ok (.getfield 19, 3) := by decide +kernel
theorem dX2_drop_12 : decode cX2_drop 12 = .ok (.iconst 1, 1) := by decide +kernel
theorem dX2_drop_13 : decode cX2_drop 13 = .ok (.isub, 1) := by decide +kernel
theorem dX2_drop_14 : decode cX2_drop 14 = .ok (.putfield 19, 3) := by decide +kernel
theorem dX2_drop_17 : decode cX2_drop 17 = .ok (.return_, 1) := by decide +kernel
theorem dX2_dropFirst_0 : decode cX2_dropFirst 0 = .ok (.iconst 1, 1) := by decide +kernel
theorem dX2_dropFirst_1 : decode cX2_dropFirst 1 = .ok (.istore_n 1, 1) := by decide +kernel
theorem dX2_dropFirst_2 : decode cX2_dropFirst 2 = .ok (.iload_n 1, 1) := by decide +kernel
theorem dX2_dropFirst_3 : decode cX2_dropFirst 3 = .ok (.aload_n 0, 1) := by decide +kernel
theorem dX2_dropFirst_4 : decode cX2_dropFirst 4 = .ok (.getfield 19, 3) := by decide +kernel
theorem dX2_dropFirst_7 : decode cX2_dropFirst 7 = .ok (.if_icmp .ge 21, 3) := by decide +kernel
theorem dX2_dropFirst_10 : decode cX2_dropFirst 10 = .ok (.aload_n 0, 1) := by decide +kernel
theorem dX2_dropFirst_11 : decode cX2_dropFirst 11 = .ok (.iload_n 1, 1) := by decide +kernel
theorem dX2_dropFirst_12 : decode cX2_dropFirst 12 = .ok (.iconst 1, 1) := by decide +kernel
theorem dX2_dropFirst_13 : decode cX2_dropFirst 13 = .ok (.isub, 1) := by decide +kernel
theorem dX2_dropFirst_14 : decode cX2_dropFirst 14 = .ok (.aload_n 0, 1) := by decide +kernel
theorem dX2_dropFirst_15 : decode cX2_dropFirst 15 = .ok (.iload_n 1, 1) := by decide +kernel
theorem dX2_dropFirst_16 : decode cX2_dropFirst 16 = .ok (.invokevirtual 23, 3) := by decide +kernel
theorem dX2_dropFirst_19 : decode cX2_dropFirst 19 = .ok (.invokevirtual 27, 3) := by decide +kernel
theorem dX2_dropFirst_22 : decode cX2_dropFirst 22 = .ok (.iinc 1 1, 3) := by decide +kernel
theorem dX2_dropFirst_25 : decode cX2_dropFirst 25 = .ok (.goto (-23), 3) := by decide +kernel
theorem dX2_dropFirst_28 : decode cX2_dropFirst 28 = .ok (.aload_n 0, 1) := by decide +kernel
theorem dX2_dropFirst_29 : decode cX2_dropFirst 29 = .ok (.invokevirtual 31, 3) := by decide +kernel
theorem dX2_dropFirst_32 : decode cX2_dropFirst 32 = .ok (.return_, 1) := by decide +kernel
theorem dX2_empty_0 : decode cX2_empty 0 = .ok (.aload_n 0, 1) := by decide +kernel
theorem dX2_empty_1 : decode cX2_empty 1 = .ok (.iconst 0, 1) := by decide +kernel
theorem dX2_empty_2 : decode cX2_empty 2 = .ok (.putfield 19, 3) := by decide +kernel
theorem dX2_empty_5 : decode cX2_empty 5 = .ok (.return_, 1) := by decide +kernel
theorem dX3_init_0 : decode cX3_init 0 = .ok (.aload_n 0, 1) := by decide +kernel
theorem dX3_init_1 : decode cX3_init 1 = .ok (.invokespecial 3, 3) := by decide +kernel
theorem dX3_init_4 : decode cX3_init 4 = .ok (.aload_n 0, 1) := by decide +kernel
theorem dX3_init_5 : decode cX3_init 5 = .ok (.new 9, 3) := by decide +kernel
theorem dX3_init_8 : decode cX3_init 8 = .ok (.dup, 1) := by decide +kernel
theorem dX3_init_9 : decode cX3_init 9 = .ok (.sipush 200, 3) := by decide +kernel
theorem dX3_init_12 : decode cX3_init 12 = .ok (.invokespecial 11, 3) := by decide +kernel
theorem dX3_init_15 : decode cX3_init 15 = .ok (.putfield 14, 3) := by decide +kernel
theorem dX3_init_18 : decode cX3_init 18 = .ok (.aload_n 0, 1) := by decide +kernel
theorem dX3_init_19 : decode cX3_init 19 = .ok (.new 9, 3) := by decide +kernel
theorem dX3_init_22 : decode cX3_init 22 = .ok (.dup, 1) := by decide +kernel
theorem dX3_init_23 : decode cX3_init 23 = .ok (.bipush 30, 2) := by decide +kernel
theorem dX3_init_25 : decode cX3_init 25 = .ok (.invokespecial 11, 3) := by decide +kernel
theorem dX3_init_28 : decode cX3_init 28 = .ok (.putfield 20, 3) := by decide +kernel
theorem dX3_init_31 : decode cX3_init 31 = .ok (.aload_n 0, 1) := by decide +kernel
theorem dX3_init_32 : decode cX3_init 32 = .ok (.new 9, 3) := by decide +kernel
theorem dX3_init_35 : decode cX3_init 35 = .ok (.dup, 1) := by decide +kernel
theorem dX3_init_36 : decode cX3_init 36 = .ok (.sipush 200, 3) := by decide +kernel
theorem dX3_init_39 : decode cX3_init 39 = .ok (.invokespecial 11, 3) := by decide +kernel
theorem dX3_init_42 : decode cX3_init 42 = .ok (.putfield 23, 3) := by decide +kernel
theorem dX3_init_45 : decode cX3_init 45 = .ok (.aload_n 0, 1) := by decide +kernel
theorem dX3_init_46 : decode cX3_init 46 = .ok (.new 9, 3) := by decide +kernel
theorem dX3_init_49 : decode cX3_init 49 = .ok (.dup, 1) := by decide +kernel
theorem dX3_init_50 : decode cX3_init 50 = .ok (.bipush 30, 2) := by decide +kernel
theorem dX3_init_52 : decode cX3_init 52 = .ok (.invokespecial 11, 3) := by decide +kernel
theorem dX3_init_55 : decode cX3_init 55 = .ok (.putfield 26, 3) := by decide +kernel
theorem dX3_init_58 : decode cX3_init 58 = .ok (.aload_n 0, 1) := by decide +kernel
theorem dX3_init_59 : decode cX3_init 59 = .ok (.new 9, 3) := by decide +kernel
theorem dX3_init_62 : decode cX3_init 62 = .ok (.dup, 1) := by decide +kernel
theorem dX3_init_63 : decode cX3_init 63 = .ok (.bipush 30, 2) := by decide +kernel
theorem dX3_init_65 : decode cX3_init 65 = .ok (.invokespecial 11, 3) := by decide +kernel
theorem dX3_init_68 : decode cX3_init 68 = .ok (.putfield 29, 3) := by decide +kernel
theorem dX3_init_71 : decode cX3_init 71 = .ok (.aload_n 0, 1) := by decide +kernel
theorem dX3_init_72 : decode cX3_init 72 = .ok (.new 9, 3) := by decide +kernel
theorem dX3_init_75 : decode cX3_init 75 = .ok (.dup, 1) := by decide +kernel
theorem dX3_init_76 : decode cX3_init 76 = .ok (.bipush 30, 2) := by decide +kernel
theorem dX3_init_78 : decode cX3_init 78 = .ok (.invokespecial 11, 3) := by decide +kernel
theorem dX3_init_81 : decode cX3_init 81 = .ok (.putfield 32, 3) := by decide +kernel
theorem dX3_init_84 : decode cX3_init 84 = .ok (.aload_n 0, 1) := by decide +kernel
theorem dX3_init_85 : decode cX3_init 85 = .ok (.new 9, 3) := by decide +kernel
theorem dX3_init_88 : decode cX3_init 88 = .ok (.dup, 1) := by decide +kernel
theorem dX3_init_89 : decode cX3_init 89 = .ok (.bipush 30, 2) := by decide +kernel
theorem dX3_init_91 : decode cX3_init 91 = .ok (.invokespecial 11, 3) := by decide +kernel
theorem dX3_init_94 : decode cX3_init 94 = .ok (.putfield 35, 3) := by decide +kernel
theorem dX3_init_97 : decode cX3_init 97 = .ok (.aload_n 0, 1) := by decide +kernel
theorem dX3_init_98 : decode cX3_init 98 = .ok (.new 9, 3) := by decide +kernel
theorem dX3_init_101 : decode cX3_init 101 = .ok (.dup, 1) := by decide +kernel
theorem dX3_init_102 : decode cX3_init 102 = .ok (.bipush 100, 2) := by decide +kernel
theorem dX3_init_104 : decode cX3_init 104 = .ok (.invokespecial 11, 3) := by decide +kernel
theorem dX3_init_107 : decode cX3_init 107 = .ok (.putfield 38, 3) := by decide +kernel
theorem dX3_init_110 : decode cX3_init 110 = .ok (.aload_n 0, 1) := by decide +kernel
theorem dX3_init_111 : decode cX3_init 111 = .ok (.new 9, 3) := by decide +kernel
theorem dX3_init_114 : decode cX3_init 114 = .ok (.dup, 1) := by decide +kernel
theorem dX3_init_115 : decode cX3_init 115 = .ok (.bipush 100, 2) := by decide +kernel
theorem dX3_init_117 : decode cX3_init 117 = .ok (.invokespecial 11, 3) := by decide +kernel
theorem dX3_init_120 : decode cX3_init 120 = .ok (.putfield 41, 3) := by decide +kernel
theorem dX3_init_123 : decode cX3_init 123 = .ok (.aload_n 0, 1) := by decide +kernel
theorem dX3_init_124 : decode cX3_init 124 = .ok (.new 9, 3) := by decide +kernel
theorem dX3_init_127 : decode cX3_init 127 = .ok (.dup, 1) := by decide +kernel
theorem dX3_init_128 : decode cX3_init 128 = .ok (.bipush 100, 2) := by decide +kernel
theorem dX3_init_130 : decode cX3_init 130 = .ok (.invokespecial 11, 3) := by decide +kernel
theorem dX3_init_133 : decode cX3_init 133 = .ok (.putfield 44, 3) := by decide +kernel
theorem dX3_init_136 : decode cX3_init 136 = .ok (.return_, 1) := by decide +kernel
theorem dX3_read_0 : decode cX3_read 0 = .ok (.aload_n 0, 1) := by decide +kernel
theorem dX3_read_1 : decode cX3_read 1 = .ok (.invokevirtual 47, 3) := by decide +kernel
theorem dX3_read_4 : decode cX3_read 4 = .ok (.iconst 0, 1) := by decide +kernel
theorem dX3_read_5 : decode cX3_read 5 = .ok (.istore_n 2, 1) := by decide +kernel
theorem dX3_read_6 : decode cX3_read 6 = .ok (.iload_n 2, 1) := by decide +kernel
theorem dX3_read_7 : decode cX3_read 7 = .ok (.aload_n 1, 1) := by decide +kernel
theorem dX3_read_8 : decode cX3_read 8 = .ok (.invokevirtual 50, 3) := by decide +kernel
theorem dX3_read_11 : decode cX3_read 11 = .ok (.if_icmp .ge 82, 3) := by decide +kernel
theorem dX3_read_14 : decode cX3_read 14 = .ok (.aload_n 1, 1) := by decide +kernel
theorem dX3_read_15 : decode cX3_read 15 = .ok (.iload_n 2, 1) := by decide +kernel
theorem dX3_read_16 : decode cX3_read 16 = .ok (.invokevirtual 54, 3) := by decide +kernel
theorem dX3_read_19 : decode cX3_read 19 = .ok (.istore_n 3, 1) := by decide +kernel
theorem dX3_read_20 : decode cX3_read 20 = .ok (.iload_n 3, 1) := by decide +kernel
theorem dX3_read_21 : decode cX3_read 21 = .ok (.bipush 32, 2) := by decide +kernel
theorem dX3_read_23 : decode cX3_read 23 = .ok (.if_icmp .ne 6, 3) := by decide +kernel
theorem dX3_read_26 : decode cX3_read 26 = .ok (.goto 61, 3) := by decide +kernel
theorem dX3_read_29 : decode cX3_read 29 = .ok (.aload_n 0, 1) := by decide +kernel
theorem dX3_read_30 : decode cX3_read 30 = .ok (.getfield 14, 3) := by decide +kernel
theorem dX3_read_33 : decode cX3_read 33 = .ok (.iload_n 3, 1) := by decide +kernel
theorem dX3_read_34 : decode cX3_read 34 = .ok (.invokevirtual 58, 3) := by decide +kernel
theorem dX3_read_37 : decode cX3_read 37 = .ok (.pop, 1) := by decide +kernel
theorem dX3_read_38 : decode cX3_read 38 = .ok (.iload_n 3, 1) := by decide +kernel
theorem dX3_read_39 : decode cX3_read 39 = .ok (.bipush 47, 2) := by decide +kernel
theorem dX3_read_41 : decode cX3_read 41 = .ok (.if_icmp .ne 11, 3) := by decide +kernel
theorem dX3_read_44 : decode cX3_read 44 = .ok (.aload_n 0, 1) := by decide +kernel
theorem dX3_read_45 : decode cX3_read 45 = .ok (.iconst 1, 1) := by decide +kernel
theorem dX3_read_46 : decode cX3_read 46 = .ok (.invokevirtual 62, 3) := by decide +kernel
theorem dX3_read_49 : decode cX3_read 49 = .ok (.goto 38, 3) := by decide +kernel
theorem dX3_read_52 : decode cX3_read 52 = .ok (.aload_n 0, 1) := by decide +kernel
theorem dX3_read_53 : decode cX3_read 53 = .ok (.getfield 23, 3) := by decide +kernel
theorem dX3_read_56 : decode cX3_read 56 = .ok (.iload_n 3, 1) := by decide +kernel
theorem dX3_read_57 : decode cX3_read 57 = .ok (.invokevirtual 58, 3) := by decide +kernel
theorem dX3_read_60 : decode cX3_read 60 = .ok (.pop, 1) := by decide +kernel
theorem dX3_read_61 : decode cX3_read 61 = .ok (.iload_n 2, 1) := by decide +kernel
theorem dX3_read_62 : decode cX3_read 62 = .ok (.iconst 1, 1) := by decide +kernel
theorem dX3_read_63 : decode cX3_read 63 = .ok (.iadd, 1) := by decide +kernel
theorem dX3_read_64 : decode cX3_read 64 = .ok (.aload_n 1, 1) := by decide +kernel
theorem dX3_read_65 : decode cX3_read 65 = .ok (.invokevirtual 50, 3) := by decide +kernel
theorem dX3_read_68 : decode cX3_read 68 = .ok (.if_icmp .ge 15, 3) := by decide +kernel
theorem dX3_read_71 : decode cX3_read 71 = .ok (.aload_n 1, 1) := by decide +kernel
theorem dX3_read_72 : decode cX3_read 72 = .ok (.iload_n 2, 1) := by decide +kernel
theorem dX3_read_73 : decode cX3_read 73 = .ok (.iconst 1, 1) := by decide +kernel
theorem dX3_read_74 : decode cX3_read 74 = .ok (.iadd, 1) := by decide +kernel
theorem dX3_read_75 : decode cX3_read 75 = .ok (.invokevirtual 54, 3) := by decide +kernel
theorem dX3_read_78 : decode cX3_read 78 = .ok (.bipush 32, 2) := by decide +kernel
theorem dX3_read_80 : decode cX3_read 80 = .ok (.if_icmp .ne 7, 3) := by decide +kernel
theorem dX3_read_83 : decode cX3_read 83 = .ok (.aload_n 0, 1) := by decide +kernel
theorem dX3_read_84 : decode cX3_read 84 = .ok (.invokevirtual 65, 3) := by decide +kernel
theorem dX3_read_87 : decode cX3_read 87 = .ok (.iinc 2 1, 3) := by decide +kernel
theorem dX3_read_90 : decode cX3_read 90 = .ok (.goto (-84), 3) := by decide +kernel
theorem dX3_read_93 : decode cX3_read 93 = .ok (.return_, 1) := by decide +kernel
theorem dX3_forgetAll_0 : decode cX3_forgetAll 0 = .ok (.aload_n 0, 1) := by decide +kernel
theorem dX3_forgetAll_1 : decode cX3_forgetAll 1 = .ok (.getfield 14, 3) := by decide +kernel
theorem dX3_forgetAll_4 : decode cX3_forgetAll 4 = .ok (.invokevirtual 68, 3) := by decide +kernel
theorem dX3_forgetAll_7 : decode cX3_forgetAll 7 = .ok (.aload_n 0, 1) := by decide +kernel
theorem dX3_forgetAll_8 : decode cX3_forgetAll 8 = .ok (.getfield 20, 3) := by decide +kernel
theorem dX3_forgetAll_11 : decode cX3_forgetAll 11 = .ok (.invokevirtual 68, 3) := by decide +kernel
theorem dX3_forgetAll_14 : decode cX3_forgetAll 14 = .ok (.aload_n 0, 1) := by decide +kernel
theorem dX3_forgetAll_15 : decode cX3_forgetAll 15 = .ok (.getfield 23, 3) := by decide +kernel
theorem dX3_forgetAll_18 : decode cX3_forgetAll 18 = .ok (.invokevirtual 68, 3) := by decide +kernel
theorem dX3_forgetAll_21 : decode cX3_forgetAll 21 = .ok (.aload_n 0, 1) := by decide +kernel
theorem dX3_forgetAll_22 : decode cX3_forgetAll 22 = .ok (.getfield 26, 3) := by decide +kernel
theorem dX3_forgetAll_25 : decode cX3_forgetAll 25 = .ok (.invokevirtual 68, 3) := by decide +kernel
theorem dX3_forgetAll_28 : decode cX3_forgetAll 28 = .ok (.aload_n 0, 1) := by decide +kernel
theorem dX3_forgetAll_29 : decode cX3_forgetAll 29 = .ok (.getfield 29, 3) := by decide +kernel
theorem dX3_forgetAll_32 : decode cX3_forgetAll 32 = .ok (.invokevirtual 68, 3) := by decide +kernel
theorem dX3_forgetAll_35 : decode cX3_forgetAll 35 = .ok (.aload_n 0, 1) := by decide +kernel
theorem dX3_forgetAll_36 : decode cX3_forgetAll 36 = .ok (.getfield 32, 3) := by decide +kernel
theorem dX3_forgetAll_39 : decode cX3_forgetAll 39 = .ok (.invokevirtual 68, 3) := by decide +kernel
theorem dX3_forgetAll_42 : decode cX3_forgetAll 42 = .ok (.aload_n 0, 1) := by decide +kernel
theorem dX3_forgetAll_43 : decode cX3_forgetAll 43 = .ok (.getfield 35, 3) := by decide +kernel
theorem dX3_forgetAll_46 : decode cX3_forgetAll 46 = .ok (.invokevirtual 68, 3) := by decide +kernel
theorem dX3_forgetAll_49 : decode cX3_forgetAll 49 = .ok (.aload_n 0, 1) := by decide +kernel
theorem dX3_forgetAll_50 : decode cX3_forgetAll 50 = .ok (.getfield 38, 3) := by decide +kernel
theorem dX3_forgetAll_53 : decode cX3_forgetAll 53 = .ok (.invokevirtual 68, 3) := by decide +kernel
theorem dX3_forgetAll_56 : decode cX3_forgetAll 56 = .ok (.aload_n 0, 1) := by decide +kernel
theorem dX3_forgetAll_57 : decode cX3_forgetAll 57 = .ok (.getfield 41, 3) := by decide +kernel
theorem dX3_forgetAll_60 : decode cX3_forgetAll 60 = .ok (.invokevirtual 68, 3) := by decide +kernel
theorem dX3_forgetAll_63 : decode cX3_forgetAll 63 = .ok (.aload_n 0, 1) := by decide +kernel
theorem dX3_forgetAll_64 : decode cX3_forgetAll 64 = .ok (.getfield 44, 3) := by decide +kernel
theorem dX3_forgetAll_67 : decode cX3_forgetAll 67 = .ok (.invokevirtual 68, 3) := by decide +kernel
theorem dX3_forgetAll_70 : decode cX3_forgetAll 70 = .ok (.return_, 1) := by decide +kernel
theorem dX3_addPlace_0 : decode cX3_addPlace 0 = .ok (.aload_n 0, 1) := by decide +kernel
theorem dX3_addPlace_1 : decode cX3_addPlace 1 = .ok (.invokevirtual 71, 3) := by decide +kernel
theorem dX3_addPlace_4 : decode cX3_addPlace 4 = .ok (.istore_n 2, 1) := by decide +kernel
theorem dX3_addPlace_5 : decode cX3_addPlace 5 = .ok (.aload_n 0, 1) := by decide +kernel
theorem dX3_addPlace_6 : decode cX3_addPlace 6 = .ok (.getfield 38, 3) := by decide +kernel
theorem dX3_addPlace_9 : decode cX3_addPlace 9 = .ok (.iload_n 2, 1) := by decide +kernel
theorem dX3_addPlace_10 : decode cX3_addPlace 10 = .ok (.invokevirtual 58, 3) := by decide +kernel
theorem dX3_addPlace_13 : decode cX3_addPlace 13 = .ok (.pop, 1) := by decide +kernel
theorem dX3_addPlace_14 : decode cX3_addPlace 14 = .ok (.aload_n 0, 1) := by decide +kernel
theorem dX3_addPlace_15 : decode cX3_addPlace 15 = .ok (.getfield 41, 3) := by decide +kernel
theorem dX3_addPlace_18 : decode cX3_addPlace 18 = .ok (.aload_n 0, 1) := by decide +kernel
theorem dX3_addPlace_19 : decode cX3_addPlace 19 = .ok (.getfield 23, 3) := by decide +kernel
theorem dX3_addPlace_22 : decode cX3_addPlace 22 = .ok (.invokevirtual 50, 3) := by decide +kernel
theorem dX3_addPlace_25 : decode cX3_addPlace 25 = .ok (.aload_n 0, 1) := by decide +kernel
theorem dX3_addPlace_26 : decode cX3_addPlace 26 = .ok (.getfield 26, 3) := by decide +kernel
theorem dX3_addPlace_29 : decode cX3_addPlace 29 = .ok (.iload_n 2, 1) := by decide +kernel
theorem dX3_addPlace_30 : decode cX3_addPlace 30 = .ok (.invokestatic 74, 3) := by decide +kernel
theorem dX3_addPlace_33 : decode cX3_addPlace 33 = .ok (.isub, 1) := by decide +kernel
theorem dX3_addPlace_34 : decode cX3_addPlace 34 = .ok (.invokevirtual 58, 3) := by decide +kernel
theorem dX3_addPlace_37 : decode cX3_addPlace 37 = .ok (.pop, 1) := by decide +kernel
theorem dX3_addPlace_38 : decode cX3_addPlace 38 = .ok (.aload_n 0, 1) := by decide +kernel
theorem dX3_addPlace_39 : decode cX3_addPlace 39 = .ok (.getfield 44, 3) := by decide +kernel
theorem dX3_addPlace_42 : decode cX3_addPlace 42 = .ok (.iload_n 1, 1) := by decide +kernel
theorem dX3_addPlace_43 : decode cX3_addPlace 43 = .ok (.invokevirtual 58, 3) := by decide +kernel
theorem dX3_addPlace_46 : decode cX3_addPlace 46 = .ok (.pop, 1) := by decide +kernel
theorem dX3_addPlace_47 : decode cX3_addPlace 47 = .ok (.return_, 1) := by decide +kernel
theorem dX3_endWord_0 : decode cX3_endWord 0 = .ok (.aload_n 0, 1) := by decide +kernel
theorem dX3_endWord_1 : decode cX3_endWord 1 = .ok (.invokevirtual 71, 3) := by decide +kernel
theorem dX3_endWord_4 : decode cX3_endWord 4 = .ok (.istore_n 1, 1) := by decide +kernel
theorem dX3_endWord_5 : decode cX3_endWord 5 = .ok (.aload_n 0, 1) := by decide +kernel
theorem dX3_endWord_6 : decode cX3_endWord 6 = .ok (.iconst 0, 1) := by decide +kernel
theorem dX3_endWord_7 : decode cX3_endWord 7 = .ok (.invokevirtual 62, 3) := by decide +kernel
theorem dX3_endWord_10 : decode cX3_endWord 10 = .ok (.aload_n 0, 1) := by decide +kernel
theorem dX3_endWord_11 : decode cX3_endWord 11 = .ok (.getfield 29, 3) := by decide +kernel
theorem dX3_endWord_14 : decode cX3_endWord 14 = .ok (.aload_n 0, 1) := by decide +kernel
theorem dX3_endWord_15 : decode cX3_endWord 15 = .ok (.invokevirtual 78, 3) := by decide +kernel
theorem dX3_endWord_18 : decode cX3_endWord 18 = .ok (.iconst 1, 1) := by decide +kernel
theorem dX3_endWord_19 : decode cX3_endWord 19 = .ok (.isub, 1) := by decide +kernel
theorem dX3_endWord_20 : decode cX3_endWord 20 = .ok (.invokevirtual 58, 3) := by decide +kernel
theorem dX3_endWord_23 : decode cX3_endWord 23 = .ok (.pop, 1) := by decide +kernel
theorem dX3_endWord_24 : decode cX3_endWord 24 = .ok (.aload_n 0, 1) := by decide +kernel
theorem dX3_endWord_25 : decode cX3_endWord 25 = .ok (.getfield 26, 3) := by decide +kernel
theorem dX3_endWord_28 : decode cX3_endWord 28 = .ok (.aload_n 0, 1) := by decide +kernel
theorem dX3_endWord_29 : decode cX3_endWord 29 = .ok (.getfield 23, 3) := by decide +kernel
theorem dX3_endWord_32 : decode cX3_endWord 32 = .ok (.invokevirtual 50, 3) := by decide +kernel
theorem dX3_endWord_35 : decode cX3_endWord 35 = .ok (.invokevirtual 58, 3) := by decide +kernel
theorem dX3_endWord_38 : decode cX3_endWord 38 = .ok (.pop, 1) := by decide +kernel
theorem dX3_endWord_39 : decode cX3_endWord 39 = .ok (.aload_n 0, 1) := by decide +kernel
theorem dX3_endWord_40 : decode cX3_endWord 40 = .ok (.getfield 20, 3) := by decide +kernel
theorem dX3_endWord_43 : decode cX3_endWord 43 = .ok (.aload_n 0, 1) := by decide +kernel
theorem dX3_endWord_44 : decode cX3_endWord 44 = .ok (.getfield 14, 3) := by decide +kernel
theorem dX3_endWord_47 : decode cX3_endWord 47 = .ok (.invokevirtual 50, 3) := by decide +kernel
theorem dX3_endWord_50 : decode cX3_endWord 50 = .ok (.invokevirtual 58, 3) := by decide +kernel
theorem dX3_endWord_53 : decode cX3_endWord 53 = .ok (.pop, 1) := by decide +kernel
theorem dX3_endWord_54 : decode cX3_endWord 54 = .ok (.aload_n 0, 1) := by decide +kernel
theorem dX3_endWord_55 : decode cX3_endWord 55 = .ok (.iload_n 1, 1) := by decide +kernel
theorem dX3_endWord_56 : decode cX3_endWord 56 = .ok (.invokevirtual 81, 3) := by decide +kernel
theorem dX3_endWord_59 : decode cX3_endWord 59 = .ok (.istore_n 2, 1) := by decide +kernel
theorem dX3_endWord_60 : decode cX3_endWord 60 = .ok (.aload_n 0, 1) := by decide +kernel
theorem dX3_endWord_61 : decode cX3_endWord 61 = .ok (.getfield 32, 3) := by decide +kernel
theorem dX3_endWord_64 : decode cX3_endWord 64 = .ok (.iload_n 2, 1) := by decide +kernel
theorem dX3_endWord_65 : decode cX3_endWord 65 = .ok (.invokevirtual 58, 3) := by decide +kernel
theorem dX3_endWord_68 : decode cX3_endWord 68 = .ok (.pop, 1) := by decide +kernel
theorem dX3_endWord_69 : decode cX3_endWord 69 = .ok (.iload_n 2, 1) := by decide +kernel
theorem dX3_endWord_70 : decode cX3_endWord 70 = .ok (.iload_n 1, 1) := by decide +kernel
theorem dX3_endWord_71 : decode cX3_endWord 71 = .ok (.if_icmp .ne 12, 3) := by decide +kernel
theorem dX3_endWord_74 : decode cX3_endWord 74 = .ok (.aload_n 0, 1) := by decide +kernel
theorem dX3_endWord_75 : decode cX3_endWord 75 = .ok (.getfield 35, 3) := by decide +kernel
theorem dX3_endWord_78 : decode cX3_endWord 78 = .ok (.iload_n 1, 1) := by decide +kernel
theorem dX3_endWord_79 : decode cX3_endWord 79 = .ok (.invokevirtual 58, 3) := by decide +kernel
theorem dX3_endWord_82 : decode cX3_endWord 82 = .ok (.pop, 1) := by decide +kernel
theorem dX3_endWord_83 : decode cX3_endWord 83 = .ok (.return_, 1) := by decide +kernel
theorem dX3_firstLike_0 : decode cX3_firstLike 0 = .ok (.iconst 0, 1) := by decide +kernel
theorem dX3_firstLike_1 : decode cX3_firstLike 1 = .ok (.istore_n 2, 1) := by decide +kernel
theorem dX3_firstLike_2 : decode cX3_firstLike 2 = .ok (.iload_n 2, 1) := by decide +kernel
theorem dX3_firstLike_3 : decode cX3_firstLike 3 = .ok (.iload_n 1, 1) := by decide +kernel
theorem dX3_firstLike_4 : decode cX3_firstLike 4 = .ok (.if_icmp .ge 20, 3) := by decide +kernel
theorem dX3_firstLike_7 : decode cX3_firstLike 7 = .ok (.aload_n 0, 1) := by decide +kernel
theorem dX3_firstLike_8 : decode cX3_firstLike 8 = .ok (.iload_n 2, 1) := by decide +kernel
theorem dX3_firstLike_9 : decode cX3_firstLike 9 = .ok (.iload_n 1, 1) := by decide +kernel
theorem dX3_firstLike_10 : decode cX3_firstLike 10 = .ok (.invokevirtual 84, 3) := by decide +kernel
theorem dX3_firstLike_13 : decode cX3_firstLike 13 = .ok (.ifCond .eq 5, 3) := by decide +kernel
theorem dX3_firstLike_16 : decode cX3_firstLike 16 = .ok (.iload_n 2, 1) := by decide +kernel
theorem dX3_firstLike_17 : decode cX3_firstLike 17 = .ok (.ireturn, 1) := by decide +kernel
theorem dX3_firstLike_18 : decode cX3_firstLike 18 = .ok (.iinc 2 1, 3) := by decide +kernel
theorem dX3_firstLike_21 : decode cX3_firstLike 21 = .ok (.goto (-19), 3) := by decide +kernel
theorem dX3_firstLike_24 : decode cX3_firstLike 24 = .ok (.iload_n 1, 1) := by decide +kernel
theorem dX3_firstLike_25 : decode cX3_firstLike 25 = .ok (.ireturn, 1) := by decide +kernel
theorem dX3_areSpelledAlike_0 : decode cX3_areSpelledAlike 0 = .ok (.aload_n 0, 1) := by decide +kernel
theorem dX3_areSpelledAlike_1 : decode cX3_areSpelledAlike 1 = .ok (.getfield 26, 3) := by decide +kernel
theorem dX3_areSpelledAlike_4 : decode cX3_areSpelledAlike 4 = .ok (.iload_n 1, 1) := by decide +kernel
theorem dX3_areSpelledAlike_5 : decode cX3_areSpelledAlike 5 = .ok (.invokestatic 74, 3) := by decide +kernel
theorem dX3_areSpelledAlike_8 : decode cX3_areSpelledAlike 8 = .ok (.istore_n 3, 1) := by decide +kernel
theorem dX3_areSpelledAlike_9 : decode cX3_areSpelledAlike 9 = .ok (.aload_n 0, 1) := by decide +kernel
theorem dX3_areSpelledAlike_10 : decode cX3_areSpelledAlike 10 = .ok (.getfield 26, 3) := by decide +kernel
theorem dX3_areSpelledAlike_13 : decode cX3_areSpelledAlike 13 = .ok (.iload_n 2, 1) := by decide +kernel
theorem dX3_areSpelledAlike_14 : decode cX3_areSpelledAlike 14 = .ok (.invokestatic 74, 3) := by decide +kernel
theorem dX3_areSpelledAlike_17 : decode cX3_areSpelledAlike 17 = .ok (.istore 4, 2) := by decide +kernel
theorem dX3_areSpelledAlike_19 : decode cX3_areSpelledAlike 19 = .ok (.aload_n 0, 1) := by decide +kernel
theorem dX3_areSpelledAlike_20 : decode cX3_areSpelledAlike 20 = .ok (.getfield 26, 3) := by decide +kernel
theorem dX3_areSpelledAlike_23 : decode cX3_areSpelledAlike 23 = .ok (.iload_n 1, 1) := by decide +kernel
theorem dX3_areSpelledAlike_24 : decode cX3_areSpelledAlike 24 = .ok (.invokevirtual 54, 3) := by decide +kernel
theorem dX3_areSpelledAlike_27 : decode cX3_areSpelledAlike 27 = .ok (.iload_n 3, 1) := by decide +kernel
theorem dX3_areSpelledAlike_28 : decode cX3_areSpelledAlike 28 = .ok (.isub, 1) := by decide +kernel
theorem dX3_areSpelledAlike_29 : decode cX3_areSpelledAlike 29 = .ok (.istore 5, 2) := by decide +kernel
theorem dX3_areSpelledAlike_31 : decode cX3_areSpelledAlike 31 = .ok (.aload_n 0, 1) := by decide +kernel
theorem dX3_areSpelledAlike_32 : decode cX3_areSpelledAlike 32 = .ok (.getfield 26, 3) := by decide +kernel
theorem dX3_areSpelledAlike_35 : decode cX3_areSpelledAlike 35 = .ok (.iload_n 2, 1) := by decide +kernel
theorem dX3_areSpelledAlike_36 : decode cX3_areSpelledAlike 36 = .ok (.invokevirtual 54, 3) := by decide +kernel
theorem dX3_areSpelledAlike_39 : decode cX3_areSpelledAlike 39 = .ok (.iload 4, 2) := by decide +kernel
theorem dX3_areSpelledAlike_41 : decode cX3_areSpelledAlike 41 = .ok (.isub, 1) := by decide +kernel
theorem dX3_areSpelledAlike_42 : decode cX3_areSpelledAlike 42 = .ok (.iload 5, 2) := by decide +kernel
theorem dX3_areSpelledAlike_44 : decode cX3_areSpelledAlike 44 = .ok (.if_icmp .eq 5, 3) := by decide +kernel
theorem dX3_areSpelledAlike_47 : decode cX3_areSpelledAlike 47 = .ok (.iconst 0, 1) := by decide +kernel
theorem dX3_areSpelledAlike_48 : decode cX3_areSpelledAlike 48 = .ok (.ireturn, 1) := by decide +kernel
theorem dX3_areSpelledAlike_49 : decode cX3_areSpelledAlike 49 = .ok (.iconst 0, 1) := by decide +kernel
theorem dX3_areSpelledAlike_50 : decode cX3_areSpelledAlike 50 = .ok (.istore 6, 2) := by decide +kernel
theorem dX3_areSpelledAlike_52 : decode cX3_areSpelledAlike 52 = .ok (.iload 6, 2) := by decide +kernel
theorem dX3_areSpelledAlike_54 : decode cX3_areSpelledAlike 54 = .ok (.iload 5, 2) := by decide +kernel
theorem dX3_areSpelledAlike_56 : decode cX3_areSpelledAlike 56 = .ok (.if_icmp .ge 37, 3) := by decide +kernel
theorem dX3_areSpelledAlike_59 : decode cX3_areSpelledAlike 59 = .ok (.aload_n 0, 1) := by decide +kernel
theorem dX3_areSpelledAlike_60 : decode cX3_areSpelledAlike 60 = .ok (.getfield 23, 3) := by decide +kernel
theorem dX3_areSpelledAlike_63 : decode cX3_areSpelledAlike 63 = .ok (.iload_n 3, 1) := by decide +kernel
theorem dX3_areSpelledAlike_64 : decode cX3_areSpelledAlike 64 = .ok (.iload 6, 2) := by decide +kernel
theorem dX3_areSpelledAlike_66 : decode cX3_areSpelledAlike 66 = .ok (.iadd, 1) := by decide +kernel
theorem dX3_areSpelledAlike_67 : decode cX3_areSpelledAlike 67 = .ok (.invokevirtual 54, 3) := by decide +kernel
theorem dX3_areSpelledAlike_70 : decode cX3_areSpelledAlike 70 = .ok (.aload_n 0, 1) := by decide +kernel
theorem dX3_areSpelledAlike_71 : decode cX3_areSpelledAlike 71 = .ok (.getfield 23, 3) := by decide +kernel
theorem dX3_areSpelledAlike_74 : decode cX3_areSpelledAlike 74 = .ok (.iload 4, 2) := by decide +kernel
theorem dX3_areSpelledAlike_76 : decode cX3_areSpelledAlike 76 = .ok (.iload 6, 2) := by decide +kernel
theorem dX3_areSpelledAlike_78 : decode cX3_areSpelledAlike 78 = .ok (.iadd, 1) := by decide +kernel
theorem dX3_areSpelledAlike_79 : decode cX3_areSpelledAlike 79 = .ok (.invokevirtual 54, 3) := by decide +kernel
theorem dX3_areSpelledAlike_82 : decode cX3_areSpelledAlike 82 = .ok (.if_icmp .eq 5, 3) := by decide +kernel
theorem dX3_areSpelledAlike_85 : decode cX3_areSpelledAlike 85 = .ok (.iconst 0, 1) := by decide +kernel
theorem dX3_areSpelledAlike_86 : decode cX3_areSpelledAlike 86 = .ok (.ireturn, 1) := by decide +kernel
theorem dX3_areSpelledAlike_87 : decode cX3_areSpelledAlike 87 = .ok (.iinc 6 1, 3) := by decide +kernel
theorem dX3_areSpelledAlike_90 : decode cX3_areSpelledAlike 90 = .ok (.goto (-38), 3) := by decide +kernel
theorem dX3_areSpelledAlike_93 : decode cX3_areSpelledAlike 93 = .ok (.iconst 1, 1) := by decide +kernel
theorem dX3_areSpelledAlike_94 : decode cX3_areSpelledAlike 94 = .ok (.ireturn, 1) := by decide +kernel
theorem dX3_wordCount_0 : decode cX3_wordCount 0 = .ok (.aload_n 0, 1) := by decide +kernel
theorem dX3_wordCount_1 : decode cX3_wordCount 1 = .ok (.getfield 20, 3) := by decide +kernel
theorem dX3_wordCount_4 : decode cX3_wordCount 4 = .ok (.invokevirtual 50, 3) := by decide +kernel
theorem dX3_wordCount_7 : decode cX3_wordCount 7 = .ok (.ireturn, 1) := by decide +kernel
theorem dX3_placeCount_0 : decode cX3_placeCount 0 = .ok (.aload_n 0, 1) := by decide +kernel
theorem dX3_placeCount_1 : decode cX3_placeCount 1 = .ok (.getfield 38, 3) := by decide +kernel
theorem dX3_placeCount_4 : decode cX3_placeCount 4 = .ok (.invokevirtual 50, 3) := by decide +kernel
theorem dX3_placeCount_7 : decode cX3_placeCount 7 = .ok (.ireturn, 1) := by decide +kernel
theorem dX3_startOf_0 : decode cX3_startOf 0 = .ok (.iload_n 1, 1) := by decide +kernel
theorem dX3_startOf_1 : decode cX3_startOf 1 = .ok (.ifCond .le 13, 3) := by decide +kernel
theorem dX3_startOf_4 : decode cX3_startOf 4 = .ok (.aload_n 0, 1) := by decide +kernel
theorem dX3_startOf_5 : decode cX3_startOf 5 = .ok (.iload_n 1, 1) := by decide +kernel
theorem dX3_startOf_6 : decode cX3_startOf 6 = .ok (.iconst 1, 1) := by decide +kernel
theorem dX3_startOf_7 : decode cX3_startOf 7 = .ok (.isub, 1) := by decide +kernel
theorem dX3_startOf_8 : decode cX3_startOf 8 = .ok (.invokevirtual 54, 3) := by decide +kernel
theorem dX3_startOf_11 : decode cX3_startOf 11 = .ok (.goto 4, 3) := by decide +kernel
theorem dX3_startOf_14 : decode cX3_startOf 14 = .ok (.iconst 0, 1) := by decide +kernel
theorem dX3_startOf_15 : decode cX3_startOf 15 = .ok (.ireturn, 1) := by decide +kernel
theorem dX3_signCount_0 : decode cX3_signCount 0 = .ok (.aload_n 0, 1) := by decide +kernel
theorem dX3_signCount_1 : decode cX3_signCount 1 = .ok (.getfield 20, 3) := by decide +kernel
theorem dX3_signCount_4 : decode cX3_signCount 4 = .ok (.iload_n 1, 1) := by decide +kernel
theorem dX3_signCount_5 : decode cX3_signCount 5 = .ok (.invokevirtual 54, 3) := by decide +kernel
theorem dX3_signCount_8 : decode cX3_signCount 8 = .ok (.aload_n 0, 1) := by decide +kernel
theorem dX3_signCount_9 : decode cX3_signCount 9 = .ok (.getfield 20, 3) := by decide +kernel
theorem dX3_signCount_12 : decode cX3_signCount 12 = .ok (.iload_n 1, 1) := by decide +kernel
theorem dX3_signCount_13 : decode cX3_signCount 13 = .ok (.invokestatic 74, 3) := by decide +kernel
theorem dX3_signCount_16 : decode cX3_signCount 16 = .ok (.isub, 1) := by decide +kernel
theorem dX3_signCount_17 : decode cX3_signCount 17 = .ok (.ireturn, 1) := by decide +kernel
theorem dX3_signOf_0 : decode cX3_signOf 0 = .ok (.aload_n 0, 1) := by decide +kernel
theorem dX3_signOf_1 : decode cX3_signOf 1 = .ok (.getfield 14, 3) := by decide +kernel
theorem dX3_signOf_4 : decode cX3_signOf 4 = .ok (.aload_n 0, 1) := by decide +kernel
theorem dX3_signOf_5 : decode cX3_signOf 5 = .ok (.getfield 20, 3) := by decide +kernel
theorem dX3_signOf_8 : decode cX3_signOf 8 = .ok (.iload_n 1, 1) := by decide +kernel
theorem dX3_signOf_9 : decode cX3_signOf 9 = .ok (.invokestatic 74, 3) := by decide +kernel
theorem dX3_signOf_12 : decode cX3_signOf 12 = .ok (.iload_n 2, 1) := by decide +kernel
theorem dX3_signOf_13 : decode cX3_signOf 13 = .ok (.iadd, 1) := by decide +kernel
theorem dX3_signOf_14 : decode cX3_signOf 14 = .ok (.invokevirtual 54, 3) := by decide +kernel
theorem dX3_signOf_17 : decode cX3_signOf 17 = .ok (.ireturn, 1) := by decide +kernel
theorem dX3_wordAt_0 : decode cX3_wordAt 0 = .ok (.aload_n 0, 1) := by decide +kernel
theorem dX3_wordAt_1 : decode cX3_wordAt 1 = .ok (.getfield 38, 3) := by decide +kernel
theorem dX3_wordAt_4 : decode cX3_wordAt 4 = .ok (.iload_n 1, 1) := by decide +kernel
theorem dX3_wordAt_5 : decode cX3_wordAt 5 = .ok (.invokevirtual 54, 3) := by decide +kernel
theorem dX3_wordAt_8 : decode cX3_wordAt 8 = .ok (.ireturn, 1) := by decide +kernel
theorem dX3_plainAhead_0 : decode cX3_plainAhead 0 = .ok (.aload_n 0, 1) := by decide +kernel
theorem dX3_plainAhead_1 : decode cX3_plainAhead 1 = .ok (.getfield 41, 3) := by decide +kernel
theorem dX3_plainAhead_4 : decode cX3_plainAhead 4 = .ok (.iload_n 1, 1) := by decide +kernel
theorem dX3_plainAhead_5 : decode cX3_plainAhead 5 = .ok (.invokevirtual 54, 3) := by decide +kernel
theorem dX3_plainAhead_8 : decode cX3_plainAhead 8 = .ok (.ireturn, 1) := by decide +kernel
theorem dX3_isSlashAt_0 : decode cX3_isSlashAt 0 = .ok (.aload_n 0, 1) := by decide +kernel
theorem dX3_isSlashAt_1 : decode cX3_isSlashAt 1 = .ok (.getfield 44, 3) := by decide +kernel
theorem dX3_isSlashAt_4 : decode cX3_isSlashAt 4 = .ok (.iload_n 1, 1) := by decide +kernel
theorem dX3_isSlashAt_5 : decode cX3_isSlashAt 5 = .ok (.invokevirtual 54, 3) := by decide +kernel
theorem dX3_isSlashAt_8 : decode cX3_isSlashAt 8 = .ok (.iconst 1, 1) := by decide +kernel
theorem dX3_isSlashAt_9 : decode cX3_isSlashAt 9 = .ok (.if_icmp .ne 7, 3) := by decide +kernel
theorem dX3_isSlashAt_12 : decode cX3_isSlashAt 12 = .ok (.iconst 1, 1) := by decide +kernel
theorem dX3_isSlashAt_13 : decode cX3_isSlashAt 13 = .ok (.goto 4, 3) := by decide +kernel
theorem dX3_isSlashAt_16 : decode cX3_isSlashAt 16 = .ok (.iconst 0, 1) := by decide +kernel
theorem dX3_isSlashAt_17 : decode cX3_isSlashAt 17 = .ok (.ireturn, 1) := by decide +kernel
theorem dX3_lastPlaceOf_0 : decode cX3_lastPlaceOf 0 = .ok (.aload_n 0, 1) := by decide +kernel
theorem dX3_lastPlaceOf_1 : decode cX3_lastPlaceOf 1 = .ok (.getfield 29, 3) := by decide +kernel
theorem dX3_lastPlaceOf_4 : decode cX3_lastPlaceOf 4 = .ok (.iload_n 1, 1) := by decide +kernel
theorem dX3_lastPlaceOf_5 : decode cX3_lastPlaceOf 5 = .ok (.invokevirtual 54, 3) := by decide +kernel
theorem dX3_lastPlaceOf_8 : decode cX3_lastPlaceOf 8 = .ok (.ireturn, 1) := by decide +kernel
theorem dX3_spellings_0 : decode cX3_spellings 0 = .ok (.aload_n 0, 1) := by decide +kernel
theorem dX3_spellings_1 : decode cX3_spellings 1 = .ok (.getfield 35, 3) := by decide +kernel
theorem dX3_spellings_4 : decode cX3_spellings 4 = .ok (.invokevirtual 50, 3) := by decide +kernel
theorem dX3_spellings_7 : decode cX3_spellings 7 = .ok (.ireturn, 1) := by decide +kernel
theorem dX3_firstSpelled_0 : decode cX3_firstSpelled 0 = .ok (.aload_n 0, 1) := by decide +kernel
theorem dX3_firstSpelled_1 : decode cX3_firstSpelled 1 = .ok (.getfield 35, 3) := by decide +kernel
theorem dX3_firstSpelled_4 : decode cX3_firstSpelled 4 = .ok (.iload_n 1, 1) := by decide +kernel
theorem dX3_firstSpelled_5 : decode cX3_firstSpelled 5 = .ok (.invokevirtual 54, 3) := by decide +kernel
theorem dX3_firstSpelled_8 : decode cX3_firstSpelled 8 = .ok (.ireturn, 1) := by decide +kernel
theorem dX3_timesSpelled_0 : decode cX3_timesSpelled 0 = .ok (.iconst 0, 1) := by decide +kernel
theorem dX3_timesSpelled_1 : decode cX3_timesSpelled 1 = .ok (.istore_n 2, 1) := by decide +kernel
theorem dX3_timesSpelled_2 : decode cX3_timesSpelled 2 = .ok (.iconst 0, 1) := by decide +kernel
theorem dX3_timesSpelled_3 : decode cX3_timesSpelled 3 = .ok (.istore_n 3, 1) := by decide +kernel
theorem dX3_timesSpelled_4 : decode cX3_timesSpelled 4 = .ok (.iload_n 3, 1) := by decide +kernel
theorem dX3_timesSpelled_5 : decode cX3_timesSpelled 5 = .ok (.aload_n 0, 1) := by decide +kernel
theorem dX3_timesSpelled_6 : decode cX3_timesSpelled 6 = .ok (.getfield 32, 3) := by decide +kernel
theorem dX3_timesSpelled_9 : decode cX3_timesSpelled 9 = .ok (.invokevirtual 50, 3) := by decide +kernel
theorem dX3_timesSpelled_12 : decode cX3_timesSpelled 12 = .ok (.if_icmp .ge 36, 3) := by decide +kernel
theorem dX3_timesSpelled_15 : decode cX3_timesSpelled 15 = .ok (.iload_n 2, 1) := by decide +kernel
theorem dX3_timesSpelled_16 : decode cX3_timesSpelled 16 = .ok (.aload_n 0, 1) := by decide +kernel
theorem dX3_timesSpelled_17 : decode cX3_timesSpelled 17 = .ok (.getfield 32, 3) := by decide +kernel
theorem dX3_timesSpelled_20 : decode cX3_timesSpelled 20 = .ok (.iload_n 3, 1) := by decide +kernel
theorem dX3_timesSpelled_21 : decode cX3_timesSpelled 21 = .ok (.invokevirtual 54, 3) := by decide +kernel
theorem dX3_timesSpelled_24 : decode cX3_timesSpelled 24 = .ok (.aload_n 0, 1) := by decide +kernel
theorem dX3_timesSpelled_25 : decode cX3_timesSpelled 25 = .ok (.getfield 35, 3) := by decide +kernel
theorem dX3_timesSpelled_28 : decode cX3_timesSpelled 28 = .ok (.iload_n 1, 1) := by decide +kernel
theorem dX3_timesSpelled_29 : decode cX3_timesSpelled 29 = .ok (.invokevirtual 54, 3) := by decide +kernel
theorem dX3_timesSpelled_32 : decode cX3_timesSpelled 32 = .ok (.if_icmp .ne 7, 3) := by decide +kernel
theorem dX3_timesSpelled_35 : decode cX3_timesSpelled 35 = .ok (.iconst 1, 1) := by decide +kernel
theorem dX3_timesSpelled_36 : decode cX3_timesSpelled 36 = .ok (.goto 4, 3) := by decide +kernel
theorem dX3_timesSpelled_39 : decode cX3_timesSpelled 39 = .ok (.iconst 0, 1) := by decide +kernel
theorem dX3_timesSpelled_40 : decode cX3_timesSpelled 40 = .ok (.iadd, 1) := by decide +kernel
theorem dX3_timesSpelled_41 : decode cX3_timesSpelled 41 = .ok (.istore_n 2, 1) := by decide +kernel
theorem dX3_timesSpelled_42 : decode cX3_timesSpelled 42 = .ok (.iinc 3 1, 3) := by decide +kernel
theorem dX3_timesSpelled_45 : decode cX3_timesSpelled 45 = .ok (.goto (-41), 3) := by decide +kernel
theorem dX3_timesSpelled_48 : decode cX3_timesSpelled 48 = .ok (.iload_n 2, 1) := by decide +kernel
theorem dX3_timesSpelled_49 : decode cX3_timesSpelled 49 = .ok (.ireturn, 1) := by decide +kernel
theorem dX4_init_0 : decode cX4_init 0 = .ok (.aload_n 0, 1) := by decide +kernel
theorem dX4_init_1 : decode cX4_init 1 = .ok (.invokespecial 3, 3) := by decide +kernel
theorem dX4_init_4 : decode cX4_init 4 = .ok (.aload_n 0, 1) := by decide +kernel
theorem dX4_init_5 : decode cX4_init 5 = .ok (.bipush 38, 2) := by decide +kernel
theorem dX4_init_7 : decode cX4_init 7 = .ok (.newarray .int, 2) := by decide +kernel
theorem dX4_init_9 : decode cX4_init 9 = .ok (.putfield 9, 3) := by decide +kernel
theorem dX4_init_12 : decode cX4_init 12 = .ok (.aload_n 0, 1) := by decide +kernel
theorem dX4_init_13 : decode cX4_init 13 = .ok (.new 15, 3) := by decide +kernel
theorem dX4_init_16 : decode cX4_init 16 = .ok (.dup, 1) := by decide +kernel
theorem dX4_init_17 : decode cX4_init 17 = .ok (.bipush 10, 2) := by decide +kernel
theorem dX4_init_19 : decode cX4_init 19 = .ok (.invokespecial 17, 3) := by decide +kernel
theorem dX4_init_22 : decode cX4_init 22 = .ok (.putfield 20, 3) := by decide +kernel
theorem dX4_init_25 : decode cX4_init 25 = .ok (.aload_n 0, 1) := by decide +kernel
theorem dX4_init_26 : decode cX4_init 26 = .ok (.new 15, 3) := by decide +kernel
theorem dX4_init_29 : decode cX4_init 29 = .ok (.dup, 1) := by decide +kernel
theorem dX4_init_30 : decode cX4_init 30 = .ok (.bipush 10, 2) := by decide +kernel
theorem dX4_init_32 : decode cX4_init 32 = .ok (.invokespecial 17, 3) := by decide +kernel
theorem dX4_init_35 : decode cX4_init 35 = .ok (.putfield 24, 3) := by decide +kernel
theorem dX4_init_38 : decode cX4_init 38 = .ok (.aload_n 0, 1) := by decide +kernel
theorem dX4_init_39 : decode cX4_init 39 = .ok (.bipush 76, 2) := by decide +kernel
theorem dX4_init_41 : decode cX4_init 41 = .ok (.newarray .int, 2) := by decide +kernel
theorem dX4_init_43 : decode cX4_init 43 = .ok (.putfield 27, 3) := by decide +kernel
theorem dX4_init_46 : decode cX4_init 46 = .ok (.aload_n 0, 1) := by decide +kernel
theorem dX4_init_47 : decode cX4_init 47 = .ok (.iconst 2, 1) := by decide +kernel
theorem dX4_init_48 : decode cX4_init 48 = .ok (.newarray .boolean, 2) := by decide +kernel
theorem dX4_init_50 : decode cX4_init 50 = .ok (.putfield 30, 3) := by decide +kernel
theorem dX4_init_53 : decode cX4_init 53 = .ok (.aload_n 0, 1) := by decide +kernel
theorem dX4_init_54 : decode cX4_init 54 = .ok (.invokevirtual 34, 3) := by decide +kernel
theorem dX4_init_57 : decode cX4_init 57 = .ok (.return_, 1) := by decide +kernel
theorem dX4_begin_0 : decode cX4_begin 0 = .ok (.iconst 0, 1) := by decide +kernel
theorem dX4_begin_1 : decode cX4_begin 1 = .ok (.istore_n 1, 1) := by decide +kernel
theorem dX4_begin_2 : decode cX4_begin 2 = .ok (.iload_n 1, 1) := by decide +kernel
theorem dX4_begin_3 : decode cX4_begin 3 = .ok (.bipush 34, 2) := by decide +kernel
theorem dX4_begin_5 : decode cX4_begin 5 = .ok (.if_icmp .ge 35, 3) := by decide +kernel
theorem dX4_begin_8 : decode cX4_begin 8 = .ok (.aload_n 0, 1) := by decide +kernel
theorem dX4_begin_9 : decode cX4_begin 9 = .ok (.iload_n 1, 1) := by decide +kernel
theorem dX4_begin_10 : decode cX4_begin 10 = .ok (.iload_n 1, 1) := by decide +kernel
theorem dX4_begin_11 : decode cX4_begin 11 = .ok (.bipush 26, 2) := by decide +kernel
theorem dX4_begin_13 : decode cX4_begin 13 = .ok (.if_icmp .ge 7, 3) := by decide +kernel
theorem dX4_begin_16 : decode cX4_begin 16 = .ok (.iconst 4, 1) := by decide +kernel
theorem dX4_begin_17 : decode cX4_begin 17 = .ok (.goto 14, 3) := by decide +kernel
theorem dX4_begin_20 : decode cX4_begin 20 = .ok (.iload_n 1, 1) := by decide +kernel
theorem dX4_begin_21 : decode cX4_begin 21 = .ok (.bipush 30, 2) := by decide +kernel
theorem dX4_begin_23 : decode cX4_begin 23 = .ok (.if_icmp .ge 7, 3) := by decide +kernel
theorem dX4_begin_26 : decode cX4_begin 26 = .ok (.iconst 2, 1) := by decide +kernel
theorem dX4_begin_27 : decode cX4_begin 27 = .ok (.goto 4, 3) := by decide +kernel
theorem dX4_begin_30 : decode cX4_begin 30 = .ok (.iconst 0, 1) := by decide +kernel
theorem dX4_begin_31 : decode cX4_begin 31 = .ok (.invokevirtual 37, 3) := by decide +kernel
theorem dX4_begin_34 : decode cX4_begin 34 = .ok (.iinc 1 1, 3) := by decide +kernel
theorem dX4_begin_37 : decode cX4_begin 37 = .ok (.goto (-35), 3) := by decide +kernel
theorem dX4_begin_40 : decode cX4_begin 40 = .ok (.iconst 0, 1) := by decide +kernel
theorem dX4_begin_41 : decode cX4_begin 41 = .ok (.istore_n 1, 1) := by decide +kernel
theorem dX4_begin_42 : decode cX4_begin 42 = .ok (.iload_n 1, 1) := by decide +kernel
theorem dX4_begin_43 : decode cX4_begin 43 = .ok (.getstatic 41, 3) := by decide +kernel
theorem dX4_begin_46 : decode cX4_begin 46 = .ok (.arraylength, 1) := by decide +kernel
theorem dX4_begin_47 : decode cX4_begin 47 = .ok (.if_icmp .ge 22, 3) := by decide +kernel
theorem dX4_begin_50 : decode cX4_begin 50 = .ok (.aload_n 0, 1) := by decide +kernel
theorem dX4_begin_51 : decode cX4_begin 51 = .ok (.bipush 34, 2) := by decide +kernel
theorem dX4_begin_53 : decode cX4_begin 53 = .ok (.iload_n 1, 1) := by decide +kernel
theorem dX4_begin_54 : decode cX4_begin 54 = .ok (.iadd, 1) := by decide +kernel
theorem dX4_begin_55 : decode cX4_begin 55 = .ok (.getstatic 41, 3) := by decide +kernel
theorem dX4_begin_58 : decode cX4_begin 58 = .ok (.iload_n 1, 1) := by decide +kernel
theorem dX4_begin_59 : decode cX4_begin 59 = .ok (.iaload, 1) := by decide +kernel
theorem dX4_begin_60 : decode cX4_begin 60 = .ok (.invokevirtual 37, 3) := by decide +kernel
theorem dX4_begin_63 : decode cX4_begin 63 = .ok (.iinc 1 1, 3) := by decide +kernel
theorem dX4_begin_66 : decode cX4_begin 66 = .ok (.goto (-24), 3) := by decide +kernel
theorem dX4_begin_69 : decode cX4_begin 69 = .ok (.iconst 0, 1) := by decide +kernel
theorem dX4_begin_70 : decode cX4_begin 70 = .ok (.istore_n 1, 1) := by decide +kernel
theorem dX4_begin_71 : decode cX4_begin 71 = .ok (.iload_n 1, 1) := by decide +kernel
theorem dX4_begin_72 : decode cX4_begin 72 = .ok (.aload_n 0, 1) := by decide +kernel
theorem dX4_begin_73 : decode cX4_begin 73 = .ok (.getfield 30, 3) := by decide +kernel
theorem dX4_begin_76 : decode cX4_begin 76 = .ok (.arraylength, 1) := by decide +kernel
theorem dX4_begin_77 : decode cX4_begin 77 = .ok (.if_icmp .ge 16, 3) := by decide +kernel
theorem dX4_begin_80 : decode cX4_begin 80 = .ok (.aload_n 0, 1) := by decide +kernel
theorem dX4_begin_81 : decode cX4_begin 81 = .ok (.getfield 30, 3) := by decide +kernel
theorem dX4_begin_84 : decode cX4_begin 84 = .ok (.iload_n 1, 1) := by decide +kernel
theorem dX4_begin_85 : decode cX4_begin 85 = .ok (.iconst 0, 1) := by decide +kernel
theorem dX4_begin_86 : decode cX4_begin 86 = .ok (.bastore, 1) := by decide +kernel
theorem dX4_begin_87 : decode cX4_begin 87 = .ok (.iinc 1 1, 3) := by decide +kernel
theorem dX4_begin_90 : decode cX4_begin 90 = .ok (.goto (-19), 3) := by decide +kernel
theorem dX4_begin_93 : decode cX4_begin 93 = .ok (.aload_n 0, 1) := by decide +kernel
theorem dX4_begin_94 : decode cX4_begin 94 = .ok (.invokevirtual 44, 3) := by decide +kernel
theorem dX4_begin_97 : decode cX4_begin 97 = .ok (.return_, 1) := by decide +kernel
theorem dX4_store_0 : decode cX4_store 0 = .ok (.iload_n 1, 1) := by decide +kernel
theorem dX4_store_1 : decode cX4_store 1 = .ok (.ifCond .lt 19, 3) := by decide +kernel
theorem dX4_store_4 : decode cX4_store 4 = .ok (.iload_n 1, 1) := by decide +kernel
theorem dX4_store_5 : decode cX4_store 5 = .ok (.aload_n 0, 1) := by decide +kernel
theorem dX4_store_6 : decode cX4_store 6 = .ok (.getfield 9, 3) := by decide +kernel
theorem dX4_store_9 : decode cX4_store 9 = .ok (.arraylength, 1) := by decide +kernel
theorem dX4_store_10 : decode cX4_store 10 = .ok (.if_icmp .ge 10, 3) := by decide +kernel
theorem dX4_store_13 : decode cX4_store 13 = .ok (.aload_n 0, 1) := by decide +kernel
theorem dX4_store_14 : decode cX4_store 14 = .ok (.getfield 9, 3) := by decide +kernel
theorem dX4_store_17 : decode cX4_store 17 = .ok (.iload_n 1, 1) := by decide +kernel
theorem dX4_store_18 : decode cX4_store 18 = .ok (.iload_n 2, 1) := by decide +kernel
theorem dX4_store_19 : decode cX4_store 19 = .ok (.iastore, 1) := by decide +kernel
theorem dX4_store_20 : decode cX4_store 20 = .ok (.return_, 1) := by decide +kernel
theorem dX4_loseUndone_0 : decode cX4_loseUndone 0 = .ok (.aload_n 0, 1) := by decide +kernel
theorem dX4_loseUndone_1 : decode cX4_loseUndone 1 = .ok (.getfield 20, 3) := by decide +kernel
theorem dX4_loseUndone_4 : decode cX4_loseUndone 4 = .ok (.invokevirtual 47, 3) := by decide +kernel
theorem dX4_loseUndone_7 : decode cX4_loseUndone 7 = .ok (.aload_n 0, 1) := by decide +kernel
theorem dX4_loseUndone_8 : decode cX4_loseUndone 8 = .ok (.getfield 24, 3) := by decide +kernel
theorem dX4_loseUndone_11 : decode cX4_loseUndone 11 = .ok (.invokevirtual 47, 3) := by decide +kernel
theorem dX4_loseUndone_14 : decode cX4_loseUndone 14 = .ok (.return_, 1) := by decide +kernel
theorem dX4_get_0 : decode cX4_get 0 = .ok (.iload_n 1, 1) := by decide +kernel
theorem dX4_get_1 : decode cX4_get 1 = .ok (.ifCond .lt 21, 3) := by decide +kernel
theorem dX4_get_4 : decode cX4_get 4 = .ok (.iload_n 1, 1) := by decide +kernel
theorem dX4_get_5 : decode cX4_get 5 = .ok (.aload_n 0, 1) := by decide +kernel
theorem dX4_get_6 : decode cX4_get 6 = .ok (.getfield 9, 3) := by decide +kernel
theorem dX4_get_9 : decode cX4_get 9 = .ok (.arraylength, 1) := by decide +kernel
theorem dX4_get_10 : decode cX4_get 10 = .ok (.if_icmp .ge 12, 3) := by decide +kernel
theorem dX4_get_13 : decode cX4_get 13 = .ok (.aload_n 0, 1) := by decide +kernel
theorem dX4_get_14 : decode cX4_get 14 = .ok (.getfield 9, 3) := by decide +kernel
theorem dX4_get_17 : decode cX4_get 17 = .ok (.iload_n 1, 1) := by decide +kernel
theorem dX4_get_18 : decode cX4_get 18 = .ok (.iaload, 1) := by decide +kernel
theorem dX4_get_19 : decode cX4_get 19 = .ok (.goto 4, 3) := by decide +kernel
theorem dX4_get_22 : decode cX4_get 22 = .ok (.iconst 0, 1) := by decide +kernel
theorem dX4_get_23 : decode cX4_get 23 = .ok (.ireturn, 1) := by decide +kernel
theorem dX4_widthOf_0 : decode cX4_widthOf 0 = .ok (.aload_n 0, 1) := by decide +kernel
theorem dX4_widthOf_1 : decode cX4_widthOf 1 = .ok (.iload_n 1, 1) := by decide +kernel
theorem dX4_widthOf_2 : decode cX4_widthOf 2 = .ok (.invokestatic 50, 3) := by decide +kernel
theorem dX4_widthOf_5 : decode cX4_widthOf 5 = .ok (.invokevirtual 54, 3) := by decide +kernel
theorem dX4_widthOf_8 : decode cX4_widthOf 8 = .ok (.ireturn, 1) := by decide +kernel
theorem dX4_hungOf_0 : decode cX4_hungOf 0 = .ok (.aload_n 0, 1) := by decide +kernel
theorem dX4_hungOf_1 : decode cX4_hungOf 1 = .ok (.iload_n 1, 1) := by decide +kernel
theorem dX4_hungOf_2 : decode cX4_hungOf 2 = .ok (.invokestatic 50, 3) := by decide +kernel
theorem dX4_hungOf_5 : decode cX4_hungOf 5 = .ok (.invokevirtual 54, 3) := by decide +kernel
theorem dX4_hungOf_8 : decode cX4_hungOf 8 = .ok (.aload_n 0, 1) := by decide +kernel
theorem dX4_hungOf_9 : decode cX4_hungOf 9 = .ok (.iload_n 1, 1) := by decide +kernel
theorem dX4_hungOf_10 : decode cX4_hungOf 10 = .ok (.invokestatic 57, 3) := by decide +kernel
theorem dX4_hungOf_13 : decode cX4_hungOf 13 = .ok (.invokevirtual 54, 3) := by decide +kernel
theorem dX4_hungOf_16 : decode cX4_hungOf 16 = .ok (.imul, 1) := by decide +kernel
theorem dX4_hungOf_17 : decode cX4_hungOf 17 = .ok (.bipush 10, 2) := by decide +kernel
theorem dX4_hungOf_19 : decode cX4_hungOf 19 = .ok (.idiv, 1) := by decide +kernel
theorem dX4_hungOf_20 : decode cX4_hungOf 20 = .ok (.ireturn, 1) := by decide +kernel
theorem dX4_change_0 : decode cX4_change 0 = .ok (.aload_n 0, 1) := by decide +kernel
theorem dX4_change_1 : decode cX4_change 1 = .ok (.getfield 20, 3) := by decide +kernel
theorem dX4_change_4 : decode cX4_change 4 = .ok (.invokevirtual 60, 3) := by decide +kernel
theorem dX4_change_7 : decode cX4_change 7 = .ok (.bipush 10, 2) := by decide +kernel
theorem dX4_change_9 : decode cX4_change 9 = .ok (.if_icmp .lt 17, 3) := by decide +kernel
theorem dX4_change_12 : decode cX4_change 12 = .ok (.aload_n 0, 1) := by decide +kernel
theorem dX4_change_13 : decode cX4_change 13 = .ok (.getfield 20, 3) := by decide +kernel
theorem dX4_change_16 : decode cX4_change 16 = .ok (.invokevirtual 64, 3) := by decide +kernel
theorem dX4_change_19 : decode cX4_change 19 = .ok (.aload_n 0, 1) := by decide +kernel
theorem dX4_change_20 : decode cX4_change 20 = .ok (.getfield 24, 3) := by decide +kernel
theorem dX4_change_23 : decode cX4_change 23 = .ok (.invokevirtual 64, 3) := by decide +kernel
theorem dX4_change_26 : decode cX4_change 26 = .ok (.aload_n 0, 1) := by decide +kernel
theorem dX4_change_27 : decode cX4_change 27 = .ok (.getfield 20, 3) := by decide +kernel
theorem dX4_change_30 : decode cX4_change 30 = .ok (.iload_n 1, 1) := by decide +kernel
theorem dX4_change_31 : decode cX4_change 31 = .ok (.invokevirtual 67, 3) := by decide +kernel
theorem dX4_change_34 : decode cX4_change 34 = .ok (.pop, 1) := by decide +kernel
theorem dX4_change_35 : decode cX4_change 35 = .ok (.aload_n 0, 1) := by decide +kernel
theorem dX4_change_36 : decode cX4_change 36 = .ok (.getfield 24, 3) := by decide +kernel
theorem dX4_change_39 : decode cX4_change 39 = .ok (.aload_n 0, 1) := by decide +kernel
theorem dX4_change_40 : decode cX4_change 40 = .ok (.iload_n 1, 1) := by decide +kernel
theorem dX4_change_41 : decode cX4_change 41 = .ok (.invokevirtual 54, 3) := by decide +kernel
theorem dX4_change_44 : decode cX4_change 44 = .ok (.invokevirtual 67, 3) := by decide +kernel
theorem dX4_change_47 : decode cX4_change 47 = .ok (.pop, 1) := by decide +kernel
theorem dX4_change_48 : decode cX4_change 48 = .ok (.aload_n 0, 1) := by decide +kernel
theorem dX4_change_49 : decode cX4_change 49 = .ok (.iload_n 1, 1) := by decide +kernel
theorem dX4_change_50 : decode cX4_change 50 = .ok (.iload_n 2, 1) := by decide +kernel
theorem dX4_change_51 : decode cX4_change 51 = .ok (.invokevirtual 37, 3) := by decide +kernel
theorem dX4_change_54 : decode cX4_change 54 = .ok (.return_, 1) := by decide +kernel
theorem dX4_undoable_0 : decode cX4_undoable 0 = .ok (.aload_n 0, 1) := by decide +kernel
theorem dX4_undoable_1 : decode cX4_undoable 1 = .ok (.getfield 20, 3) := by decide +kernel
theorem dX4_undoable_4 : decode cX4_undoable 4 = .ok (.invokevirtual 60, 3) := by decide +kernel
theorem dX4_undoable_7 : decode cX4_undoable 7 = .ok (.ireturn, 1) := by decide +kernel
theorem dX4_takeBack_0 : decode cX4_takeBack 0 = .ok (.aload_n 0, 1) := by decide +kernel
theorem dX4_takeBack_1 : decode cX4_takeBack 1 = .ok (.getfield 20, 3) := by decide +kernel
theorem dX4_takeBack_4 : decode cX4_takeBack 4 = .ok (.invokevirtual 60, 3) := by decide +kernel
theorem dX4_takeBack_7 : decode cX4_takeBack 7 = .ok (.iconst 1, 1) := by decide +kernel
theorem dX4_takeBack_8 : decode cX4_takeBack 8 = .ok (.isub, 1) := by decide +kernel
theorem dX4_takeBack_9 : decode cX4_takeBack 9 = .ok (.istore_n 1, 1) := by decide +kernel
theorem dX4_takeBack_10 : decode cX4_takeBack 10 = .ok (.aload_n 0, 1) := by decide +kernel
theorem dX4_takeBack_11 : decode cX4_takeBack 11 = .ok (.getfield 20, 3) := by decide +kernel
theorem dX4_takeBack_14 : decode cX4_takeBack 14 = .ok (.iload_n 1, 1) := by decide +kernel
theorem dX4_takeBack_15 : decode cX4_takeBack 15 = .ok (.invokevirtual 71, 3) := by decide +kernel
theorem dX4_takeBack_18 : decode cX4_takeBack 18 = .ok (.istore_n 2, 1) := by decide +kernel
theorem dX4_takeBack_19 : decode cX4_takeBack 19 = .ok (.iload_n 1, 1) := by decide +kernel
theorem dX4_takeBack_20 : decode cX4_takeBack 20 = .ok (.ifCond .lt 30, 3) := by decide +kernel
theorem dX4_takeBack_23 : decode cX4_takeBack 23 = .ok (.aload_n 0, 1) := by decide +kernel
theorem dX4_takeBack_24 : decode cX4_takeBack 24 = .ok (.iload_n 2, 1) := by decide +kernel
theorem dX4_takeBack_25 : decode cX4_takeBack 25 = .ok (.aload_n 0, 1) := by decide +kernel
theorem dX4_takeBack_26 : decode cX4_takeBack 26 = .ok (.getfield 24, 3) := by decide +kernel
theorem dX4_takeBack_29 : decode cX4_takeBack 29 = .ok (.iload_n 1, 1) := by decide +kernel
theorem dX4_takeBack_30 : decode cX4_takeBack 30 = .ok (.invokevirtual 71, 3) := by decide +kernel
theorem dX4_takeBack_33 : decode cX4_takeBack 33 = .ok (.invokevirtual 37, 3) := by decide +kernel
theorem dX4_takeBack_36 : decode cX4_takeBack 36 = .ok (.aload_n 0, 1) := by decide +kernel
theorem dX4_takeBack_37 : decode cX4_takeBack 37 = .ok (.getfield 20, 3) := by decide +kernel
theorem dX4_takeBack_40 : decode cX4_takeBack 40 = .ok (.invokevirtual 72, 3) := by decide +kernel
theorem dX4_takeBack_43 : decode cX4_takeBack 43 = .ok (.aload_n 0, 1) := by decide +kernel
theorem dX4_takeBack_44 : decode cX4_takeBack 44 = .ok (.getfield 24, 3) := by decide +kernel
theorem dX4_takeBack_47 : decode cX4_takeBack 47 = .ok (.invokevirtual 72, 3) := by decide +kernel
theorem dX4_takeBack_50 : decode cX4_takeBack 50 = .ok (.iload_n 2, 1) := by decide +kernel
theorem dX4_takeBack_51 : decode cX4_takeBack 51 = .ok (.ireturn, 1) := by decide +kernel
theorem dX4_has_0 : decode cX4_has 0 = .ok (.iload_n 1, 1) := by decide +kernel
theorem dX4_has_1 : decode cX4_has 1 = .ok (.ifCond .lt 25, 3) := by decide +kernel
theorem dX4_has_4 : decode cX4_has 4 = .ok (.iload_n 1, 1) := by decide +kernel
theorem dX4_has_5 : decode cX4_has 5 = .ok (.aload_n 0, 1) := by decide +kernel
theorem dX4_has_6 : decode cX4_has 6 = .ok (.getfield 30, 3) := by decide +kernel
theorem dX4_has_9 : decode cX4_has 9 = .ok (.arraylength, 1) := by decide +kernel
theorem dX4_has_10 : decode cX4_has 10 = .ok (.if_icmp .ge 16, 3) := by decide +kernel
theorem dX4_has_13 : decode cX4_has 13 = .ok (.aload_n 0, 1) := by decide +kernel
theorem dX4_has_14 : decode cX4_has 14 = .ok (.getfield 30, 3) := by decide +kernel
theorem dX4_has_17 : decode cX4_has 17 = .ok (.iload_n 1, 1) := by decide +kernel
theorem dX4_has_18 : decode cX4_has 18 = .ok (.baload, 1) := by decide +kernel
theorem dX4_has_19 : decode cX4_has 19 = .ok (.ifCond .eq 7, 3) := by decide +kernel
theorem dX4_has_22 : decode cX4_has 22 = .ok (.iconst 1, 1) := by decide +kernel
theorem dX4_has_23 : decode cX4_has 23 = .ok (.goto 4, 3) := by decide +kernel
theorem dX4_has_26 : decode cX4_has 26 = .ok (.iconst 0, 1) := by decide +kernel
theorem dX4_has_27 : decode cX4_has 27 = .ok (.ireturn, 1) := by decide +kernel
theorem dX4_copyTo_0 : decode cX4_copyTo 0 = .ok (.iload_n 1, 1) := by decide +kernel
theorem dX4_copyTo_1 : decode cX4_copyTo 1 = .ok (.ifCond .lt 12, 3) := by decide +kernel
theorem dX4_copyTo_4 : decode cX4_copyTo 4 = .ok (.iload_n 1, 1) := by decide +kernel
theorem dX4_copyTo_5 : decode cX4_copyTo 5 = .ok (.aload_n 0, 1) := by decide +kernel
theorem dX4_copyTo_6 : decode cX4_copyTo 6 = .ok (.getfield 30, 3) := by decide +kernel
theorem dX4_copyTo_9 : decode cX4_copyTo 9 = .ok (.arraylength, 1) := by decide +kernel
theorem dX4_copyTo_10 : decode cX4_copyTo 10 = .ok (.if_icmp .lt 4, 3) := by decide +kernel
theorem dX4_copyTo_13 : decode cX4_copyTo 13 = .ok (.return_, 1) := by decide +kernel
theorem dX4_copyTo_14 : decode cX4_copyTo 14 = .ok (.aload_n 0, 1) := by decide +kernel
theorem dX4_copyTo_15 : decode cX4_copyTo 15 = .ok (.getfield 9, 3) := by decide +kernel
theorem dX4_copyTo_18 : decode cX4_copyTo 18 = .ok (.iconst 0, 1) := by decide +kernel
theorem dX4_copyTo_19 : decode cX4_copyTo 19 = .ok (.aload_n 0, 1) := by decide +kernel
theorem dX4_copyTo_20 : decode cX4_copyTo 20 = .ok (.getfield 27, 3) := by decide +kernel
theorem dX4_copyTo_23 : decode cX4_copyTo 23 = .ok (.iload_n 1, 1) := by decide +kernel
theorem dX4_copyTo_24 : decode cX4_copyTo 24 = .ok (.bipush 38, 2) := by decide +kernel
theorem dX4_copyTo_26 : decode cX4_copyTo 26 = .ok (.imul, 1) := by decide +kernel
theorem dX4_copyTo_27 : decode cX4_copyTo 27 = .ok (.bipush 38, 2) := by decide +kernel
theorem dX4_copyTo_29 : decode cX4_copyTo 29 = .ok (.invokestatic 75, 3) := by decide +kernel
theorem dX4_copyTo_32 : decode cX4_copyTo 32 = .ok (.aload_n 0, 1) := by decide +kernel
theorem dX4_copyTo_33 : decode cX4_copyTo 33 = .ok (.getfield 30, 3) := by decide +kernel
theorem dX4_copyTo_36 : decode cX4_copyTo 36 = .ok (.iload_n 1, 1) := by decide +kernel
theorem dX4_copyTo_37 : decode cX4_copyTo 37 = .ok (.iconst 1, 1) := by decide +kernel
theorem dX4_copyTo_38 : decode cX4_copyTo 38 = .ok (.bastore, 1) := by decide +kernel
theorem dX4_copyTo_39 : decode cX4_copyTo 39 = .ok (.return_, 1) := by decide +kernel
theorem dX4_copyFrom_0 : decode cX4_copyFrom 0 = .ok (.aload_n 0, 1) := by decide +kernel
theorem dX4_copyFrom_1 : decode cX4_copyFrom 1 = .ok (.iload_n 1, 1) := by decide +kernel
theorem dX4_copyFrom_2 : decode cX4_copyFrom 2 = .ok (.invokevirtual 81, 3) := by decide +kernel
theorem dX4_copyFrom_5 : decode cX4_copyFrom 5 = .ok (.ifCond .eq 25, 3) := by decide +kernel
theorem dX4_copyFrom_8 : decode cX4_copyFrom 8 = .ok (.aload_n 0, 1) := by decide +kernel
theorem dX4_copyFrom_9 : decode cX4_copyFrom 9 = .ok (.getfield 27, 3) := by decide +kernel
theorem dX4_copyFrom_12 : decode cX4_copyFrom 12 = .ok (.iload_n 1, 1) := by decide +kernel
theorem dX4_copyFrom_13 : decode cX4_copyFrom 13 = .ok (.bipush 38, 2) := by decide +kernel
theorem dX4_copyFrom_15 : decode cX4_copyFrom 15 = .ok (.imul, 1) := by decide +kernel
theorem dX4_copyFrom_16 : decode cX4_copyFrom 16 = .ok (.aload_n 0, 1) := by decide +kernel
theorem dX4_copyFrom_17 : decode cX4_copyFrom 17 = .ok (.getfield 9, 3) := by decide +kernel
theorem dX4_copyFrom_20 : decode cX4_copyFrom 20 = .ok (.iconst 0, 1) := by decide +kernel
theorem dX4_copyFrom_21 : decode cX4_copyFrom 21 = .ok (.bipush 38, 2) := by decide +kernel
theorem dX4_copyFrom_23 : decode cX4_copyFrom 23 = .ok (.invokestatic 75, 3) := by decide +kernel
theorem dX4_copyFrom_26 : decode cX4_copyFrom 26 = .ok (.aload_n 0, 1) := by decide +kernel
theorem dX4_copyFrom_27 : decode cX4_copyFrom 27 = .ok (.invokevirtual 44, 3) := by decide +kernel
theorem dX4_copyFrom_30 : decode cX4_copyFrom 30 = .ok (.return_, 1) := by decide +kernel
theorem dX5_init_0 : decode cX5_init 0 = .ok (.aload_n 0, 1) := by decide +kernel
theorem dX5_init_1 : decode cX5_init 1 = .ok (.invokespecial 3, 3) := by decide +kernel
theorem dX5_init_4 : decode cX5_init 4 = .ok (.aload_n 0, 1) := by decide +kernel
theorem dX5_init_5 : decode cX5_init 5 = .ok (.new 9, 3) := by decide +kernel
theorem dX5_init_8 : decode cX5_init 8 = .ok (.dup, 1) := by decide +kernel
theorem dX5_init_9 : decode cX5_init 9 = .ok (.bipush 100, 2) := by decide +kernel
theorem dX5_init_11 : decode cX5_init 11 = .ok (.invokespecial 11, 3) := by decide +kernel
theorem dX5_init_14 : decode cX5_init 14 = .ok (.putfield 14, 3) := by decide +kernel
theorem dX5_init_17 : decode cX5_init 17 = .ok (.aload_n 0, 1) := by decide +kernel
theorem dX5_init_18 : decode cX5_init 18 = .ok (.new 9, 3) := by decide +kernel
theorem dX5_init_21 : decode cX5_init 21 = .ok (.dup, 1) := by decide +kernel
theorem dX5_init_22 : decode cX5_init 22 = .ok (.bipush 101, 2) := by decide +kernel
theorem dX5_init_24 : decode cX5_init 24 = .ok (.invokespecial 11, 3) := by decide +kernel
theorem dX5_init_27 : decode cX5_init 27 = .ok (.putfield 20, 3) := by decide +kernel
theorem dX5_init_30 : decode cX5_init 30 = .ok (.aload_n 0, 1) := by decide +kernel
theorem dX5_init_31 : decode cX5_init 31 = .ok (.new 9, 3) := by decide +kernel
theorem dX5_init_34 : decode cX5_init 34 = .ok (.dup, 1) := by decide +kernel
theorem dX5_init_35 : decode cX5_init 35 = .ok (.bipush 30, 2) := by decide +kernel
theorem dX5_init_37 : decode cX5_init 37 = .ok (.invokespecial 11, 3) := by decide +kernel
theorem dX5_init_40 : decode cX5_init 40 = .ok (.putfield 23, 3) := by decide +kernel
theorem dX5_init_43 : decode cX5_init 43 = .ok (.aload_n 0, 1) := by decide +kernel
theorem dX5_init_44 : decode cX5_init 44 = .ok (.new 9, 3) := by decide +kernel
theorem dX5_init_47 : decode cX5_init 47 = .ok (.dup, 1) := by decide +kernel
theorem dX5_init_48 : decode cX5_init 48 = .ok (.bipush 30, 2) := by decide +kernel
theorem dX5_init_50 : decode cX5_init 50 = .ok (.invokespecial 11, 3) := by decide +kernel
theorem dX5_init_53 : decode cX5_init 53 = .ok (.putfield 26, 3) := by decide +kernel
theorem dX5_init_56 : decode cX5_init 56 = .ok (.aload_n 0, 1) := by decide +kernel
theorem dX5_init_57 : decode cX5_init 57 = .ok (.new 9, 3) := by decide +kernel
theorem dX5_init_60 : decode cX5_init 60 = .ok (.dup, 1) := by decide +kernel
theorem dX5_init_61 : decode cX5_init 61 = .ok (.bipush 30, 2) := by decide +kernel
theorem dX5_init_63 : decode cX5_init 63 = .ok (.invokespecial 11, 3) := by decide +kernel
theorem dX5_init_66 : decode cX5_init 66 = .ok (.putfield 29, 3) := by decide +kernel
theorem dX5_init_69 : decode cX5_init 69 = .ok (.aload_n 0, 1) := by decide +kernel
theorem dX5_init_70 : decode cX5_init 70 = .ok (.new 9, 3) := by decide +kernel
theorem dX5_init_73 : decode cX5_init 73 = .ok (.dup, 1) := by decide +kernel
theorem dX5_init_74 : decode cX5_init 74 = .ok (.bipush 30, 2) := by decide +kernel
theorem dX5_init_76 : decode cX5_init 76 = .ok (.invokespecial 11, 3) := by decide +kernel
theorem dX5_init_79 : decode cX5_init 79 = .ok (.putfield 32, 3) := by decide +kernel
theorem dX5_init_82 : decode cX5_init 82 = .ok (.return_, 1) := by decide +kernel
theorem dX5_lay_0 : decode cX5_lay 0 = .ok (.aload_n 0, 1) := by decide +kernel
theorem dX5_lay_1 : decode cX5_lay 1 = .ok (.getfield 14, 3) := by decide +kernel
theorem dX5_lay_4 : decode cX5_lay 4 = .ok (.invokevirtual 35, 3) := by decide +kernel
theorem dX5_lay_7 : decode cX5_lay 7 = .ok (.aload_n 0, 1) := by decide +kernel
theorem dX5_lay_8 : decode cX5_lay 8 = .ok (.getfield 20, 3) := by decide +kernel
theorem dX5_lay_11 : decode cX5_lay 11 = .ok (.invokevirtual 35, 3) := by decide +kernel
theorem dX5_lay_14 : decode cX5_lay 14 = .ok (.aload_n 0, 1) := by decide +kernel
theorem dX5_lay_15 : decode cX5_lay 15 = .ok (.getfield 23, 3) := by decide +kernel
theorem dX5_lay_18 : decode cX5_lay 18 = .ok (.invokevirtual 35, 3) := by decide +kernel
theorem dX5_lay_21 : decode cX5_lay 21 = .ok (.aload_n 0, 1) := by decide +kernel
theorem dX5_lay_22 : decode cX5_lay 22 = .ok (.getfield 26, 3) := by decide +kernel
theorem dX5_lay_25 : decode cX5_lay 25 = .ok (.invokevirtual 35, 3) := by decide +kernel
theorem dX5_lay_28 : decode cX5_lay 28 = .ok (.aload_n 0, 1) := by decide +kernel
theorem dX5_lay_29 : decode cX5_lay 29 = .ok (.getfield 29, 3) := by decide +kernel
theorem dX5_lay_32 : decode cX5_lay 32 = .ok (.invokevirtual 35, 3) := by decide +kernel
theorem dX5_lay_35 : decode cX5_lay 35 = .ok (.aload_n 0, 1) := by decide +kernel
theorem dX5_lay_36 : decode cX5_lay 36 = .ok (.getfield 32, 3) := by decide +kernel
theorem dX5_lay_39 : decode cX5_lay 39 = .ok (.invokevirtual 35, 3) := by decide +kernel
theorem dX5_lay_42 : decode cX5_lay 42 = .ok (.aload_n 0, 1) := by decide +kernel
theorem dX5_lay_43 : decode cX5_lay 43 = .ok (.aload_n 2, 1) := by decide +kernel
theorem dX5_lay_44 : decode cX5_lay 44 = .ok (.invokevirtual 38, 3) := by decide +kernel
theorem dX5_lay_47 : decode cX5_lay 47 = .ok (.putfield 44, 3) := by decide +kernel
theorem dX5_lay_50 : decode cX5_lay 50 = .ok (.aload_n 0, 1) := by decide +kernel
theorem dX5_lay_51 : decode cX5_lay 51 = .ok (.aload_n 2, 1) := by decide +kernel
theorem dX5_lay_52 : decode cX5_lay 52 = .ok (.invokevirtual 48, 3) := by decide +kernel
theorem dX5_lay_55 : decode cX5_lay 55 = .ok (.putfield 52, 3) := by decide +kernel
theorem dX5_lay_58 : decode cX5_lay 58 = .ok (.aload_n 0, 1) := by decide +kernel
theorem dX5_lay_59 : decode cX5_lay 59 = .ok (.getfield 44, 3) := by decide +kernel
theorem dX5_lay_62 : decode cX5_lay 62 = .ok (.ifCond .ne 4, 3) := by decide +kernel
theorem dX5_lay_65 : decode cX5_lay 65 = .ok (.return_, 1) := by decide +kernel
theorem dX5_lay_66 : decode cX5_lay 66 = .ok (.aload_n 0, 1) := by decide +kernel
theorem dX5_lay_67 : decode cX5_lay 67 = .ok (.getfield 20, 3) := by decide +kernel
theorem dX5_lay_70 : decode cX5_lay 70 = .ok (.iconst 0, 1) := by decide +kernel
theorem dX5_lay_71 : decode cX5_lay 71 = .ok (.invokevirtual 55, 3) := by decide +kernel
theorem dX5_lay_74 : decode cX5_lay 74 = .ok (.pop, 1) := by decide +kernel
theorem dX5_lay_75 : decode cX5_lay 75 = .ok (.iconst (-1), 1) := by decide +kernel
theorem dX5_lay_76 : decode cX5_lay 76 = .ok (.istore_n 3, 1) := by decide +kernel
theorem dX5_lay_77 : decode cX5_lay 77 = .ok (.iconst 0, 1) := by decide +kernel
theorem dX5_lay_78 : decode cX5_lay 78 = .ok (.istore 4, 2) := by decide +kernel
theorem dX5_lay_80 : decode cX5_lay 80 = .ok (.iload 4, 2) := by decide +kernel
theorem dX5_lay_82 : decode cX5_lay 82 = .ok (.aload_n 2, 1) := by decide +kernel
theorem dX5_lay_83 : decode cX5_lay 83 = .ok (.invokevirtual 59, 3) := by decide +kernel
theorem dX5_lay_86 : decode cX5_lay 86 = .ok (.if_icmp .ge 52, 3) := by decide +kernel
theorem dX5_lay_89 : decode cX5_lay 89 = .ok (.aload_n 2, 1) := by decide +kernel
theorem dX5_lay_90 : decode cX5_lay 90 = .ok (.iload_n 3, 1) := by decide +kernel
theorem dX5_lay_91 : decode cX5_lay 91 = .ok (.invokevirtual 62, 3) := by decide +kernel
theorem dX5_lay_94 : decode cX5_lay 94 = .ok (.istore 5, 2) := by decide +kernel
theorem dX5_lay_96 : decode cX5_lay 96 = .ok (.aload_n 0, 1) := by decide +kernel
theorem dX5_lay_97 : decode cX5_lay 97 = .ok (.getfield 14, 3) := by decide +kernel
theorem dX5_lay_100 : decode cX5_lay 100 = .ok (.iload 5, 2) := by decide +kernel
theorem dX5_lay_102 : decode cX5_lay 102 = .ok (.invokevirtual 55, 3) := by decide +kernel
theorem dX5_lay_105 : decode cX5_lay 105 = .ok (.pop, 1) := by decide +kernel
theorem dX5_lay_106 : decode cX5_lay 106 = .ok (.aload_n 0, 1) := by decide +kernel
theorem dX5_lay_107 : decode cX5_lay 107 = .ok (.aload_n 1, 1) := by decide +kernel
theorem dX5_lay_108 : decode cX5_lay 108 = .ok (.iload_n 3, 1) := by decide +kernel
theorem dX5_lay_109 : decode cX5_lay 109 = .ok (.iload 5, 2) := by decide +kernel
theorem dX5_lay_111 : decode cX5_lay 111 = .ok (.invokevirtual 66, 3) := by decide +kernel
theorem dX5_lay_114 : decode cX5_lay 114 = .ok (.aload_n 0, 1) := by decide +kernel
theorem dX5_lay_115 : decode cX5_lay 115 = .ok (.getfield 20, 3) := by decide +kernel
theorem dX5_lay_118 : decode cX5_lay 118 = .ok (.aload_n 0, 1) := by decide +kernel
theorem dX5_lay_119 : decode cX5_lay 119 = .ok (.getfield 23, 3) := by decide +kernel
theorem dX5_lay_122 : decode cX5_lay 122 = .ok (.invokevirtual 70, 3) := by decide +kernel
theorem dX5_lay_125 : decode cX5_lay 125 = .ok (.invokevirtual 55, 3) := by decide +kernel
theorem dX5_lay_128 : decode cX5_lay 128 = .ok (.pop, 1) := by decide +kernel
theorem dX5_lay_129 : decode cX5_lay 129 = .ok (.iload 5, 2) := by decide +kernel
theorem dX5_lay_131 : decode cX5_lay 131 = .ok (.istore_n 3, 1) := by decide +kernel
theorem dX5_lay_132 : decode cX5_lay 132 = .ok (.iinc 4 1, 3) := by decide +kernel
theorem dX5_lay_135 : decode cX5_lay 135 = .ok (.goto (-55), 3) := by decide +kernel
theorem dX5_lay_138 : decode cX5_lay 138 = .ok (.aload_n 0, 1) := by decide +kernel
theorem dX5_lay_139 : decode cX5_lay 139 = .ok (.invokevirtual 73, 3) := by decide +kernel
theorem dX5_lay_142 : decode cX5_lay 142 = .ok (.return_, 1) := by decide +kernel
theorem dX5_setLine_0 : decode cX5_setLine 0 = .ok (.aload_n 1, 1) := by decide +kernel
theorem dX5_setLine_1 : decode cX5_setLine 1 = .ok (.iload_n 2, 1) := by decide +kernel
theorem dX5_setLine_2 : decode cX5_setLine 2 = .ok (.iload_n 3, 1) := by decide +kernel
theorem dX5_setLine_3 : decode cX5_setLine 3 = .ok (.invokevirtual 76, 3) := by decide +kernel
theorem dX5_setLine_6 : decode cX5_setLine 6 = .ok (.istore 4, 2) := by decide +kernel
theorem dX5_setLine_8 : decode cX5_setLine 8 = .ok (.iload 4, 2) := by decide +kernel
theorem dX5_setLine_10 : decode cX5_setLine 10 = .ok (.ifCond .le 15, 3) := by decide +kernel
theorem dX5_setLine_13 : decode cX5_setLine 13 = .ok (.aload_n 1, 1) := by decide +kernel
theorem dX5_setLine_14 : decode cX5_setLine 14 = .ok (.iload_n 2, 1) := by decide +kernel
theorem dX5_setLine_15 : decode cX5_setLine 15 = .ok (.iload_n 3, 1) := by decide +kernel
theorem dX5_setLine_16 : decode cX5_setLine 16 = .ok (.invokevirtual 82, 3) := by decide +kernel
theorem dX5_setLine_19 : decode cX5_setLine 19 = .ok (.iload 4, 2) := by decide +kernel
theorem dX5_setLine_21 : decode cX5_setLine 21 = .ok (.idiv, 1) := by decide +kernel
theorem dX5_setLine_22 : decode cX5_setLine 22 = .ok (.goto 4, 3) := by decide +kernel
theorem dX5_setLine_25 : decode cX5_setLine 25 = .ok (.iconst 0, 1) := by decide +kernel
theorem dX5_setLine_26 : decode cX5_setLine 26 = .ok (.istore 5, 2) := by decide +kernel
theorem dX5_setLine_28 : decode cX5_setLine 28 = .ok (.iload 4, 2) := by decide +kernel
theorem dX5_setLine_30 : decode cX5_setLine 30 = .ok (.ifCond .le 15, 3) := by decide +kernel
theorem dX5_setLine_33 : decode cX5_setLine 33 = .ok (.aload_n 1, 1) := by decide +kernel
theorem dX5_setLine_34 : decode cX5_setLine 34 = .ok (.iload_n 2, 1) := by decide +kernel
theorem dX5_setLine_35 : decode cX5_setLine 35 = .ok (.iload_n 3, 1) := by decide +kernel
theorem dX5_setLine_36 : decode cX5_setLine 36 = .ok (.invokevirtual 82, 3) := by decide +kernel
theorem dX5_setLine_39 : decode cX5_setLine 39 = .ok (.iload 4, 2) := by decide +kernel
theorem dX5_setLine_41 : decode cX5_setLine 41 = .ok (.irem, 1) := by decide +kernel
theorem dX5_setLine_42 : decode cX5_setLine 42 = .ok (.goto 4, 3) := by decide +kernel
theorem dX5_setLine_45 : decode cX5_setLine 45 = .ok (.iconst 0, 1) := by decide +kernel
theorem dX5_setLine_46 : decode cX5_setLine 46 = .ok (.istore 6, 2) := by decide +kernel
theorem dX5_setLine_48 : decode cX5_setLine 48 = .ok (.iconst 0, 1) := by decide +kernel
theorem dX5_setLine_49 : decode cX5_setLine 49 = .ok (.istore 7, 2) := by decide +kernel
theorem dX5_setLine_51 : decode cX5_setLine 51 = .ok (.iload_n 2, 1) := by decide +kernel
theorem dX5_setLine_52 : decode cX5_setLine 52 = .ok (.iconst 1, 1) := by decide +kernel
theorem dX5_setLine_53 : decode cX5_setLine 53 = .ok (.iadd, 1) := by decide +kernel
theorem dX5_setLine_54 : decode cX5_setLine 54 = .ok (.istore 8, 2) := by decide +kernel
theorem dX5_setLine_56 : decode cX5_setLine 56 = .ok (.iload 8, 2) := by decide +kernel
theorem dX5_setLine_58 : decode cX5_setLine 58 = .ok (.iload_n 3, 1) := by decide +kernel
theorem dX5_setLine_59 : decode cX5_setLine 59 = .ok (.if_icmp .ge 76, 3) := by decide +kernel
theorem dX5_setLine_62 : decode cX5_setLine 62 = .ok (.aload_n 1, 1) := by decide +kernel
theorem dX5_setLine_63 : decode cX5_setLine 63 = .ok (.iload 8, 2) := by decide +kernel
theorem dX5_setLine_65 : decode cX5_setLine 65 = .ok (.invokevirtual 85, 3) := by decide +kernel
theorem dX5_setLine_68 : decode cX5_setLine 68 = .ok (.ifCond .eq 6, 3) := by decide +kernel
theorem dX5_setLine_71 : decode cX5_setLine 71 = .ok (.goto 58, 3) := by decide +kernel
theorem dX5_setLine_74 : decode cX5_setLine 74 = .ok (.aload_n 1, 1) := by decide +kernel
theorem dX5_setLine_75 : decode cX5_setLine 75 = .ok (.iload_n 2, 1) := by decide +kernel
theorem dX5_setLine_76 : decode cX5_setLine 76 = .ok (.iload 8, 2) := by decide +kernel
theorem dX5_setLine_78 : decode cX5_setLine 78 = .ok (.invokevirtual 88, 3) := by decide +kernel
theorem dX5_setLine_81 : decode cX5_setLine 81 = .ok (.iload 7, 2) := by decide +kernel
theorem dX5_setLine_83 : decode cX5_setLine 83 = .ok (.iload 5, 2) := by decide +kernel
theorem dX5_setLine_85 : decode cX5_setLine 85 = .ok (.imul, 1) := by decide +kernel
theorem dX5_setLine_86 : decode cX5_setLine 86 = .ok (.iadd, 1) := by decide +kernel
theorem dX5_setLine_87 : decode cX5_setLine 87 = .ok (.iload 7, 2) := by decide +kernel
theorem dX5_setLine_89 : decode cX5_setLine 89 = .ok (.iload 6, 2) := by decide +kernel
theorem dX5_setLine_91 : decode cX5_setLine 91 = .ok (.invokestatic 91, 3) := by decide +kernel
theorem dX5_setLine_94 : decode cX5_setLine 94 = .ok (.iadd, 1) := by decide +kernel
theorem dX5_setLine_95 : decode cX5_setLine 95 = .ok (.istore 9, 2) := by decide +kernel
theorem dX5_setLine_97 : decode cX5_setLine 97 = .ok (.aload_n 0, 1) := by decide +kernel
theorem dX5_setLine_98 : decode cX5_setLine 98 = .ok (.iload 9, 2) := by decide +kernel
theorem dX5_setLine_100 : decode cX5_setLine 100 = .ok (.iload 9, 2) := by decide +kernel
theorem dX5_setLine_102 : decode cX5_setLine 102 = .ok (.aload_n 1, 1) := by decide +kernel
theorem dX5_setLine_103 : decode cX5_setLine 103 = .ok (.invokevirtual 96, 3) := by decide +kernel
theorem dX5_setLine_106 : decode cX5_setLine 106 = .ok (.iadd, 1) := by decide +kernel
theorem dX5_setLine_107 : decode cX5_setLine 107 = .ok (.iload 5, 2) := by decide +kernel
theorem dX5_setLine_109 : decode cX5_setLine 109 = .ok (.iadd, 1) := by decide +kernel
theorem dX5_setLine_110 : decode cX5_setLine 110 = .ok (.iload 7, 2) := by decide +kernel
theorem dX5_setLine_112 : decode cX5_setLine 112 = .ok (.iload 6, 2) := by decide +kernel
theorem dX5_setLine_114 : decode cX5_setLine 114 = .ok (.if_icmp .ge 7, 3) := by decide +kernel
theorem dX5_setLine_117 : decode cX5_setLine 117 = .ok (.iconst 1, 1) := by decide +kernel
theorem dX5_setLine_118 : decode cX5_setLine 118 = .ok (.goto 4, 3) := by decide +kernel
theorem dX5_setLine_121 : decode cX5_setLine 121 = .ok (.iconst 0, 1) := by decide +kernel
theorem dX5_setLine_122 : decode cX5_setLine 122 = .ok (.iadd, 1) := by decide +kernel
theorem dX5_setLine_123 : decode cX5_setLine 123 = .ok (.invokevirtual 99, 3) := by decide +kernel
theorem dX5_setLine_126 : decode cX5_setLine 126 = .ok (.iinc 7 1, 3) := by decide +kernel
theorem dX5_setLine_129 : decode cX5_setLine 129 = .ok (.iinc 8 1, 3) := by decide +kernel
theorem dX5_setLine_132 : decode cX5_setLine 132 = .ok (.goto (-76), 3) := by decide +kernel
theorem dX5_setLine_135 : decode cX5_setLine 135 = .ok (.return_, 1) := by decide +kernel
theorem dX5_addBlank_0 : decode cX5_addBlank 0 = .ok (.aload_n 0, 1) := by decide +kernel
theorem dX5_addBlank_1 : decode cX5_addBlank 1 = .ok (.getfield 23, 3) := by decide +kernel
theorem dX5_addBlank_4 : decode cX5_addBlank 4 = .ok (.iload_n 1, 1) := by decide +kernel
theorem dX5_addBlank_5 : decode cX5_addBlank 5 = .ok (.invokevirtual 55, 3) := by decide +kernel
theorem dX5_addBlank_8 : decode cX5_addBlank 8 = .ok (.pop, 1) := by decide +kernel
theorem dX5_addBlank_9 : decode cX5_addBlank 9 = .ok (.aload_n 0, 1) := by decide +kernel
theorem dX5_addBlank_10 : decode cX5_addBlank 10 = .ok (.getfield 26, 3) := by decide +kernel
theorem dX5_addBlank_13 : decode cX5_addBlank 13 = .ok (.iload_n 2, 1) := by decide +kernel
theorem dX5_addBlank_14 : decode cX5_addBlank 14 = .ok (.invokevirtual 55, 3) := by decide +kernel
theorem dX5_addBlank_17 : decode cX5_addBlank 17 = .ok (.pop, 1) := by decide +kernel
theorem dX5_addBlank_18 : decode cX5_addBlank 18 = .ok (.aload_n 0, 1) := by decide +kernel
theorem dX5_addBlank_19 : decode cX5_addBlank 19 = .ok (.getfield 29, 3) := by decide +kernel
theorem dX5_addBlank_22 : decode cX5_addBlank 22 = .ok (.iconst 0, 1) := by decide +kernel
theorem dX5_addBlank_23 : decode cX5_addBlank 23 = .ok (.invokevirtual 55, 3) := by decide +kernel
theorem dX5_addBlank_26 : decode cX5_addBlank 26 = .ok (.pop, 1) := by decide +kernel
theorem dX5_addBlank_27 : decode cX5_addBlank 27 = .ok (.aload_n 0, 1) := by decide +kernel
theorem dX5_addBlank_28 : decode cX5_addBlank 28 = .ok (.getfield 32, 3) := by decide +kernel
theorem dX5_addBlank_31 : decode cX5_addBlank 31 = .ok (.iconst 0, 1) := by decide +kernel
theorem dX5_addBlank_32 : decode cX5_addBlank 32 = .ok (.invokevirtual 55, 3) := by decide +kernel
theorem dX5_addBlank_35 : decode cX5_addBlank 35 = .ok (.pop, 1) := by decide +kernel
theorem dX5_addBlank_36 : decode cX5_addBlank 36 = .ok (.return_, 1) := by decide +kernel
theorem dX5_measureRivers_0 : decode cX5_measureRivers 0 = .ok (.aload_n 0, 1) := by decide +kernel
theorem dX5_measureRivers_1 : decode cX5_measureRivers 1 = .ok (.invokevirtual 103, 3) := by decide +kernel
theorem dX5_measureRivers_4 : decode cX5_measureRivers 4 = .ok (.iconst 1, 1) := by decide +kernel
theorem dX5_measureRivers_5 : decode cX5_measureRivers 5 = .ok (.isub, 1) := by decide +kernel
theorem dX5_measureRivers_6 : decode cX5_measureRivers 6 = .ok (.istore_n 1, 1) := by decide +kernel
theorem dX5_measureRivers_7 : decode cX5_measureRivers 7 = .ok (.iload_n 1, 1) := by decide +kernel
theorem dX5_measureRivers_8 : decode cX5_measureRivers 8 = .ok (.ifCond .lt 102, 3) := by decide +kernel
theorem dX5_measureRivers_11 : decode cX5_measureRivers 11 = .ok (.aload_n 0, 1) := by decide +kernel
theorem dX5_measureRivers_12 : decode cX5_measureRivers 12 = .ok (.getfield 20, 3) := by decide +kernel
theorem dX5_measureRivers_15 : decode cX5_measureRivers 15 = .ok (.iload_n 1, 1) := by decide +kernel
theorem dX5_measureRivers_16 : decode cX5_measureRivers 16 = .ok (.invokevirtual 104, 3) := by decide +kernel
theorem dX5_measureRivers_19 : decode cX5_measureRivers 19 = .ok (.istore_n 2, 1) := by decide +kernel
theorem dX5_measureRivers_20 : decode cX5_measureRivers 20 = .ok (.iload_n 2, 1) := by decide +kernel
theorem dX5_measureRivers_21 : decode cX5_measureRivers 21 = .ok (.aload_n 0, 1) := by decide +kernel
theorem dX5_measureRivers_22 : decode cX5_measureRivers 22 = .ok (.getfield 20, 3) := by decide +kernel
theorem dX5_measureRivers_25 : decode cX5_measureRivers 25 = .ok (.iload_n 1, 1) := by decide +kernel
theorem dX5_measureRivers_26 : decode cX5_measureRivers 26 = .ok (.iconst 1, 1) := by decide +kernel
theorem dX5_measureRivers_27 : decode cX5_measureRivers 27 = .ok (.iadd, 1) := by decide +kernel
theorem dX5_measureRivers_28 : decode cX5_measureRivers 28 = .ok (.invokevirtual 104, 3) := by decide +kernel
theorem dX5_measureRivers_31 : decode cX5_measureRivers 31 = .ok (.if_icmp .ge 73, 3) := by decide +kernel
theorem dX5_measureRivers_34 : decode cX5_measureRivers 34 = .ok (.aload_n 0, 1) := by decide +kernel
theorem dX5_measureRivers_35 : decode cX5_measureRivers 35 = .ok (.getfield 29, 3) := by decide +kernel
theorem dX5_measureRivers_38 : decode cX5_measureRivers 38 = .ok (.iload_n 2, 1) := by decide +kernel
theorem dX5_measureRivers_39 : decode cX5_measureRivers 39 = .ok (.iconst 1, 1) := by decide +kernel
theorem dX5_measureRivers_40 : decode cX5_measureRivers 40 = .ok (.aload_n 0, 1) := by decide +kernel
theorem dX5_measureRivers_41 : decode cX5_measureRivers 41 = .ok (.iload_n 2, 1) := by decide +kernel
theorem dX5_measureRivers_42 : decode cX5_measureRivers 42 = .ok (.iload_n 1, 1) := by decide +kernel
theorem dX5_measureRivers_43 : decode cX5_measureRivers 43 = .ok (.iconst 1, 1) := by decide +kernel
theorem dX5_measureRivers_44 : decode cX5_measureRivers 44 = .ok (.iadd, 1) := by decide +kernel
theorem dX5_measureRivers_45 : decode cX5_measureRivers 45 = .ok (.invokevirtual 107, 3) := by decide +kernel
theorem dX5_measureRivers_48 : decode cX5_measureRivers 48 = .ok (.iadd, 1) := by decide +kernel
theorem dX5_measureRivers_49 : decode cX5_measureRivers 49 = .ok (.invokevirtual 110, 3) := by decide +kernel
theorem dX5_measureRivers_52 : decode cX5_measureRivers 52 = .ok (.aload_n 0, 1) := by decide +kernel
theorem dX5_measureRivers_53 : decode cX5_measureRivers 53 = .ok (.getfield 29, 3) := by decide +kernel
theorem dX5_measureRivers_56 : decode cX5_measureRivers 56 = .ok (.iload_n 2, 1) := by decide +kernel
theorem dX5_measureRivers_57 : decode cX5_measureRivers 57 = .ok (.invokevirtual 104, 3) := by decide +kernel
theorem dX5_measureRivers_60 : decode cX5_measureRivers 60 = .ok (.iconst 3, 1) := by decide +kernel
theorem dX5_measureRivers_61 : decode cX5_measureRivers 61 = .ok (.if_icmp .lt 18, 3) := by decide +kernel
theorem dX5_measureRivers_64 : decode cX5_measureRivers 64 = .ok (.aload_n 0, 1) := by decide +kernel
theorem dX5_measureRivers_65 : decode cX5_measureRivers 65 = .ok (.iload_n 2, 1) := by decide +kernel
theorem dX5_measureRivers_66 : decode cX5_measureRivers 66 = .ok (.iload_n 1, 1) := by decide +kernel
theorem dX5_measureRivers_67 : decode cX5_measureRivers 67 = .ok (.iconst 1, 1) := by decide +kernel
theorem dX5_measureRivers_68 : decode cX5_measureRivers 68 = .ok (.isub, 1) := by decide +kernel
theorem dX5_measureRivers_69 : decode cX5_measureRivers 69 = .ok (.invokevirtual 113, 3) := by decide +kernel
theorem dX5_measureRivers_72 : decode cX5_measureRivers 72 = .ok (.ifCond .ne 7, 3) := by decide +kernel
theorem dX5_measureRivers_75 : decode cX5_measureRivers 75 = .ok (.iconst 1, 1) := by decide +kernel
theorem dX5_measureRivers_76 : decode cX5_measureRivers 76 = .ok (.goto 4, 3) := by decide +kernel
theorem dX5_measureRivers_79 : decode cX5_measureRivers 79 = .ok (.iconst 0, 1) := by decide +kernel
theorem dX5_measureRivers_80 : decode cX5_measureRivers 80 = .ok (.istore_n 3, 1) := by decide +kernel
theorem dX5_measureRivers_81 : decode cX5_measureRivers 81 = .ok (.aload_n 0, 1) := by decide +kernel
theorem dX5_measureRivers_82 : decode cX5_measureRivers 82 = .ok (.getfield 32, 3) := by decide +kernel
theorem dX5_measureRivers_85 : decode cX5_measureRivers 85 = .ok (.iload_n 2, 1) := by decide +kernel
theorem dX5_measureRivers_86 : decode cX5_measureRivers 86 = .ok (.iload_n 3, 1) := by decide +kernel
theorem dX5_measureRivers_87 : decode cX5_measureRivers 87 = .ok (.ifCond .eq 7, 3) := by decide +kernel
theorem dX5_measureRivers_90 : decode cX5_measureRivers 90 = .ok (.iconst 1, 1) := by decide +kernel
theorem dX5_measureRivers_91 : decode cX5_measureRivers 91 = .ok (.goto 4, 3) := by decide +kernel
theorem dX5_measureRivers_94 : decode cX5_measureRivers 94 = .ok (.iconst 0, 1) := by decide +kernel
theorem dX5_measureRivers_95 : decode cX5_measureRivers 95 = .ok (.invokevirtual 110, 3) := by decide +kernel
theorem dX5_measureRivers_98 : decode cX5_measureRivers 98 = .ok (.iinc 2 1, 3) := by decide +kernel
theorem dX5_measureRivers_101 : decode cX5_measureRivers 101 = .ok (.goto (-81), 3) := by decide +kernel
theorem dX5_measureRivers_104 : decode cX5_measureRivers 104 = .ok (.iinc 1 (-1), 3) := by decide +kernel
theorem dX5_measureRivers_107 : decode cX5_measureRivers 107 = .ok (.goto (-100), 3) := by decide +kernel
theorem dX5_measureRivers_110 : decode cX5_measureRivers 110 = .ok (.return_, 1) := by decide +kernel
theorem dX5_longestMet_0 : decode cX5_longestMet 0 = .ok (.iconst 0, 1) := by decide +kernel
theorem dX5_longestMet_1 : decode cX5_longestMet 1 = .ok (.istore_n 3, 1) := by decide +kernel
theorem dX5_longestMet_2 : decode cX5_longestMet 2 = .ok (.aload_n 0, 1) := by decide +kernel
theorem dX5_longestMet_3 : decode cX5_longestMet 3 = .ok (.getfield 20, 3) := by decide +kernel
theorem dX5_longestMet_6 : decode cX5_longestMet 6 = .ok (.iload_n 2, 1) := by decide +kernel
theorem dX5_longestMet_7 : decode cX5_longestMet 7 = .ok (.invokevirtual 104, 3) := by decide +kernel
theorem dX5_longestMet_10 : decode cX5_longestMet 10 = .ok (.istore 4, 2) := by decide +kernel
theorem dX5_longestMet_12 : decode cX5_longestMet 12 = .ok (.iload 4, 2) := by decide +kernel
theorem dX5_longestMet_14 : decode cX5_longestMet 14 = .ok (.aload_n 0, 1) := by decide +kernel
theorem dX5_longestMet_15 : decode cX5_longestMet 15 = .ok (.getfield 20, 3) := by decide +kernel
theorem dX5_longestMet_18 : decode cX5_longestMet 18 = .ok (.iload_n 2, 1) := by decide +kernel
theorem dX5_longestMet_19 : decode cX5_longestMet 19 = .ok (.iconst 1, 1) := by decide +kernel
theorem dX5_longestMet_20 : decode cX5_longestMet 20 = .ok (.iadd, 1) := by decide +kernel
theorem dX5_longestMet_21 : decode cX5_longestMet 21 = .ok (.invokevirtual 104, 3) := by decide +kernel
theorem dX5_longestMet_24 : decode cX5_longestMet 24 = .ok (.if_icmp .ge 33, 3) := by decide +kernel
theorem dX5_longestMet_27 : decode cX5_longestMet 27 = .ok (.aload_n 0, 1) := by decide +kernel
theorem dX5_longestMet_28 : decode cX5_longestMet 28 = .ok (.iload_n 1, 1) := by decide +kernel
theorem dX5_longestMet_29 : decode cX5_longestMet 29 = .ok (.iload 4, 2) := by decide +kernel
theorem dX5_longestMet_31 : decode cX5_longestMet 31 = .ok (.invokevirtual 117, 3) := by decide +kernel
theorem dX5_longestMet_34 : decode cX5_longestMet 34 = .ok (.ifCond .eq 17, 3) := by decide +kernel
theorem dX5_longestMet_37 : decode cX5_longestMet 37 = .ok (.iload_n 3, 1) := by decide +kernel
theorem dX5_longestMet_38 : decode cX5_longestMet 38 = .ok (.aload_n 0, 1) := by decide +kernel
theorem dX5_longestMet_39 : decode cX5_longestMet 39 = .ok (.getfield 29, 3) := by decide +kernel
theorem dX5_longestMet_42 : decode cX5_longestMet 42 = .ok (.iload 4, 2) := by decide +kernel
theorem dX5_longestMet_44 : decode cX5_longestMet 44 = .ok (.invokevirtual 104, 3) := by decide +kernel
theorem dX5_longestMet_47 : decode cX5_longestMet 47 = .ok (.invokestatic 120, 3) := by decide +kernel
theorem dX5_longestMet_50 : decode cX5_longestMet 50 = .ok (.istore_n 3, 1) := by decide +kernel
theorem dX5_longestMet_51 : decode cX5_longestMet 51 = .ok (.iinc 4 1, 3) := by decide +kernel
theorem dX5_longestMet_54 : decode cX5_longestMet 54 = .ok (.goto (-42), 3) := by decide +kernel
theorem dX5_longestMet_57 : decode cX5_longestMet 57 = .ok (.iload_n 3, 1) := by decide +kernel
theorem dX5_longestMet_58 : decode cX5_longestMet 58 = .ok (.ireturn, 1) := by decide +kernel
theorem dX5_meetsAny_0 : decode cX5_meetsAny 0 = .ok (.iload_n 2, 1) := by decide +kernel
theorem dX5_meetsAny_1 : decode cX5_meetsAny 1 = .ok (.ifCond .ge 5, 3) := by decide +kernel
theorem dX5_meetsAny_4 : decode cX5_meetsAny 4 = .ok (.iconst 0, 1) := by decide +kernel
theorem dX5_meetsAny_5 : decode cX5_meetsAny 5 = .ok (.ireturn, 1) := by decide +kernel
theorem dX5_meetsAny_6 : decode cX5_meetsAny 6 = .ok (.aload_n 0, 1) := by decide +kernel
theorem dX5_meetsAny_7 : decode cX5_meetsAny 7 = .ok (.getfield 20, 3) := by decide +kernel
theorem dX5_meetsAny_10 : decode cX5_meetsAny 10 = .ok (.iload_n 2, 1) := by decide +kernel
theorem dX5_meetsAny_11 : decode cX5_meetsAny 11 = .ok (.invokevirtual 104, 3) := by decide +kernel
theorem dX5_meetsAny_14 : decode cX5_meetsAny 14 = .ok (.istore_n 3, 1) := by decide +kernel
theorem dX5_meetsAny_15 : decode cX5_meetsAny 15 = .ok (.iload_n 3, 1) := by decide +kernel
theorem dX5_meetsAny_16 : decode cX5_meetsAny 16 = .ok (.aload_n 0, 1) := by decide +kernel
theorem dX5_meetsAny_17 : decode cX5_meetsAny 17 = .ok (.getfield 20, 3) := by decide +kernel
theorem dX5_meetsAny_20 : decode cX5_meetsAny 20 = .ok (.iload_n 2, 1) := by decide +kernel
theorem dX5_meetsAny_21 : decode cX5_meetsAny 21 = .ok (.iconst 1, 1) := by decide +kernel
theorem dX5_meetsAny_22 : decode cX5_meetsAny 22 = .ok (.iadd, 1) := by decide +kernel
theorem dX5_meetsAny_23 : decode cX5_meetsAny 23 = .ok (.invokevirtual 104, 3) := by decide +kernel
theorem dX5_meetsAny_26 : decode cX5_meetsAny 26 = .ok (.if_icmp .ge 20, 3) := by decide +kernel
theorem dX5_meetsAny_29 : decode cX5_meetsAny 29 = .ok (.aload_n 0, 1) := by decide +kernel
theorem dX5_meetsAny_30 : decode cX5_meetsAny 30 = .ok (.iload_n 1, 1) := by decide +kernel
theorem dX5_meetsAny_31 : decode cX5_meetsAny 31 = .ok (.iload_n 3, 1) := by decide +kernel
theorem dX5_meetsAny_32 : decode cX5_meetsAny 32 = .ok (.invokevirtual 117, 3) := by decide +kernel
theorem dX5_meetsAny_35 : decode cX5_meetsAny 35 = .ok (.ifCond .eq 5, 3) := by decide +kernel
theorem dX5_meetsAny_38 : decode cX5_meetsAny 38 = .ok (.iconst 1, 1) := by decide +kernel
theorem dX5_meetsAny_39 : decode cX5_meetsAny 39 = .ok (.ireturn, 1) := by decide +kernel
theorem dX5_meetsAny_40 : decode cX5_meetsAny 40 = .ok (.iinc 3 1, 3) := by decide +kernel
theorem dX5_meetsAny_43 : decode cX5_meetsAny 43 = .ok (.goto (-28), 3) := by decide +kernel
theorem dX5_meetsAny_46 : decode cX5_meetsAny 46 = .ok (.iconst 0, 1) := by decide +kernel
theorem dX5_meetsAny_47 : decode cX5_meetsAny 47 = .ok (.ireturn, 1) := by decide +kernel
theorem dX5_meet_0 : decode cX5_meet 0 = .ok (.aload_n 0, 1) := by decide +kernel
theorem dX5_meet_1 : decode cX5_meet 1 = .ok (.getfield 23, 3) := by decide +kernel
theorem dX5_meet_4 : decode cX5_meet 4 = .ok (.iload_n 1, 1) := by decide +kernel
theorem dX5_meet_5 : decode cX5_meet 5 = .ok (.invokevirtual 104, 3) := by decide +kernel
theorem dX5_meet_8 : decode cX5_meet 8 = .ok (.aload_n 0, 1) := by decide +kernel
theorem dX5_meet_9 : decode cX5_meet 9 = .ok (.getfield 26, 3) := by decide +kernel
theorem dX5_meet_12 : decode cX5_meet 12 = .ok (.iload_n 2, 1) := by decide +kernel
theorem dX5_meet_13 : decode cX5_meet 13 = .ok (.invokevirtual 104, 3) := by decide +kernel
theorem dX5_meet_16 : decode cX5_meet 16 = .ok (.if_icmp .ge 26, 3) := by decide +kernel
theorem dX5_meet_19 : decode cX5_meet 19 = .ok (.aload_n 0, 1) := by decide +kernel
theorem dX5_meet_20 : decode cX5_meet 20 = .ok (.getfield 23, 3) := by decide +kernel
theorem dX5_meet_23 : decode cX5_meet 23 = .ok (.iload_n 2, 1) := by decide +kernel
theorem dX5_meet_24 : decode cX5_meet 24 = .ok (.invokevirtual 104, 3) := by decide +kernel
theorem dX5_meet_27 : decode cX5_meet 27 = .ok (.aload_n 0, 1) := by decide +kernel
theorem dX5_meet_28 : decode cX5_meet 28 = .ok (.getfield 26, 3) := by decide +kernel
theorem dX5_meet_31 : decode cX5_meet 31 = .ok (.iload_n 1, 1) := by decide +kernel
theorem dX5_meet_32 : decode cX5_meet 32 = .ok (.invokevirtual 104, 3) := by decide +kernel
