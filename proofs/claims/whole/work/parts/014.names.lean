theorem dX8_areCommon_63 : decode cX8_areCommon 63 = .ok (.iload_n 3, 1) := by decide +kernel
theorem dX8_areCommon_64 : decode cX8_areCommon 64 = .ok (.iload 4, 2) := by decide +kernel
theorem dX8_areCommon_66 : decode cX8_areCommon 66 = .ok (.if_icmp .ge 7, 3) := by decide +kernel
theorem dX8_areCommon_69 : decode cX8_areCommon 69 = .ok (.iconst 1, 1) := by decide +kernel
theorem dX8_areCommon_70 : decode cX8_areCommon 70 = .ok (.goto 4, 3) := by decide +kernel
theorem dX8_areCommon_73 : decode cX8_areCommon 73 = .ok (.iconst 0, 1) := by decide +kernel
theorem dX8_areCommon_74 : decode cX8_areCommon 74 = .ok (.ireturn, 1) := by decide +kernel
theorem dX8_rivers_0 : decode cX8_rivers 0 = .ok (.aload_n 0, 1) := by decide +kernel
theorem dX8_rivers_1 : decode cX8_rivers 1 = .ok (.getfield 198, 3) := by decide +kernel
theorem dX8_rivers_4 : decode cX8_rivers 4 = .ok (.iconst 1, 1) := by decide +kernel
theorem dX8_rivers_5 : decode cX8_rivers 5 = .ok (.isub, 1) := by decide +kernel
theorem dX8_rivers_6 : decode cX8_rivers 6 = .ok (.istore_n 1, 1) := by decide +kernel
theorem dX8_rivers_7 : decode cX8_rivers 7 = .ok (.iload_n 1, 1) := by decide +kernel
theorem dX8_rivers_8 : decode cX8_rivers 8 = .ok (.ifCond .lt 97, 3) := by decide +kernel
theorem dX8_rivers_11 : decode cX8_rivers 11 = .ok (.iconst 0, 1) := by decide +kernel
theorem dX8_rivers_12 : decode cX8_rivers 12 = .ok (.istore_n 2, 1) := by decide +kernel
theorem dX8_rivers_13 : decode cX8_rivers 13 = .ok (.iload_n 1, 1) := by decide +kernel
theorem dX8_rivers_14 : decode cX8_rivers 14 = .ok (.iconst 1, 1) := by decide +kernel
theorem dX8_rivers_15 : decode cX8_rivers 15 = .ok (.iadd, 1) := by decide +kernel
theorem dX8_rivers_16 : decode cX8_rivers 16 = .ok (.istore_n 3, 1) := by decide +kernel
theorem dX8_rivers_17 : decode cX8_rivers 17 = .ok (.iload_n 3, 1) := by decide +kernel
theorem dX8_rivers_18 : decode cX8_rivers 18 = .ok (.aload_n 0, 1) := by decide +kernel
theorem dX8_rivers_19 : decode cX8_rivers 19 = .ok (.getfield 198, 3) := by decide +kernel
theorem dX8_rivers_22 : decode cX8_rivers 22 = .ok (.if_icmp .ge 68, 3) := by decide +kernel
theorem dX8_rivers_25 : decode cX8_rivers 25 = .ok (.aload_n 0, 1) := by decide +kernel
theorem dX8_rivers_26 : decode cX8_rivers 26 = .ok (.getfield 68, 3) := by decide +kernel
theorem dX8_rivers_29 : decode cX8_rivers 29 = .ok (.iload_n 3, 1) := by decide +kernel
theorem dX8_rivers_30 : decode cX8_rivers 30 = .ok (.iaload, 1) := by decide +kernel
theorem dX8_rivers_31 : decode cX8_rivers 31 = .ok (.aload_n 0, 1) := by decide +kernel
theorem dX8_rivers_32 : decode cX8_rivers 32 = .ok (.getfield 68, 3) := by decide +kernel
theorem dX8_rivers_35 : decode cX8_rivers 35 = .ok (.iload_n 1, 1) := by decide +kernel
theorem dX8_rivers_36 : decode cX8_rivers 36 = .ok (.iaload, 1) := by decide +kernel
theorem dX8_rivers_37 : decode cX8_rivers 37 = .ok (.iconst 1, 1) := by decide +kernel
theorem dX8_rivers_38 : decode cX8_rivers 38 = .ok (.iadd, 1) := by decide +kernel
theorem dX8_rivers_39 : decode cX8_rivers 39 = .ok (.if_icmp .ne 16, 3) := by decide +kernel
theorem dX8_rivers_42 : decode cX8_rivers 42 = .ok (.aload_n 0, 1) := by decide +kernel
theorem dX8_rivers_43 : decode cX8_rivers 43 = .ok (.iload_n 1, 1) := by decide +kernel
theorem dX8_rivers_44 : decode cX8_rivers 44 = .ok (.iload_n 3, 1) := by decide +kernel
theorem dX8_rivers_45 : decode cX8_rivers 45 = .ok (.invokevirtual 204, 3) := by decide +kernel
theorem dX8_rivers_48 : decode cX8_rivers 48 = .ok (.ifCond .eq 7, 3) := by decide +kernel
theorem dX8_rivers_51 : decode cX8_rivers 51 = .ok (.iconst 1, 1) := by decide +kernel
theorem dX8_rivers_52 : decode cX8_rivers 52 = .ok (.goto 4, 3) := by decide +kernel
theorem dX8_rivers_55 : decode cX8_rivers 55 = .ok (.iconst 0, 1) := by decide +kernel
theorem dX8_rivers_56 : decode cX8_rivers 56 = .ok (.istore 4, 2) := by decide +kernel
theorem dX8_rivers_58 : decode cX8_rivers 58 = .ok (.iload 4, 2) := by decide +kernel
theorem dX8_rivers_60 : decode cX8_rivers 60 = .ok (.ifCond .eq 22, 3) := by decide +kernel
theorem dX8_rivers_63 : decode cX8_rivers 63 = .ok (.aload_n 0, 1) := by decide +kernel
theorem dX8_rivers_64 : decode cX8_rivers 64 = .ok (.getfield 77, 3) := by decide +kernel
theorem dX8_rivers_67 : decode cX8_rivers 67 = .ok (.iload_n 3, 1) := by decide +kernel
theorem dX8_rivers_68 : decode cX8_rivers 68 = .ok (.iaload, 1) := by decide +kernel
theorem dX8_rivers_69 : decode cX8_rivers 69 = .ok (.iload_n 2, 1) := by decide +kernel
theorem dX8_rivers_70 : decode cX8_rivers 70 = .ok (.if_icmp .le 12, 3) := by decide +kernel
theorem dX8_rivers_73 : decode cX8_rivers 73 = .ok (.aload_n 0, 1) := by decide +kernel
theorem dX8_rivers_74 : decode cX8_rivers 74 = .ok (.getfield 77, 3) := by decide +kernel
theorem dX8_rivers_77 : decode cX8_rivers 77 = .ok (.iload_n 3, 1) := by decide +kernel
theorem dX8_rivers_78 : decode cX8_rivers 78 = .ok (.iaload, 1) := by decide +kernel
theorem dX8_rivers_79 : decode cX8_rivers 79 = .ok (.goto 4, 3) := by decide +kernel
theorem dX8_rivers_82 : decode cX8_rivers 82 = .ok (.iload_n 2, 1) := by decide +kernel
theorem dX8_rivers_83 : decode cX8_rivers 83 = .ok (.istore_n 2, 1) := by decide +kernel
theorem dX8_rivers_84 : decode cX8_rivers 84 = .ok (.iinc 3 1, 3) := by decide +kernel
theorem dX8_rivers_87 : decode cX8_rivers 87 = .ok (.goto (-70), 3) := by decide +kernel
theorem dX8_rivers_90 : decode cX8_rivers 90 = .ok (.aload_n 0, 1) := by decide +kernel
theorem dX8_rivers_91 : decode cX8_rivers 91 = .ok (.getfield 77, 3) := by decide +kernel
theorem dX8_rivers_94 : decode cX8_rivers 94 = .ok (.iload_n 1, 1) := by decide +kernel
theorem dX8_rivers_95 : decode cX8_rivers 95 = .ok (.iload_n 2, 1) := by decide +kernel
theorem dX8_rivers_96 : decode cX8_rivers 96 = .ok (.iconst 1, 1) := by decide +kernel
theorem dX8_rivers_97 : decode cX8_rivers 97 = .ok (.iadd, 1) := by decide +kernel
theorem dX8_rivers_98 : decode cX8_rivers 98 = .ok (.iastore, 1) := by decide +kernel
theorem dX8_rivers_99 : decode cX8_rivers 99 = .ok (.iinc 1 (-1), 3) := by decide +kernel
theorem dX8_rivers_102 : decode cX8_rivers 102 = .ok (.goto (-95), 3) := by decide +kernel
theorem dX8_rivers_105 : decode cX8_rivers 105 = .ok (.iconst 0, 1) := by decide +kernel
theorem dX8_rivers_106 : decode cX8_rivers 106 = .ok (.istore_n 1, 1) := by decide +kernel
theorem dX8_rivers_107 : decode cX8_rivers 107 = .ok (.iload_n 1, 1) := by decide +kernel
theorem dX8_rivers_108 : decode cX8_rivers 108 = .ok (.aload_n 0, 1) := by decide +kernel
theorem dX8_rivers_109 : decode cX8_rivers 109 = .ok (.getfield 198, 3) := by decide +kernel
theorem dX8_rivers_112 : decode cX8_rivers 112 = .ok (.if_icmp .ge 89, 3) := by decide +kernel
theorem dX8_rivers_115 : decode cX8_rivers 115 = .ok (.aload_n 0, 1) := by decide +kernel
theorem dX8_rivers_116 : decode cX8_rivers 116 = .ok (.getfield 80, 3) := by decide +kernel
theorem dX8_rivers_119 : decode cX8_rivers 119 = .ok (.iload_n 1, 1) := by decide +kernel
theorem dX8_rivers_120 : decode cX8_rivers 120 = .ok (.aload_n 0, 1) := by decide +kernel
theorem dX8_rivers_121 : decode cX8_rivers 121 = .ok (.getfield 77, 3) := by decide +kernel
theorem dX8_rivers_124 : decode cX8_rivers 124 = .ok (.iload_n 1, 1) := by decide +kernel
theorem dX8_rivers_125 : decode cX8_rivers 125 = .ok (.iaload, 1) := by decide +kernel
theorem dX8_rivers_126 : decode cX8_rivers 126 = .ok (.iconst 2, 1) := by decide +kernel
theorem dX8_rivers_127 : decode cX8_rivers 127 = .ok (.if_icmp .le 7, 3) := by decide +kernel
theorem dX8_rivers_130 : decode cX8_rivers 130 = .ok (.iconst 1, 1) := by decide +kernel
theorem dX8_rivers_131 : decode cX8_rivers 131 = .ok (.goto 4, 3) := by decide +kernel
theorem dX8_rivers_134 : decode cX8_rivers 134 = .ok (.iconst 0, 1) := by decide +kernel
theorem dX8_rivers_135 : decode cX8_rivers 135 = .ok (.bastore, 1) := by decide +kernel
theorem dX8_rivers_136 : decode cX8_rivers 136 = .ok (.iconst 0, 1) := by decide +kernel
theorem dX8_rivers_137 : decode cX8_rivers 137 = .ok (.istore_n 2, 1) := by decide +kernel
theorem dX8_rivers_138 : decode cX8_rivers 138 = .ok (.iload_n 2, 1) := by decide +kernel
theorem dX8_rivers_139 : decode cX8_rivers 139 = .ok (.iload_n 1, 1) := by decide +kernel
theorem dX8_rivers_140 : decode cX8_rivers 140 = .ok (.if_icmp .ge 55, 3) := by decide +kernel
theorem dX8_rivers_143 : decode cX8_rivers 143 = .ok (.aload_n 0, 1) := by decide +kernel
theorem dX8_rivers_144 : decode cX8_rivers 144 = .ok (.getfield 80, 3) := by decide +kernel
theorem dX8_rivers_147 : decode cX8_rivers 147 = .ok (.iload_n 1, 1) := by decide +kernel
theorem dX8_rivers_148 : decode cX8_rivers 148 = .ok (.aload_n 0, 1) := by decide +kernel
theorem dX8_rivers_149 : decode cX8_rivers 149 = .ok (.getfield 80, 3) := by decide +kernel
theorem dX8_rivers_152 : decode cX8_rivers 152 = .ok (.iload_n 1, 1) := by decide +kernel
theorem dX8_rivers_153 : decode cX8_rivers 153 = .ok (.baload, 1) := by decide +kernel
theorem dX8_rivers_154 : decode cX8_rivers 154 = .ok (.ifCond .eq 33, 3) := by decide +kernel
theorem dX8_rivers_157 : decode cX8_rivers 157 = .ok (.aload_n 0, 1) := by decide +kernel
theorem dX8_rivers_158 : decode cX8_rivers 158 = .ok (.getfield 68, 3) := by decide +kernel
theorem dX8_rivers_161 : decode cX8_rivers 161 = .ok (.iload_n 2, 1) := by decide +kernel
theorem dX8_rivers_162 : decode cX8_rivers 162 = .ok (.iaload, 1) := by decide +kernel
theorem dX8_rivers_163 : decode cX8_rivers 163 = .ok (.aload_n 0, 1) := by decide +kernel
theorem dX8_rivers_164 : decode cX8_rivers 164 = .ok (.getfield 68, 3) := by decide +kernel
theorem dX8_rivers_167 : decode cX8_rivers 167 = .ok (.iload_n 1, 1) := by decide +kernel
theorem dX8_rivers_168 : decode cX8_rivers 168 = .ok (.iaload, 1) := by decide +kernel
theorem dX8_rivers_169 : decode cX8_rivers 169 = .ok (.iconst 1, 1) := by decide +kernel
theorem dX8_rivers_170 : decode cX8_rivers 170 = .ok (.isub, 1) := by decide +kernel
theorem dX8_rivers_171 : decode cX8_rivers 171 = .ok (.if_icmp .ne 12, 3) := by decide +kernel
theorem dX8_rivers_174 : decode cX8_rivers 174 = .ok (.aload_n 0, 1) := by decide +kernel
theorem dX8_rivers_175 : decode cX8_rivers 175 = .ok (.iload_n 1, 1) := by decide +kernel
theorem dX8_rivers_176 : decode cX8_rivers 176 = .ok (.iload_n 2, 1) := by decide +kernel
theorem dX8_rivers_177 : decode cX8_rivers 177 = .ok (.invokevirtual 204, 3) := by decide +kernel
theorem dX8_rivers_180 : decode cX8_rivers 180 = .ok (.ifCond .ne 7, 3) := by decide +kernel
theorem dX8_rivers_183 : decode cX8_rivers 183 = .ok (.iconst 1, 1) := by decide +kernel
theorem dX8_rivers_184 : decode cX8_rivers 184 = .ok (.goto 4, 3) := by decide +kernel
theorem dX8_rivers_187 : decode cX8_rivers 187 = .ok (.iconst 0, 1) := by decide +kernel
theorem dX8_rivers_188 : decode cX8_rivers 188 = .ok (.bastore, 1) := by decide +kernel
theorem dX8_rivers_189 : decode cX8_rivers 189 = .ok (.iinc 2 1, 3) := by decide +kernel
theorem dX8_rivers_192 : decode cX8_rivers 192 = .ok (.goto (-54), 3) := by decide +kernel
theorem dX8_rivers_195 : decode cX8_rivers 195 = .ok (.iinc 1 1, 3) := by decide +kernel
theorem dX8_rivers_198 : decode cX8_rivers 198 = .ok (.goto (-91), 3) := by decide +kernel
theorem dX8_rivers_201 : decode cX8_rivers 201 = .ok (.return_, 1) := by decide +kernel
theorem dX8_rough_0 : decode cX8_rough 0 = .ok (.iconst 0, 1) := by decide +kernel
theorem dX8_rough_1 : decode cX8_rough 1 = .ok (.istore_n 1, 1) := by decide +kernel
theorem dX8_rough_2 : decode cX8_rough 2 = .ok (.iconst 0, 1) := by decide +kernel
theorem dX8_rough_3 : decode cX8_rough 3 = .ok (.istore_n 2, 1) := by decide +kernel
theorem dX8_rough_4 : decode cX8_rough 4 = .ok (.iload_n 2, 1) := by decide +kernel
theorem dX8_rough_5 : decode cX8_rough 5 = .ok (.aload_n 0, 1) := by decide +kernel
theorem dX8_rough_6 : decode cX8_rough 6 = .ok (.getfield 183, 3) := by decide +kernel
theorem dX8_rough_9 : decode cX8_rough 9 = .ok (.iconst 1, 1) := by decide +kernel
theorem dX8_rough_10 : decode cX8_rough 10 = .ok (.isub, 1) := by decide +kernel
theorem dX8_rough_11 : decode cX8_rough 11 = .ok (.if_icmp .ge 47, 3) := by decide +kernel
theorem dX8_rough_14 : decode cX8_rough 14 = .ok (.aload_n 0, 1) := by decide +kernel
theorem dX8_rough_15 : decode cX8_rough 15 = .ok (.iload_n 2, 1) := by decide +kernel
theorem dX8_rough_16 : decode cX8_rough 16 = .ok (.invokevirtual 207, 3) := by decide +kernel
theorem dX8_rough_19 : decode cX8_rough 19 = .ok (.aload_n 0, 1) := by decide +kernel
theorem dX8_rough_20 : decode cX8_rough 20 = .ok (.getfield 32, 3) := by decide +kernel
theorem dX8_rough_23 : decode cX8_rough 23 = .ok (.bipush 35, 2) := by decide +kernel
theorem dX8_rough_25 : decode cX8_rough 25 = .ok (.iaload, 1) := by decide +kernel
theorem dX8_rough_26 : decode cX8_rough 26 = .ok (.isub, 1) := by decide +kernel
theorem dX8_rough_27 : decode cX8_rough 27 = .ok (.aload_n 0, 1) := by decide +kernel
theorem dX8_rough_28 : decode cX8_rough 28 = .ok (.aload_n 0, 1) := by decide +kernel
theorem dX8_rough_29 : decode cX8_rough 29 = .ok (.getfield 65, 3) := by decide +kernel
theorem dX8_rough_32 : decode cX8_rough 32 = .ok (.iload_n 2, 1) := by decide +kernel
theorem dX8_rough_33 : decode cX8_rough 33 = .ok (.iaload, 1) := by decide +kernel
theorem dX8_rough_34 : decode cX8_rough 34 = .ok (.invokevirtual 163, 3) := by decide +kernel
theorem dX8_rough_37 : decode cX8_rough 37 = .ok (.isub, 1) := by decide +kernel
theorem dX8_rough_38 : decode cX8_rough 38 = .ok (.istore_n 3, 1) := by decide +kernel
theorem dX8_rough_39 : decode cX8_rough 39 = .ok (.iload_n 1, 1) := by decide +kernel
theorem dX8_rough_40 : decode cX8_rough 40 = .ok (.iload_n 3, 1) := by decide +kernel
theorem dX8_rough_41 : decode cX8_rough 41 = .ok (.ifCond .ge 8, 3) := by decide +kernel
theorem dX8_rough_44 : decode cX8_rough 44 = .ok (.iload_n 3, 1) := by decide +kernel
theorem dX8_rough_45 : decode cX8_rough 45 = .ok (.ineg, 1) := by decide +kernel
theorem dX8_rough_46 : decode cX8_rough 46 = .ok (.goto 4, 3) := by decide +kernel
theorem dX8_rough_49 : decode cX8_rough 49 = .ok (.iload_n 3, 1) := by decide +kernel
theorem dX8_rough_50 : decode cX8_rough 50 = .ok (.iadd, 1) := by decide +kernel
theorem dX8_rough_51 : decode cX8_rough 51 = .ok (.istore_n 1, 1) := by decide +kernel
theorem dX8_rough_52 : decode cX8_rough 52 = .ok (.iinc 2 1, 3) := by decide +kernel
theorem dX8_rough_55 : decode cX8_rough 55 = .ok (.goto (-51), 3) := by decide +kernel
theorem dX8_rough_58 : decode cX8_rough 58 = .ok (.iload_n 1, 1) := by decide +kernel
theorem dX8_rough_59 : decode cX8_rough 59 = .ok (.ireturn, 1) := by decide +kernel
theorem dX8_page_0 : decode cX8_page 0 = .ok (.iload_n 1, 1) := by decide +kernel
theorem dX8_page_1 : decode cX8_page 1 = .ok (.iconst 0, 1) := by decide +kernel
theorem dX8_page_2 : decode cX8_page 2 = .ok (.iconst 5, 1) := by decide +kernel
theorem dX8_page_3 : decode cX8_page 3 = .ok (.invokestatic 99, 3) := by decide +kernel
theorem dX8_page_6 : decode cX8_page 6 = .ok (.ifCond .ne 5, 3) := by decide +kernel
theorem dX8_page_9 : decode cX8_page 9 = .ok (.iconst (-1), 1) := by decide +kernel
theorem dX8_page_10 : decode cX8_page 10 = .ok (.ireturn, 1) := by decide +kernel
theorem dX8_page_11 : decode cX8_page 11 = .ok (.aload_n 0, 1) := by decide +kernel
theorem dX8_page_12 : decode cX8_page 12 = .ok (.aload_n 0, 1) := by decide +kernel
theorem dX8_page_13 : decode cX8_page 13 = .ok (.getfield 32, 3) := by decide +kernel
theorem dX8_page_16 : decode cX8_page 16 = .ok (.bipush 35, 2) := by decide +kernel
theorem dX8_page_18 : decode cX8_page 18 = .ok (.iaload, 1) := by decide +kernel
theorem dX8_page_19 : decode cX8_page 19 = .ok (.invokevirtual 210, 3) := by decide +kernel
theorem dX8_page_22 : decode cX8_page 22 = .ok (.ifCond .ne 6, 3) := by decide +kernel
theorem dX8_page_25 : decode cX8_page 25 = .ok (.bipush (-9), 2) := by decide +kernel
theorem dX8_page_27 : decode cX8_page 27 = .ok (.ireturn, 1) := by decide +kernel
theorem dX8_page_28 : decode cX8_page 28 = .ok (.iload_n 1, 1) := by decide +kernel
theorem dX8_page_29 : decode cX8_page 29 = .ok (.iconst 2, 1) := by decide +kernel
theorem dX8_page_30 : decode cX8_page 30 = .ok (.if_icmp .ge 21, 3) := by decide +kernel
theorem dX8_page_33 : decode cX8_page 33 = .ok (.iload_n 1, 1) := by decide +kernel
theorem dX8_page_34 : decode cX8_page 34 = .ok (.ifCond .ne 12, 3) := by decide +kernel
theorem dX8_page_37 : decode cX8_page 37 = .ok (.aload_n 0, 1) := by decide +kernel
theorem dX8_page_38 : decode cX8_page 38 = .ok (.getfield 56, 3) := by decide +kernel
theorem dX8_page_41 : decode cX8_page 41 = .ok (.iconst 0, 1) := by decide +kernel
theorem dX8_page_42 : decode cX8_page 42 = .ok (.iaload, 1) := by decide +kernel
theorem dX8_page_43 : decode cX8_page 43 = .ok (.goto 7, 3) := by decide +kernel
theorem dX8_page_46 : decode cX8_page 46 = .ok (.aload_n 0, 1) := by decide +kernel
theorem dX8_page_47 : decode cX8_page 47 = .ok (.getfield 183, 3) := by decide +kernel
theorem dX8_page_50 : decode cX8_page 50 = .ok (.ireturn, 1) := by decide +kernel
theorem dX8_page_51 : decode cX8_page 51 = .ok (.iload_n 1, 1) := by decide +kernel
theorem dX8_page_52 : decode cX8_page 52 = .ok (.iconst 3, 1) := by decide +kernel
theorem dX8_page_53 : decode cX8_page 53 = .ok (.if_icmp .ne 8, 3) := by decide +kernel
theorem dX8_page_56 : decode cX8_page 56 = .ok (.aload_n 0, 1) := by decide +kernel
theorem dX8_page_57 : decode cX8_page 57 = .ok (.invokevirtual 213, 3) := by decide +kernel
theorem dX8_page_60 : decode cX8_page 60 = .ok (.ireturn, 1) := by decide +kernel
theorem dX8_page_61 : decode cX8_page 61 = .ok (.aload_n 0, 1) := by decide +kernel
theorem dX8_page_62 : decode cX8_page 62 = .ok (.invokevirtual 216, 3) := by decide +kernel
theorem dX8_page_65 : decode cX8_page 65 = .ok (.iconst 0, 1) := by decide +kernel
theorem dX8_page_66 : decode cX8_page 66 = .ok (.istore_n 2, 1) := by decide +kernel
theorem dX8_page_67 : decode cX8_page 67 = .ok (.iconst 0, 1) := by decide +kernel
theorem dX8_page_68 : decode cX8_page 68 = .ok (.istore_n 3, 1) := by decide +kernel
theorem dX8_page_69 : decode cX8_page 69 = .ok (.iload_n 3, 1) := by decide +kernel
theorem dX8_page_70 : decode cX8_page 70 = .ok (.aload_n 0, 1) := by decide +kernel
theorem dX8_page_71 : decode cX8_page 71 = .ok (.getfield 183, 3) := by decide +kernel
theorem dX8_page_74 : decode cX8_page 74 = .ok (.if_icmp .ge 31, 3) := by decide +kernel
theorem dX8_page_77 : decode cX8_page 77 = .ok (.iload_n 2, 1) := by decide +kernel
theorem dX8_page_78 : decode cX8_page 78 = .ok (.aload_n 0, 1) := by decide +kernel
theorem dX8_page_79 : decode cX8_page 79 = .ok (.getfield 28, 3) := by decide +kernel
theorem dX8_page_82 : decode cX8_page 82 = .ok (.aload_n 0, 1) := by decide +kernel
theorem dX8_page_83 : decode cX8_page 83 = .ok (.getfield 65, 3) := by decide +kernel
theorem dX8_page_86 : decode cX8_page 86 = .ok (.iload_n 3, 1) := by decide +kernel
theorem dX8_page_87 : decode cX8_page 87 = .ok (.iaload, 1) := by decide +kernel
theorem dX8_page_88 : decode cX8_page 88 = .ok (.baload, 1) := by decide +kernel
theorem dX8_page_89 : decode cX8_page 89 = .ok (.ifCond .eq 7, 3) := by decide +kernel
theorem dX8_page_92 : decode cX8_page 92 = .ok (.iconst 1, 1) := by decide +kernel
theorem dX8_page_93 : decode cX8_page 93 = .ok (.goto 4, 3) := by decide +kernel
theorem dX8_page_96 : decode cX8_page 96 = .ok (.iconst 0, 1) := by decide +kernel
theorem dX8_page_97 : decode cX8_page 97 = .ok (.iadd, 1) := by decide +kernel
theorem dX8_page_98 : decode cX8_page 98 = .ok (.istore_n 2, 1) := by decide +kernel
theorem dX8_page_99 : decode cX8_page 99 = .ok (.iinc 3 1, 3) := by decide +kernel
theorem dX8_page_102 : decode cX8_page 102 = .ok (.goto (-33), 3) := by decide +kernel
theorem dX8_page_105 : decode cX8_page 105 = .ok (.iconst 0, 1) := by decide +kernel
theorem dX8_page_106 : decode cX8_page 106 = .ok (.istore_n 3, 1) := by decide +kernel
theorem dX8_page_107 : decode cX8_page 107 = .ok (.iconst 0, 1) := by decide +kernel
theorem dX8_page_108 : decode cX8_page 108 = .ok (.istore 4, 2) := by decide +kernel
theorem dX8_page_110 : decode cX8_page 110 = .ok (.iconst 0, 1) := by decide +kernel
theorem dX8_page_111 : decode cX8_page 111 = .ok (.istore 5, 2) := by decide +kernel
theorem dX8_page_113 : decode cX8_page 113 = .ok (.iload 5, 2) := by decide +kernel
theorem dX8_page_115 : decode cX8_page 115 = .ok (.aload_n 0, 1) := by decide +kernel
theorem dX8_page_116 : decode cX8_page 116 = .ok (.getfield 198, 3) := by decide +kernel
theorem dX8_page_119 : decode cX8_page 119 = .ok (.if_icmp .ge 53, 3) := by decide +kernel
theorem dX8_page_122 : decode cX8_page 122 = .ok (.iload_n 3, 1) := by decide +kernel
theorem dX8_page_123 : decode cX8_page 123 = .ok (.aload_n 0, 1) := by decide +kernel
theorem dX8_page_124 : decode cX8_page 124 = .ok (.getfield 80, 3) := by decide +kernel
theorem dX8_page_127 : decode cX8_page 127 = .ok (.iload 5, 2) := by decide +kernel
theorem dX8_page_129 : decode cX8_page 129 = .ok (.baload, 1) := by decide +kernel
theorem dX8_page_130 : decode cX8_page 130 = .ok (.ifCond .eq 7, 3) := by decide +kernel
theorem dX8_page_133 : decode cX8_page 133 = .ok (.iconst 1, 1) := by decide +kernel
theorem dX8_page_134 : decode cX8_page 134 = .ok (.goto 4, 3) := by decide +kernel
theorem dX8_page_137 : decode cX8_page 137 = .ok (.iconst 0, 1) := by decide +kernel
theorem dX8_page_138 : decode cX8_page 138 = .ok (.iadd, 1) := by decide +kernel
theorem dX8_page_139 : decode cX8_page 139 = .ok (.istore_n 3, 1) := by decide +kernel
theorem dX8_page_140 : decode cX8_page 140 = .ok (.aload_n 0, 1) := by decide +kernel
theorem dX8_page_141 : decode cX8_page 141 = .ok (.getfield 77, 3) := by decide +kernel
theorem dX8_page_144 : decode cX8_page 144 = .ok (.iload 5, 2) := by decide +kernel
theorem dX8_page_146 : decode cX8_page 146 = .ok (.iaload, 1) := by decide +kernel
theorem dX8_page_147 : decode cX8_page 147 = .ok (.iload 4, 2) := by decide +kernel
theorem dX8_page_149 : decode cX8_page 149 = .ok (.if_icmp .le 13, 3) := by decide +kernel
theorem dX8_page_152 : decode cX8_page 152 = .ok (.aload_n 0, 1) := by decide +kernel
theorem dX8_page_153 : decode cX8_page 153 = .ok (.getfield 77, 3) := by decide +kernel
theorem dX8_page_156 : decode cX8_page 156 = .ok (.iload 5, 2) := by decide +kernel
theorem dX8_page_158 : decode cX8_page 158 = .ok (.iaload, 1) := by decide +kernel
theorem dX8_page_159 : decode cX8_page 159 = .ok (.goto 5, 3) := by decide +kernel
theorem dX8_page_162 : decode cX8_page 162 = .ok (.iload 4, 2) := by decide +kernel
theorem dX8_page_164 : decode cX8_page 164 = .ok (.istore 4, 2) := by decide +kernel
theorem dX8_page_166 : decode cX8_page 166 = .ok (.iinc 5 1, 3) := by decide +kernel
theorem dX8_page_169 : decode cX8_page 169 = .ok (.goto (-56), 3) := by decide +kernel
theorem dX8_page_172 : decode cX8_page 172 = .ok (.iload_n 1, 1) := by decide +kernel
theorem dX8_page_173 : decode cX8_page 173 = .ok (.iconst 2, 1) := by decide +kernel
theorem dX8_page_174 : decode cX8_page 174 = .ok (.if_icmp .ne 7, 3) := by decide +kernel
theorem dX8_page_177 : decode cX8_page 177 = .ok (.iload_n 2, 1) := by decide +kernel
theorem dX8_page_178 : decode cX8_page 178 = .ok (.goto 14, 3) := by decide +kernel
theorem dX8_page_181 : decode cX8_page 181 = .ok (.iload_n 1, 1) := by decide +kernel
theorem dX8_page_182 : decode cX8_page 182 = .ok (.iconst 4, 1) := by decide +kernel
theorem dX8_page_183 : decode cX8_page 183 = .ok (.if_icmp .ne 7, 3) := by decide +kernel
theorem dX8_page_186 : decode cX8_page 186 = .ok (.iload_n 3, 1) := by decide +kernel
theorem dX8_page_187 : decode cX8_page 187 = .ok (.goto 5, 3) := by decide +kernel
theorem dX8_page_190 : decode cX8_page 190 = .ok (.iload 4, 2) := by decide +kernel
theorem dX8_page_192 : decode cX8_page 192 = .ok (.ireturn, 1) := by decide +kernel
theorem dX8_line_0 : decode cX8_line 0 = .ok (.iload_n 1, 1) := by decide +kernel
theorem dX8_line_1 : decode cX8_line 1 = .ok (.ifCond .lt 13, 3) := by decide +kernel
theorem dX8_line_4 : decode cX8_line 4 = .ok (.iload_n 2, 1) := by decide +kernel
theorem dX8_line_5 : decode cX8_line 5 = .ok (.iconst 0, 1) := by decide +kernel
theorem dX8_line_6 : decode cX8_line 6 = .ok (.bipush 6, 2) := by decide +kernel
theorem dX8_line_8 : decode cX8_line 8 = .ok (.invokestatic 99, 3) := by decide +kernel
theorem dX8_line_11 : decode cX8_line 11 = .ok (.ifCond .ne 5, 3) := by decide +kernel
theorem dX8_line_14 : decode cX8_line 14 = .ok (.iconst (-1), 1) := by decide +kernel
theorem dX8_line_15 : decode cX8_line 15 = .ok (.ireturn, 1) := by decide +kernel
theorem dX8_line_16 : decode cX8_line 16 = .ok (.aload_n 0, 1) := by decide +kernel
theorem dX8_line_17 : decode cX8_line 17 = .ok (.aload_n 0, 1) := by decide +kernel
theorem dX8_line_18 : decode cX8_line 18 = .ok (.getfield 32, 3) := by decide +kernel
theorem dX8_line_21 : decode cX8_line 21 = .ok (.bipush 35, 2) := by decide +kernel
theorem dX8_line_23 : decode cX8_line 23 = .ok (.iaload, 1) := by decide +kernel
theorem dX8_line_24 : decode cX8_line 24 = .ok (.invokevirtual 210, 3) := by decide +kernel
theorem dX8_line_27 : decode cX8_line 27 = .ok (.ifCond .ne 6, 3) := by decide +kernel
theorem dX8_line_30 : decode cX8_line 30 = .ok (.bipush (-9), 2) := by decide +kernel
theorem dX8_line_32 : decode cX8_line 32 = .ok (.ireturn, 1) := by decide +kernel
theorem dX8_line_33 : decode cX8_line 33 = .ok (.iload_n 1, 1) := by decide +kernel
theorem dX8_line_34 : decode cX8_line 34 = .ok (.aload_n 0, 1) := by decide +kernel
theorem dX8_line_35 : decode cX8_line 35 = .ok (.getfield 183, 3) := by decide +kernel
theorem dX8_line_38 : decode cX8_line 38 = .ok (.if_icmp .lt 5, 3) := by decide +kernel
theorem dX8_line_41 : decode cX8_line 41 = .ok (.iconst (-1), 1) := by decide +kernel
theorem dX8_line_42 : decode cX8_line 42 = .ok (.ireturn, 1) := by decide +kernel
theorem dX8_line_43 : decode cX8_line 43 = .ok (.iload_n 2, 1) := by decide +kernel
theorem dX8_line_44 : decode cX8_line 44 = .ok (.tableswitch 107 0 5 #[40, 47, 63, 74, 80, 101], 40) := by decide +kernel
theorem dX8_line_84 : decode cX8_line 84 = .ok (.aload_n 0, 1) := by decide +kernel
theorem dX8_line_85 : decode cX8_line 85 = .ok (.getfield 65, 3) := by decide +kernel
theorem dX8_line_88 : decode cX8_line 88 = .ok (.iload_n 1, 1) := by decide +kernel
theorem dX8_line_89 : decode cX8_line 89 = .ok (.iaload, 1) := by decide +kernel
theorem dX8_line_90 : decode cX8_line 90 = .ok (.ireturn, 1) := by decide +kernel
theorem dX8_line_91 : decode cX8_line 91 = .ok (.aload_n 0, 1) := by decide +kernel
theorem dX8_line_92 : decode cX8_line 92 = .ok (.aload_n 0, 1) := by decide +kernel
theorem dX8_line_93 : decode cX8_line 93 = .ok (.iload_n 1, 1) := by decide +kernel
theorem dX8_line_94 : decode cX8_line 94 = .ok (.invokevirtual 186, 3) := by decide +kernel
theorem dX8_line_97 : decode cX8_line 97 = .ok (.aload_n 0, 1) := by decide +kernel
theorem dX8_line_98 : decode cX8_line 98 = .ok (.getfield 65, 3) := by decide +kernel
theorem dX8_line_101 : decode cX8_line 101 = .ok (.iload_n 1, 1) := by decide +kernel
theorem dX8_line_102 : decode cX8_line 102 = .ok (.iaload, 1) := by decide +kernel
theorem dX8_line_103 : decode cX8_line 103 = .ok (.invokevirtual 166, 3) := by decide +kernel
theorem dX8_line_106 : decode cX8_line 106 = .ok (.ireturn, 1) := by decide +kernel
theorem dX8_line_107 : decode cX8_line 107 = .ok (.aload_n 0, 1) := by decide +kernel
theorem dX8_line_108 : decode cX8_line 108 = .ok (.aload_n 0, 1) := by decide +kernel
theorem dX8_line_109 : decode cX8_line 109 = .ok (.getfield 65, 3) := by decide +kernel
theorem dX8_line_112 : decode cX8_line 112 = .ok (.iload_n 1, 1) := by decide +kernel
theorem dX8_line_113 : decode cX8_line 113 = .ok (.iaload, 1) := by decide +kernel
theorem dX8_line_114 : decode cX8_line 114 = .ok (.invokevirtual 163, 3) := by decide +kernel
theorem dX8_line_117 : decode cX8_line 117 = .ok (.ireturn, 1) := by decide +kernel
theorem dX8_line_118 : decode cX8_line 118 = .ok (.aload_n 0, 1) := by decide +kernel
theorem dX8_line_119 : decode cX8_line 119 = .ok (.iload_n 1, 1) := by decide +kernel
theorem dX8_line_120 : decode cX8_line 120 = .ok (.invokevirtual 195, 3) := by decide +kernel
theorem dX8_line_123 : decode cX8_line 123 = .ok (.ireturn, 1) := by decide +kernel
theorem dX8_line_124 : decode cX8_line 124 = .ok (.aload_n 0, 1) := by decide +kernel
theorem dX8_line_125 : decode cX8_line 125 = .ok (.aload_n 0, 1) := by decide +kernel
theorem dX8_line_126 : decode cX8_line 126 = .ok (.iload_n 1, 1) := by decide +kernel
theorem dX8_line_127 : decode cX8_line 127 = .ok (.invokevirtual 186, 3) := by decide +kernel
theorem dX8_line_130 : decode cX8_line 130 = .ok (.aload_n 0, 1) := by decide +kernel
theorem dX8_line_131 : decode cX8_line 131 = .ok (.getfield 65, 3) := by decide +kernel
theorem dX8_line_134 : decode cX8_line 134 = .ok (.iload_n 1, 1) := by decide +kernel
theorem dX8_line_135 : decode cX8_line 135 = .ok (.iaload, 1) := by decide +kernel
theorem dX8_line_136 : decode cX8_line 136 = .ok (.aload_n 0, 1) := by decide +kernel
theorem dX8_line_137 : decode cX8_line 137 = .ok (.iload_n 1, 1) := by decide +kernel
theorem dX8_line_138 : decode cX8_line 138 = .ok (.invokevirtual 195, 3) := by decide +kernel
theorem dX8_line_141 : decode cX8_line 141 = .ok (.invokevirtual 173, 3) := by decide +kernel
theorem dX8_line_144 : decode cX8_line 144 = .ok (.ireturn, 1) := by decide +kernel
theorem dX8_line_145 : decode cX8_line 145 = .ok (.aload_n 0, 1) := by decide +kernel
theorem dX8_line_146 : decode cX8_line 146 = .ok (.iload_n 1, 1) := by decide +kernel
theorem dX8_line_147 : decode cX8_line 147 = .ok (.invokevirtual 189, 3) := by decide +kernel
theorem dX8_line_150 : decode cX8_line 150 = .ok (.ireturn, 1) := by decide +kernel
theorem dX8_line_151 : decode cX8_line 151 = .ok (.aload_n 0, 1) := by decide +kernel
theorem dX8_line_152 : decode cX8_line 152 = .ok (.iload_n 1, 1) := by decide +kernel
theorem dX8_line_153 : decode cX8_line 153 = .ok (.invokevirtual 207, 3) := by decide +kernel
theorem dX8_line_156 : decode cX8_line 156 = .ok (.ireturn, 1) := by decide +kernel
theorem dX8_blank_0 : decode cX8_blank 0 = .ok (.iload_n 1, 1) := by decide +kernel
theorem dX8_blank_1 : decode cX8_blank 1 = .ok (.ifCond .lt 16, 3) := by decide +kernel
theorem dX8_blank_4 : decode cX8_blank 4 = .ok (.iload_n 2, 1) := by decide +kernel
theorem dX8_blank_5 : decode cX8_blank 5 = .ok (.ifCond .lt 12, 3) := by decide +kernel
theorem dX8_blank_8 : decode cX8_blank 8 = .ok (.iload_n 3, 1) := by decide +kernel
theorem dX8_blank_9 : decode cX8_blank 9 = .ok (.iconst 0, 1) := by decide +kernel
theorem dX8_blank_10 : decode cX8_blank 10 = .ok (.iconst 3, 1) := by decide +kernel
theorem dX8_blank_11 : decode cX8_blank 11 = .ok (.invokestatic 99, 3) := by decide +kernel
theorem dX8_blank_14 : decode cX8_blank 14 = .ok (.ifCond .ne 5, 3) := by decide +kernel
theorem dX8_blank_17 : decode cX8_blank 17 = .ok (.iconst (-1), 1) := by decide +kernel
theorem dX8_blank_18 : decode cX8_blank 18 = .ok (.ireturn, 1) := by decide +kernel
theorem dX8_blank_19 : decode cX8_blank 19 = .ok (.aload_n 0, 1) := by decide +kernel
theorem dX8_blank_20 : decode cX8_blank 20 = .ok (.aload_n 0, 1) := by decide +kernel
theorem dX8_blank_21 : decode cX8_blank 21 = .ok (.getfield 32, 3) := by decide +kernel
theorem dX8_blank_24 : decode cX8_blank 24 = .ok (.bipush 35, 2) := by decide +kernel
theorem dX8_blank_26 : decode cX8_blank 26 = .ok (.iaload, 1) := by decide +kernel
theorem dX8_blank_27 : decode cX8_blank 27 = .ok (.invokevirtual 210, 3) := by decide +kernel
theorem dX8_blank_30 : decode cX8_blank 30 = .ok (.ifCond .ne 6, 3) := by decide +kernel
theorem dX8_blank_33 : decode cX8_blank 33 = .ok (.bipush (-9), 2) := by decide +kernel
theorem dX8_blank_35 : decode cX8_blank 35 = .ok (.ireturn, 1) := by decide +kernel
theorem dX8_blank_36 : decode cX8_blank 36 = .ok (.iload_n 1, 1) := by decide +kernel
theorem dX8_blank_37 : decode cX8_blank 37 = .ok (.aload_n 0, 1) := by decide +kernel
theorem dX8_blank_38 : decode cX8_blank 38 = .ok (.getfield 183, 3) := by decide +kernel
theorem dX8_blank_41 : decode cX8_blank 41 = .ok (.if_icmp .lt 5, 3) := by decide +kernel
theorem dX8_blank_44 : decode cX8_blank 44 = .ok (.iconst (-1), 1) := by decide +kernel
theorem dX8_blank_45 : decode cX8_blank 45 = .ok (.ireturn, 1) := by decide +kernel
theorem dX8_blank_46 : decode cX8_blank 46 = .ok (.iload_n 2, 1) := by decide +kernel
theorem dX8_blank_47 : decode cX8_blank 47 = .ok (.aload_n 0, 1) := by decide +kernel
theorem dX8_blank_48 : decode cX8_blank 48 = .ok (.iload_n 1, 1) := by decide +kernel
theorem dX8_blank_49 : decode cX8_blank 49 = .ok (.invokevirtual 189, 3) := by decide +kernel
theorem dX8_blank_52 : decode cX8_blank 52 = .ok (.if_icmp .lt 6, 3) := by decide +kernel
theorem dX8_blank_55 : decode cX8_blank 55 = .ok (.bipush (-9), 2) := by decide +kernel
theorem dX8_blank_57 : decode cX8_blank 57 = .ok (.ireturn, 1) := by decide +kernel
theorem dX8_blank_58 : decode cX8_blank 58 = .ok (.aload_n 0, 1) := by decide +kernel
theorem dX8_blank_59 : decode cX8_blank 59 = .ok (.invokevirtual 216, 3) := by decide +kernel
theorem dX8_blank_62 : decode cX8_blank 62 = .ok (.iload_n 2, 1) := by decide +kernel
theorem dX8_blank_63 : decode cX8_blank 63 = .ok (.istore 4, 2) := by decide +kernel
theorem dX8_blank_65 : decode cX8_blank 65 = .ok (.aload_n 0, 1) := by decide +kernel
theorem dX8_blank_66 : decode cX8_blank 66 = .ok (.getfield 68, 3) := by decide +kernel
theorem dX8_blank_69 : decode cX8_blank 69 = .ok (.iload 4, 2) := by decide +kernel
theorem dX8_blank_71 : decode cX8_blank 71 = .ok (.iload_n 2, 1) := by decide +kernel
theorem dX8_blank_72 : decode cX8_blank 72 = .ok (.isub, 1) := by decide +kernel
theorem dX8_blank_73 : decode cX8_blank 73 = .ok (.iaload, 1) := by decide +kernel
theorem dX8_blank_74 : decode cX8_blank 74 = .ok (.iload_n 1, 1) := by decide +kernel
theorem dX8_blank_75 : decode cX8_blank 75 = .ok (.if_icmp .eq 9, 3) := by decide +kernel
theorem dX8_blank_78 : decode cX8_blank 78 = .ok (.iinc 4 1, 3) := by decide +kernel
theorem dX8_blank_81 : decode cX8_blank 81 = .ok (.goto (-16), 3) := by decide +kernel
theorem dX8_blank_84 : decode cX8_blank 84 = .ok (.iload_n 3, 1) := by decide +kernel
theorem dX8_blank_85 : decode cX8_blank 85 = .ok (.ifCond .ne 13, 3) := by decide +kernel
theorem dX8_blank_88 : decode cX8_blank 88 = .ok (.aload_n 0, 1) := by decide +kernel
theorem dX8_blank_89 : decode cX8_blank 89 = .ok (.getfield 71, 3) := by decide +kernel
theorem dX8_blank_92 : decode cX8_blank 92 = .ok (.iload 4, 2) := by decide +kernel
theorem dX8_blank_94 : decode cX8_blank 94 = .ok (.iaload, 1) := by decide +kernel
theorem dX8_blank_95 : decode cX8_blank 95 = .ok (.goto 48, 3) := by decide +kernel
theorem dX8_blank_98 : decode cX8_blank 98 = .ok (.iload_n 3, 1) := by decide +kernel
theorem dX8_blank_99 : decode cX8_blank 99 = .ok (.iconst 1, 1) := by decide +kernel
theorem dX8_blank_100 : decode cX8_blank 100 = .ok (.if_icmp .ne 13, 3) := by decide +kernel
theorem dX8_blank_103 : decode cX8_blank 103 = .ok (.aload_n 0, 1) := by decide +kernel
theorem dX8_blank_104 : decode cX8_blank 104 = .ok (.getfield 74, 3) := by decide +kernel
theorem dX8_blank_107 : decode cX8_blank 107 = .ok (.iload 4, 2) := by decide +kernel
theorem dX8_blank_109 : decode cX8_blank 109 = .ok (.iaload, 1) := by decide +kernel
theorem dX8_blank_110 : decode cX8_blank 110 = .ok (.goto 33, 3) := by decide +kernel
theorem dX8_blank_113 : decode cX8_blank 113 = .ok (.iload_n 3, 1) := by decide +kernel
theorem dX8_blank_114 : decode cX8_blank 114 = .ok (.iconst 2, 1) := by decide +kernel
theorem dX8_blank_115 : decode cX8_blank 115 = .ok (.if_icmp .ne 13, 3) := by decide +kernel
theorem dX8_blank_118 : decode cX8_blank 118 = .ok (.aload_n 0, 1) := by decide +kernel
theorem dX8_blank_119 : decode cX8_blank 119 = .ok (.getfield 77, 3) := by decide +kernel
theorem dX8_blank_122 : decode cX8_blank 122 = .ok (.iload 4, 2) := by decide +kernel
theorem dX8_blank_124 : decode cX8_blank 124 = .ok (.iaload, 1) := by decide +kernel
theorem dX8_blank_125 : decode cX8_blank 125 = .ok (.goto 18, 3) := by decide +kernel
theorem dX8_blank_128 : decode cX8_blank 128 = .ok (.aload_n 0, 1) := by decide +kernel
theorem dX8_blank_129 : decode cX8_blank 129 = .ok (.getfield 80, 3) := by decide +kernel
theorem dX8_blank_132 : decode cX8_blank 132 = .ok (.iload 4, 2) := by decide +kernel
theorem dX8_blank_134 : decode cX8_blank 134 = .ok (.baload, 1) := by decide +kernel
theorem dX8_blank_135 : decode cX8_blank 135 = .ok (.ifCond .eq 7, 3) := by decide +kernel
theorem dX8_blank_138 : decode cX8_blank 138 = .ok (.iconst 1, 1) := by decide +kernel
theorem dX8_blank_139 : decode cX8_blank 139 = .ok (.goto 4, 3) := by decide +kernel
theorem dX8_blank_142 : decode cX8_blank 142 = .ok (.iconst 0, 1) := by decide +kernel
theorem dX8_blank_143 : decode cX8_blank 143 = .ok (.ireturn, 1) := by decide +kernel
theorem dX8_leftOf_0 : decode cX8_leftOf 0 = .ok (.aload_n 0, 1) := by decide +kernel
theorem dX8_leftOf_1 : decode cX8_leftOf 1 = .ok (.iload_n 2, 1) := by decide +kernel
theorem dX8_leftOf_2 : decode cX8_leftOf 2 = .ok (.invokevirtual 144, 3) := by decide +kernel
theorem dX8_leftOf_5 : decode cX8_leftOf 5 = .ok (.ifCond .eq 14, 3) := by decide +kernel
theorem dX8_leftOf_8 : decode cX8_leftOf 8 = .ok (.iload_n 1, 1) := by decide +kernel
theorem dX8_leftOf_9 : decode cX8_leftOf 9 = .ok (.iconst (-1), 1) := by decide +kernel
theorem dX8_leftOf_10 : decode cX8_leftOf 10 = .ok (.iload_n 2, 1) := by decide +kernel
theorem dX8_leftOf_11 : decode cX8_leftOf 11 = .ok (.iconst 1, 1) := by decide +kernel
theorem dX8_leftOf_12 : decode cX8_leftOf 12 = .ok (.isub, 1) := by decide +kernel
theorem dX8_leftOf_13 : decode cX8_leftOf 13 = .ok (.invokestatic 99, 3) := by decide +kernel
theorem dX8_leftOf_16 : decode cX8_leftOf 16 = .ok (.ifCond .ne 6, 3) := by decide +kernel
theorem dX8_leftOf_19 : decode cX8_leftOf 19 = .ok (.ldc 219, 2) := by decide +kernel
theorem dX8_leftOf_21 : decode cX8_leftOf 21 = .ok (.ireturn, 1) := by decide +kernel
theorem dX8_leftOf_22 : decode cX8_leftOf 22 = .ok (.aload_n 0, 1) := by decide +kernel
theorem dX8_leftOf_23 : decode cX8_leftOf 23 = .ok (.invokevirtual 176, 3) := by decide +kernel
theorem dX8_leftOf_26 : decode cX8_leftOf 26 = .ok (.aload_n 0, 1) := by decide +kernel
theorem dX8_leftOf_27 : decode cX8_leftOf 27 = .ok (.iload_n 1, 1) := by decide +kernel
theorem dX8_leftOf_28 : decode cX8_leftOf 28 = .ok (.iload_n 2, 1) := by decide +kernel
theorem dX8_leftOf_29 : decode cX8_leftOf 29 = .ok (.aload_n 0, 1) := by decide +kernel
theorem dX8_leftOf_30 : decode cX8_leftOf 30 = .ok (.getfield 32, 3) := by decide +kernel
theorem dX8_leftOf_33 : decode cX8_leftOf 33 = .ok (.bipush 35, 2) := by decide +kernel
theorem dX8_leftOf_35 : decode cX8_leftOf 35 = .ok (.iaload, 1) := by decide +kernel
theorem dX8_leftOf_36 : decode cX8_leftOf 36 = .ok (.invokevirtual 169, 3) := by decide +kernel
theorem dX8_leftOf_39 : decode cX8_leftOf 39 = .ok (.ireturn, 1) := by decide +kernel
theorem dX8_puts_0 : decode cX8_puts 0 = .ok (.aload_n 0, 1) := by decide +kernel
theorem dX8_puts_1 : decode cX8_puts 1 = .ok (.iload_n 1, 1) := by decide +kernel
theorem dX8_puts_2 : decode cX8_puts 2 = .ok (.invokevirtual 144, 3) := by decide +kernel
theorem dX8_puts_5 : decode cX8_puts 5 = .ok (.ifCond .eq 25, 3) := by decide +kernel
theorem dX8_puts_8 : decode cX8_puts 8 = .ok (.aload_n 0, 1) := by decide +kernel
theorem dX8_puts_9 : decode cX8_puts 9 = .ok (.getfield 93, 3) := by decide +kernel
theorem dX8_puts_12 : decode cX8_puts 12 = .ok (.ifCond .le 20, 3) := by decide +kernel
theorem dX8_puts_15 : decode cX8_puts 15 = .ok (.iload_n 1, 1) := by decide +kernel
theorem dX8_puts_16 : decode cX8_puts 16 = .ok (.aload_n 0, 1) := by decide +kernel
theorem dX8_puts_17 : decode cX8_puts 17 = .ok (.getfield 44, 3) := by decide +kernel
theorem dX8_puts_20 : decode cX8_puts 20 = .ok (.aload_n 0, 1) := by decide +kernel
theorem dX8_puts_21 : decode cX8_puts 21 = .ok (.getfield 93, 3) := by decide +kernel
theorem dX8_puts_24 : decode cX8_puts 24 = .ok (.iconst 1, 1) := by decide +kernel
theorem dX8_puts_25 : decode cX8_puts 25 = .ok (.isub, 1) := by decide +kernel
theorem dX8_puts_26 : decode cX8_puts 26 = .ok (.iaload, 1) := by decide +kernel
theorem dX8_puts_27 : decode cX8_puts 27 = .ok (.if_icmp .gt 5, 3) := by decide +kernel
theorem dX8_puts_30 : decode cX8_puts 30 = .ok (.iconst (-1), 1) := by decide +kernel
theorem dX8_puts_31 : decode cX8_puts 31 = .ok (.ireturn, 1) := by decide +kernel
theorem dX8_puts_32 : decode cX8_puts 32 = .ok (.aload_n 0, 1) := by decide +kernel
theorem dX8_puts_33 : decode cX8_puts 33 = .ok (.getfield 44, 3) := by decide +kernel
theorem dX8_puts_36 : decode cX8_puts 36 = .ok (.aload_n 0, 1) := by decide +kernel
theorem dX8_puts_37 : decode cX8_puts 37 = .ok (.getfield 93, 3) := by decide +kernel
theorem dX8_puts_40 : decode cX8_puts 40 = .ok (.iload_n 1, 1) := by decide +kernel
theorem dX8_puts_41 : decode cX8_puts 41 = .ok (.iastore, 1) := by decide +kernel
theorem dX8_puts_42 : decode cX8_puts 42 = .ok (.aload_n 0, 1) := by decide +kernel
theorem dX8_puts_43 : decode cX8_puts 43 = .ok (.dup, 1) := by decide +kernel
theorem dX8_puts_44 : decode cX8_puts 44 = .ok (.getfield 93, 3) := by decide +kernel
theorem dX8_puts_47 : decode cX8_puts 47 = .ok (.iconst 1, 1) := by decide +kernel
theorem dX8_puts_48 : decode cX8_puts 48 = .ok (.iadd, 1) := by decide +kernel
theorem dX8_puts_49 : decode cX8_puts 49 = .ok (.putfield 93, 3) := by decide +kernel
theorem dX8_puts_52 : decode cX8_puts 52 = .ok (.aload_n 0, 1) := by decide +kernel
theorem dX8_puts_53 : decode cX8_puts 53 = .ok (.getfield 93, 3) := by decide +kernel
theorem dX8_puts_56 : decode cX8_puts 56 = .ok (.ireturn, 1) := by decide +kernel
theorem dX8_takes_0 : decode cX8_takes 0 = .ok (.aload_n 0, 1) := by decide +kernel
theorem dX8_takes_1 : decode cX8_takes 1 = .ok (.getfield 93, 3) := by decide +kernel
theorem dX8_takes_4 : decode cX8_takes 4 = .ok (.ifCond .ne 6, 3) := by decide +kernel
theorem dX8_takes_7 : decode cX8_takes 7 = .ok (.bipush (-2), 2) := by decide +kernel
theorem dX8_takes_9 : decode cX8_takes 9 = .ok (.ireturn, 1) := by decide +kernel
theorem dX8_takes_10 : decode cX8_takes 10 = .ok (.aload_n 0, 1) := by decide +kernel
theorem dX8_takes_11 : decode cX8_takes 11 = .ok (.dup, 1) := by decide +kernel
theorem dX8_takes_12 : decode cX8_takes 12 = .ok (.getfield 93, 3) := by decide +kernel
theorem dX8_takes_15 : decode cX8_takes 15 = .ok (.iconst 1, 1) := by decide +kernel
theorem dX8_takes_16 : decode cX8_takes 16 = .ok (.isub, 1) := by decide +kernel
theorem dX8_takes_17 : decode cX8_takes 17 = .ok (.putfield 93, 3) := by decide +kernel
theorem dX8_takes_20 : decode cX8_takes 20 = .ok (.aload_n 0, 1) := by decide +kernel
theorem dX8_takes_21 : decode cX8_takes 21 = .ok (.getfield 44, 3) := by decide +kernel
theorem dX8_takes_24 : decode cX8_takes 24 = .ok (.aload_n 0, 1) := by decide +kernel
theorem dX8_takes_25 : decode cX8_takes 25 = .ok (.getfield 93, 3) := by decide +kernel
theorem dX8_takes_28 : decode cX8_takes 28 = .ok (.iaload, 1) := by decide +kernel
theorem dX8_takes_29 : decode cX8_takes 29 = .ok (.ireturn, 1) := by decide +kernel
theorem dX8_judged_0 : decode cX8_judged 0 = .ok (.iload_n 1, 1) := by decide +kernel
theorem dX8_judged_1 : decode cX8_judged 1 = .ok (.iconst 0, 1) := by decide +kernel
theorem dX8_judged_2 : decode cX8_judged 2 = .ok (.iconst 2, 1) := by decide +kernel
theorem dX8_judged_3 : decode cX8_judged 3 = .ok (.invokestatic 99, 3) := by decide +kernel
theorem dX8_judged_6 : decode cX8_judged 6 = .ok (.ifCond .ne 5, 3) := by decide +kernel
theorem dX8_judged_9 : decode cX8_judged 9 = .ok (.iconst (-1), 1) := by decide +kernel
theorem dX8_judged_10 : decode cX8_judged 10 = .ok (.ireturn, 1) := by decide +kernel
theorem dX8_judged_11 : decode cX8_judged 11 = .ok (.aload_n 0, 1) := by decide +kernel
theorem dX8_judged_12 : decode cX8_judged 12 = .ok (.invokevirtual 176, 3) := by decide +kernel
theorem dX8_judged_15 : decode cX8_judged 15 = .ok (.iconst 0, 1) := by decide +kernel
theorem dX8_judged_16 : decode cX8_judged 16 = .ok (.istore_n 2, 1) := by decide +kernel
theorem dX8_judged_17 : decode cX8_judged 17 = .ok (.iconst (-1), 1) := by decide +kernel
theorem dX8_judged_18 : decode cX8_judged 18 = .ok (.istore_n 3, 1) := by decide +kernel
theorem dX8_judged_19 : decode cX8_judged 19 = .ok (.iconst 0, 1) := by decide +kernel
theorem dX8_judged_20 : decode cX8_judged 20 = .ok (.istore 4, 2) := by decide +kernel
theorem dX8_judged_22 : decode cX8_judged 22 = .ok (.iload 4, 2) := by decide +kernel
theorem dX8_judged_24 : decode cX8_judged 24 = .ok (.aload_n 0, 1) := by decide +kernel
theorem dX8_judged_25 : decode cX8_judged 25 = .ok (.getfield 93, 3) := by decide +kernel
theorem dX8_judged_28 : decode cX8_judged 28 = .ok (.if_icmp .ge 81, 3) := by decide +kernel
theorem dX8_judged_31 : decode cX8_judged 31 = .ok (.aload_n 0, 1) := by decide +kernel
theorem dX8_judged_32 : decode cX8_judged 32 = .ok (.iload_n 3, 1) := by decide +kernel
theorem dX8_judged_33 : decode cX8_judged 33 = .ok (.aload_n 0, 1) := by decide +kernel
theorem dX8_judged_34 : decode cX8_judged 34 = .ok (.getfield 44, 3) := by decide +kernel
theorem dX8_judged_37 : decode cX8_judged 37 = .ok (.iload 4, 2) := by decide +kernel
theorem dX8_judged_39 : decode cX8_judged 39 = .ok (.iaload, 1) := by decide +kernel
theorem dX8_judged_40 : decode cX8_judged 40 = .ok (.aload_n 0, 1) := by decide +kernel
theorem dX8_judged_41 : decode cX8_judged 41 = .ok (.getfield 32, 3) := by decide +kernel
theorem dX8_judged_44 : decode cX8_judged 44 = .ok (.bipush 35, 2) := by decide +kernel
theorem dX8_judged_46 : decode cX8_judged 46 = .ok (.iaload, 1) := by decide +kernel
theorem dX8_judged_47 : decode cX8_judged 47 = .ok (.invokevirtual 169, 3) := by decide +kernel
theorem dX8_judged_50 : decode cX8_judged 50 = .ok (.istore 5, 2) := by decide +kernel
theorem dX8_judged_52 : decode cX8_judged 52 = .ok (.iload 5, 2) := by decide +kernel
theorem dX8_judged_54 : decode cX8_judged 54 = .ok (.ifCond .ge 24, 3) := by decide +kernel
theorem dX8_judged_57 : decode cX8_judged 57 = .ok (.iload_n 1, 1) := by decide +kernel
theorem dX8_judged_58 : decode cX8_judged 58 = .ok (.ifCond .ne 7, 3) := by decide +kernel
theorem dX8_judged_61 : decode cX8_judged 61 = .ok (.iconst 1, 1) := by decide +kernel
theorem dX8_judged_62 : decode cX8_judged 62 = .ok (.goto 15, 3) := by decide +kernel
theorem dX8_judged_65 : decode cX8_judged 65 = .ok (.iload_n 1, 1) := by decide +kernel
theorem dX8_judged_66 : decode cX8_judged 66 = .ok (.iconst 1, 1) := by decide +kernel
theorem dX8_judged_67 : decode cX8_judged 67 = .ok (.if_icmp .ne 8, 3) := by decide +kernel
theorem dX8_judged_70 : decode cX8_judged 70 = .ok (.iload 4, 2) := by decide +kernel
theorem dX8_judged_72 : decode cX8_judged 72 = .ok (.goto 5, 3) := by decide +kernel
theorem dX8_judged_75 : decode cX8_judged 75 = .ok (.bipush (-9), 2) := by decide +kernel
theorem dX8_judged_77 : decode cX8_judged 77 = .ok (.ireturn, 1) := by decide +kernel
theorem dX8_judged_78 : decode cX8_judged 78 = .ok (.iload_n 2, 1) := by decide +kernel
theorem dX8_judged_79 : decode cX8_judged 79 = .ok (.aload_n 0, 1) := by decide +kernel
theorem dX8_judged_80 : decode cX8_judged 80 = .ok (.iload_n 3, 1) := by decide +kernel
theorem dX8_judged_81 : decode cX8_judged 81 = .ok (.aload_n 0, 1) := by decide +kernel
theorem dX8_judged_82 : decode cX8_judged 82 = .ok (.getfield 44, 3) := by decide +kernel
theorem dX8_judged_85 : decode cX8_judged 85 = .ok (.iload 4, 2) := by decide +kernel
theorem dX8_judged_87 : decode cX8_judged 87 = .ok (.iaload, 1) := by decide +kernel
theorem dX8_judged_88 : decode cX8_judged 88 = .ok (.iload 5, 2) := by decide +kernel
theorem dX8_judged_90 : decode cX8_judged 90 = .ok (.invokevirtual 173, 3) := by decide +kernel
theorem dX8_judged_93 : decode cX8_judged 93 = .ok (.iadd, 1) := by decide +kernel
theorem dX8_judged_94 : decode cX8_judged 94 = .ok (.istore_n 2, 1) := by decide +kernel
theorem dX8_judged_95 : decode cX8_judged 95 = .ok (.aload_n 0, 1) := by decide +kernel
theorem dX8_judged_96 : decode cX8_judged 96 = .ok (.getfield 44, 3) := by decide +kernel
theorem dX8_judged_99 : decode cX8_judged 99 = .ok (.iload 4, 2) := by decide +kernel
theorem dX8_judged_101 : decode cX8_judged 101 = .ok (.iaload, 1) := by decide +kernel
theorem dX8_judged_102 : decode cX8_judged 102 = .ok (.istore_n 3, 1) := by decide +kernel
theorem dX8_judged_103 : decode cX8_judged 103 = .ok (.iinc 4 1, 3) := by decide +kernel
theorem dX8_judged_106 : decode cX8_judged 106 = .ok (.goto (-84), 3) := by decide +kernel
theorem dX8_judged_109 : decode cX8_judged 109 = .ok (.iload_n 3, 1) := by decide +kernel
theorem dX8_judged_110 : decode cX8_judged 110 = .ok (.aload_n 0, 1) := by decide +kernel
theorem dX8_judged_111 : decode cX8_judged 111 = .ok (.getfield 117, 3) := by decide +kernel
theorem dX8_judged_114 : decode cX8_judged 114 = .ok (.iconst 1, 1) := by decide +kernel
theorem dX8_judged_115 : decode cX8_judged 115 = .ok (.isub, 1) := by decide +kernel
theorem dX8_judged_116 : decode cX8_judged 116 = .ok (.if_icmp .ge 26, 3) := by decide +kernel
theorem dX8_judged_119 : decode cX8_judged 119 = .ok (.iload_n 1, 1) := by decide +kernel
theorem dX8_judged_120 : decode cX8_judged 120 = .ok (.ifCond .ne 7, 3) := by decide +kernel
theorem dX8_judged_123 : decode cX8_judged 123 = .ok (.iconst 2, 1) := by decide +kernel
theorem dX8_judged_124 : decode cX8_judged 124 = .ok (.goto 17, 3) := by decide +kernel
theorem dX8_judged_127 : decode cX8_judged 127 = .ok (.iload_n 1, 1) := by decide +kernel
theorem dX8_judged_128 : decode cX8_judged 128 = .ok (.iconst 1, 1) := by decide +kernel
theorem dX8_judged_129 : decode cX8_judged 129 = .ok (.if_icmp .ne 10, 3) := by decide +kernel
theorem dX8_judged_132 : decode cX8_judged 132 = .ok (.aload_n 0, 1) := by decide +kernel
theorem dX8_judged_133 : decode cX8_judged 133 = .ok (.getfield 93, 3) := by decide +kernel
theorem dX8_judged_136 : decode cX8_judged 136 = .ok (.goto 5, 3) := by decide +kernel
theorem dX8_judged_139 : decode cX8_judged 139 = .ok (.bipush (-9), 2) := by decide +kernel
theorem dX8_judged_141 : decode cX8_judged 141 = .ok (.ireturn, 1) := by decide +kernel
theorem dX8_judged_142 : decode cX8_judged 142 = .ok (.aload_n 0, 1) := by decide +kernel
theorem dX8_judged_143 : decode cX8_judged 143 = .ok (.aload_n 0, 1) := by decide +kernel
theorem dX8_judged_144 : decode cX8_judged 144 = .ok (.getfield 32, 3) := by decide +kernel
theorem dX8_judged_147 : decode cX8_judged 147 = .ok (.bipush 35, 2) := by decide +kernel
theorem dX8_judged_149 : decode cX8_judged 149 = .ok (.iaload, 1) := by decide +kernel
theorem dX8_judged_150 : decode cX8_judged 150 = .ok (.invokevirtual 210, 3) := by decide +kernel
theorem dX8_judged_153 : decode cX8_judged 153 = .ok (.pop, 1) := by decide +kernel
theorem dX8_judged_154 : decode cX8_judged 154 = .ok (.iload_n 1, 1) := by decide +kernel
theorem dX8_judged_155 : decode cX8_judged 155 = .ok (.ifCond .ne 7, 3) := by decide +kernel
theorem dX8_judged_158 : decode cX8_judged 158 = .ok (.iconst 0, 1) := by decide +kernel
theorem dX8_judged_159 : decode cX8_judged 159 = .ok (.goto 21, 3) := by decide +kernel
theorem dX8_judged_162 : decode cX8_judged 162 = .ok (.iload_n 1, 1) := by decide +kernel
theorem dX8_judged_163 : decode cX8_judged 163 = .ok (.iconst 1, 1) := by decide +kernel
theorem dX8_judged_164 : decode cX8_judged 164 = .ok (.if_icmp .ne 8, 3) := by decide +kernel
theorem dX8_judged_167 : decode cX8_judged 167 = .ok (.bipush (-9), 2) := by decide +kernel
theorem dX8_judged_169 : decode cX8_judged 169 = .ok (.goto 11, 3) := by decide +kernel
theorem dX8_judged_172 : decode cX8_judged 172 = .ok (.iload_n 2, 1) := by decide +kernel
theorem dX8_judged_173 : decode cX8_judged 173 = .ok (.aload_n 0, 1) := by decide +kernel
theorem dX8_judged_174 : decode cX8_judged 174 = .ok (.getfield 56, 3) := by decide +kernel
theorem dX8_judged_177 : decode cX8_judged 177 = .ok (.iconst 0, 1) := by decide +kernel
theorem dX8_judged_178 : decode cX8_judged 178 = .ok (.iaload, 1) := by decide +kernel
theorem dX8_judged_179 : decode cX8_judged 179 = .ok (.isub, 1) := by decide +kernel
theorem dX8_judged_180 : decode cX8_judged 180 = .ok (.ireturn, 1) := by decide +kernel
theorem dX8_finds_0 : decode cX8_finds 0 = .ok (.aload_n 0, 1) := by decide +kernel
theorem dX8_finds_1 : decode cX8_finds 1 = .ok (.aload_n 0, 1) := by decide +kernel
theorem dX8_finds_2 : decode cX8_finds 2 = .ok (.getfield 220, 3) := by decide +kernel
theorem dX8_finds_5 : decode cX8_finds 5 = .ok (.ifCond .ne 7, 3) := by decide +kernel
theorem dX8_finds_8 : decode cX8_finds 8 = .ok (.iload_n 1, 1) := by decide +kernel
theorem dX8_finds_9 : decode cX8_finds 9 = .ok (.goto 7, 3) := by decide +kernel
theorem dX8_finds_12 : decode cX8_finds 12 = .ok (.aload_n 0, 1) := by decide +kernel
theorem dX8_finds_13 : decode cX8_finds 13 = .ok (.getfield 223, 3) := by decide +kernel
theorem dX8_finds_16 : decode cX8_finds 16 = .ok (.putfield 223, 3) := by decide +kernel
theorem dX8_finds_19 : decode cX8_finds 19 = .ok (.aload_n 0, 1) := by decide +kernel
theorem dX8_finds_20 : decode cX8_finds 20 = .ok (.iload_n 1, 1) := by decide +kernel
theorem dX8_finds_21 : decode cX8_finds 21 = .ok (.putfield 226, 3) := by decide +kernel
theorem dX8_finds_24 : decode cX8_finds 24 = .ok (.aload_n 0, 1) := by decide +kernel
theorem dX8_finds_25 : decode cX8_finds 25 = .ok (.dup, 1) := by decide +kernel
theorem dX8_finds_26 : decode cX8_finds 26 = .ok (.getfield 220, 3) := by decide +kernel
theorem dX8_finds_29 : decode cX8_finds 29 = .ok (.iconst 1, 1) := by decide +kernel
theorem dX8_finds_30 : decode cX8_finds 30 = .ok (.iadd, 1) := by decide +kernel
theorem dX8_finds_31 : decode cX8_finds 31 = .ok (.putfield 220, 3) := by decide +kernel
theorem dX8_finds_34 : decode cX8_finds 34 = .ok (.return_, 1) := by decide +kernel
theorem dX8_found_0 : decode cX8_found 0 = .ok (.iload_n 1, 1) := by decide +kernel
theorem dX8_found_1 : decode cX8_found 1 = .ok (.ifCond .ne 10, 3) := by decide +kernel
theorem dX8_found_4 : decode cX8_found 4 = .ok (.aload_n 0, 1) := by decide +kernel
theorem dX8_found_5 : decode cX8_found 5 = .ok (.getfield 220, 3) := by decide +kernel
theorem dX8_found_8 : decode cX8_found 8 = .ok (.goto 31, 3) := by decide +kernel
theorem dX8_found_11 : decode cX8_found 11 = .ok (.aload_n 0, 1) := by decide +kernel
theorem dX8_found_12 : decode cX8_found 12 = .ok (.getfield 220, 3) := by decide +kernel
theorem dX8_found_15 : decode cX8_found 15 = .ok (.ifCond .ne 8, 3) := by decide +kernel
theorem dX8_found_18 : decode cX8_found 18 = .ok (.bipush (-9), 2) := by decide +kernel
theorem dX8_found_20 : decode cX8_found 20 = .ok (.goto 19, 3) := by decide +kernel
theorem dX8_found_23 : decode cX8_found 23 = .ok (.iload_n 1, 1) := by decide +kernel
theorem dX8_found_24 : decode cX8_found 24 = .ok (.iconst 1, 1) := by decide +kernel
theorem dX8_found_25 : decode cX8_found 25 = .ok (.if_icmp .ne 10, 3) := by decide +kernel
theorem dX8_found_28 : decode cX8_found 28 = .ok (.aload_n 0, 1) := by decide +kernel
theorem dX8_found_29 : decode cX8_found 29 = .ok (.getfield 223, 3) := by decide +kernel
theorem dX8_found_32 : decode cX8_found 32 = .ok (.goto 7, 3) := by decide +kernel
theorem dX8_found_35 : decode cX8_found 35 = .ok (.aload_n 0, 1) := by decide +kernel
theorem dX8_found_36 : decode cX8_found 36 = .ok (.getfield 226, 3) := by decide +kernel
theorem dX8_found_39 : decode cX8_found 39 = .ok (.ireturn, 1) := by decide +kernel
theorem dX8_alike_0 : decode cX8_alike 0 = .ok (.iload_n 1, 1) := by decide +kernel
theorem dX8_alike_1 : decode cX8_alike 1 = .ok (.iconst 0, 1) := by decide +kernel
theorem dX8_alike_2 : decode cX8_alike 2 = .ok (.iconst 2, 1) := by decide +kernel
theorem dX8_alike_3 : decode cX8_alike 3 = .ok (.invokestatic 99, 3) := by decide +kernel
theorem dX8_alike_6 : decode cX8_alike 6 = .ok (.ifCond .ne 5, 3) := by decide +kernel
theorem dX8_alike_9 : decode cX8_alike 9 = .ok (.iconst (-1), 1) := by decide +kernel
theorem dX8_alike_10 : decode cX8_alike 10 = .ok (.ireturn, 1) := by decide +kernel
theorem dX8_alike_11 : decode cX8_alike 11 = .ok (.aload_n 0, 1) := by decide +kernel
theorem dX8_alike_12 : decode cX8_alike 12 = .ok (.aload_n 0, 1) := by decide +kernel
theorem dX8_alike_13 : decode cX8_alike 13 = .ok (.getfield 32, 3) := by decide +kernel
theorem dX8_alike_16 : decode cX8_alike 16 = .ok (.bipush 35, 2) := by decide +kernel
theorem dX8_alike_18 : decode cX8_alike 18 = .ok (.iaload, 1) := by decide +kernel
theorem dX8_alike_19 : decode cX8_alike 19 = .ok (.invokevirtual 210, 3) := by decide +kernel
theorem dX8_alike_22 : decode cX8_alike 22 = .ok (.ifCond .ne 6, 3) := by decide +kernel
theorem dX8_alike_25 : decode cX8_alike 25 = .ok (.bipush (-9), 2) := by decide +kernel
theorem dX8_alike_27 : decode cX8_alike 27 = .ok (.ireturn, 1) := by decide +kernel
theorem dX8_alike_28 : decode cX8_alike 28 = .ok (.aload_n 0, 1) := by decide +kernel
theorem dX8_alike_29 : decode cX8_alike 29 = .ok (.getfield 183, 3) := by decide +kernel
theorem dX8_alike_32 : decode cX8_alike 32 = .ok (.istore_n 2, 1) := by decide +kernel
theorem dX8_alike_33 : decode cX8_alike 33 = .ok (.iconst 0, 1) := by decide +kernel
theorem dX8_alike_34 : decode cX8_alike 34 = .ok (.istore_n 3, 1) := by decide +kernel
theorem dX8_alike_35 : decode cX8_alike 35 = .ok (.iload_n 3, 1) := by decide +kernel
theorem dX8_alike_36 : decode cX8_alike 36 = .ok (.iload_n 2, 1) := by decide +kernel
theorem dX8_alike_37 : decode cX8_alike 37 = .ok (.if_icmp .ge 21, 3) := by decide +kernel
theorem dX8_alike_40 : decode cX8_alike 40 = .ok (.aload_n 0, 1) := by decide +kernel
theorem dX8_alike_41 : decode cX8_alike 41 = .ok (.getfield 83, 3) := by decide +kernel
theorem dX8_alike_44 : decode cX8_alike 44 = .ok (.iload_n 3, 1) := by decide +kernel
theorem dX8_alike_45 : decode cX8_alike 45 = .ok (.aload_n 0, 1) := by decide +kernel
theorem dX8_alike_46 : decode cX8_alike 46 = .ok (.getfield 65, 3) := by decide +kernel
theorem dX8_alike_49 : decode cX8_alike 49 = .ok (.iload_n 3, 1) := by decide +kernel
theorem dX8_alike_50 : decode cX8_alike 50 = .ok (.iaload, 1) := by decide +kernel
theorem dX8_alike_51 : decode cX8_alike 51 = .ok (.iastore, 1) := by decide +kernel
theorem dX8_alike_52 : decode cX8_alike 52 = .ok (.iinc 3 1, 3) := by decide +kernel
theorem dX8_alike_55 : decode cX8_alike 55 = .ok (.goto (-20), 3) := by decide +kernel
theorem dX8_alike_58 : decode cX8_alike 58 = .ok (.aload_n 0, 1) := by decide +kernel
theorem dX8_alike_59 : decode cX8_alike 59 = .ok (.iconst 0, 1) := by decide +kernel
theorem dX8_alike_60 : decode cX8_alike 60 = .ok (.putfield 220, 3) := by decide +kernel
theorem dX8_alike_63 : decode cX8_alike 63 = .ok (.bipush 10, 2) := by decide +kernel
theorem dX8_alike_65 : decode cX8_alike 65 = .ok (.istore_n 3, 1) := by decide +kernel
theorem dX8_alike_66 : decode cX8_alike 66 = .ok (.iload_n 3, 1) := by decide +kernel
theorem dX8_alike_67 : decode cX8_alike 67 = .ok (.sipush 200, 3) := by decide +kernel
theorem dX8_alike_70 : decode cX8_alike 70 = .ok (.if_icmp .gt 86, 3) := by decide +kernel
theorem dX8_alike_73 : decode cX8_alike 73 = .ok (.aload_n 0, 1) := by decide +kernel
theorem dX8_alike_74 : decode cX8_alike 74 = .ok (.iload_n 3, 1) := by decide +kernel
theorem dX8_alike_75 : decode cX8_alike 75 = .ok (.invokevirtual 210, 3) := by decide +kernel
theorem dX8_alike_78 : decode cX8_alike 78 = .ok (.ifCond .eq 15, 3) := by decide +kernel
theorem dX8_alike_81 : decode cX8_alike 81 = .ok (.aload_n 0, 1) := by decide +kernel
theorem dX8_alike_82 : decode cX8_alike 82 = .ok (.getfield 183, 3) := by decide +kernel
theorem dX8_alike_85 : decode cX8_alike 85 = .ok (.iload_n 2, 1) := by decide +kernel
theorem dX8_alike_86 : decode cX8_alike 86 = .ok (.if_icmp .ne 7, 3) := by decide +kernel
theorem dX8_alike_89 : decode cX8_alike 89 = .ok (.iconst 1, 1) := by decide +kernel
theorem dX8_alike_90 : decode cX8_alike 90 = .ok (.goto 4, 3) := by decide +kernel
theorem dX8_alike_93 : decode cX8_alike 93 = .ok (.iconst 0, 1) := by decide +kernel
theorem dX8_alike_94 : decode cX8_alike 94 = .ok (.istore 4, 2) := by decide +kernel
theorem dX8_alike_96 : decode cX8_alike 96 = .ok (.iconst 0, 1) := by decide +kernel
theorem dX8_alike_97 : decode cX8_alike 97 = .ok (.istore 5, 2) := by decide +kernel
theorem dX8_alike_99 : decode cX8_alike 99 = .ok (.iload 5, 2) := by decide +kernel
theorem dX8_alike_101 : decode cX8_alike 101 = .ok (.iload_n 2, 1) := by decide +kernel
theorem dX8_alike_102 : decode cX8_alike 102 = .ok (.if_icmp .ge 38, 3) := by decide +kernel
theorem dX8_alike_105 : decode cX8_alike 105 = .ok (.iload 4, 2) := by decide +kernel
theorem dX8_alike_107 : decode cX8_alike 107 = .ok (.ifCond .eq 33, 3) := by decide +kernel
theorem dX8_alike_110 : decode cX8_alike 110 = .ok (.aload_n 0, 1) := by decide +kernel
theorem dX8_alike_111 : decode cX8_alike 111 = .ok (.getfield 65, 3) := by decide +kernel
theorem dX8_alike_114 : decode cX8_alike 114 = .ok (.iload 5, 2) := by decide +kernel
theorem dX8_alike_116 : decode cX8_alike 116 = .ok (.iaload, 1) := by decide +kernel
theorem dX8_alike_117 : decode cX8_alike 117 = .ok (.aload_n 0, 1) := by decide +kernel
theorem dX8_alike_118 : decode cX8_alike 118 = .ok (.getfield 83, 3) := by decide +kernel
theorem dX8_alike_121 : decode cX8_alike 121 = .ok (.iload 5, 2) := by decide +kernel
theorem dX8_alike_123 : decode cX8_alike 123 = .ok (.iaload, 1) := by decide +kernel
theorem dX8_alike_124 : decode cX8_alike 124 = .ok (.if_icmp .ne 7, 3) := by decide +kernel
theorem dX8_alike_127 : decode cX8_alike 127 = .ok (.iconst 1, 1) := by decide +kernel
theorem dX8_alike_128 : decode cX8_alike 128 = .ok (.goto 4, 3) := by decide +kernel
theorem dX8_alike_131 : decode cX8_alike 131 = .ok (.iconst 0, 1) := by decide +kernel
theorem dX8_alike_132 : decode cX8_alike 132 = .ok (.istore 4, 2) := by decide +kernel
theorem dX8_alike_134 : decode cX8_alike 134 = .ok (.iinc 5 1, 3) := by decide +kernel
theorem dX8_alike_137 : decode cX8_alike 137 = .ok (.goto (-38), 3) := by decide +kernel
theorem dX8_alike_140 : decode cX8_alike 140 = .ok (.iload 4, 2) := by decide +kernel
theorem dX8_alike_142 : decode cX8_alike 142 = .ok (.ifCond .eq 8, 3) := by decide +kernel
theorem dX8_alike_145 : decode cX8_alike 145 = .ok (.aload_n 0, 1) := by decide +kernel
theorem dX8_alike_146 : decode cX8_alike 146 = .ok (.iload_n 3, 1) := by decide +kernel
theorem dX8_alike_147 : decode cX8_alike 147 = .ok (.invokevirtual 229, 3) := by decide +kernel
theorem dX8_alike_150 : decode cX8_alike 150 = .ok (.iinc 3 1, 3) := by decide +kernel
theorem dX8_alike_153 : decode cX8_alike 153 = .ok (.goto (-87), 3) := by decide +kernel
theorem dX8_alike_156 : decode cX8_alike 156 = .ok (.aload_n 0, 1) := by decide +kernel
theorem dX8_alike_157 : decode cX8_alike 157 = .ok (.iload_n 1, 1) := by decide +kernel
theorem dX8_alike_158 : decode cX8_alike 158 = .ok (.invokevirtual 233, 3) := by decide +kernel
theorem dX8_alike_161 : decode cX8_alike 161 = .ok (.ireturn, 1) := by decide +kernel
theorem dX8_sees_0 : decode cX8_sees 0 = .ok (.aload_n 0, 1) := by decide +kernel
theorem dX8_sees_1 : decode cX8_sees 1 = .ok (.iload_n 1, 1) := by decide +kernel
theorem dX8_sees_2 : decode cX8_sees 2 = .ok (.invokevirtual 134, 3) := by decide +kernel
theorem dX8_sees_5 : decode cX8_sees 5 = .ok (.ifCond .eq 12, 3) := by decide +kernel
theorem dX8_sees_8 : decode cX8_sees 8 = .ok (.iload_n 2, 1) := by decide +kernel
theorem dX8_sees_9 : decode cX8_sees 9 = .ok (.iconst 0, 1) := by decide +kernel
theorem dX8_sees_10 : decode cX8_sees 10 = .ok (.iconst 1, 1) := by decide +kernel
theorem dX8_sees_11 : decode cX8_sees 11 = .ok (.invokestatic 99, 3) := by decide +kernel
theorem dX8_sees_14 : decode cX8_sees 14 = .ok (.ifCond .ne 5, 3) := by decide +kernel
theorem dX8_sees_17 : decode cX8_sees 17 = .ok (.iconst (-1), 1) := by decide +kernel
theorem dX8_sees_18 : decode cX8_sees 18 = .ok (.ireturn, 1) := by decide +kernel
theorem dX8_sees_19 : decode cX8_sees 19 = .ok (.aload_n 0, 1) := by decide +kernel
theorem dX8_sees_20 : decode cX8_sees 20 = .ok (.getfield 96, 3) := by decide +kernel
theorem dX8_sees_23 : decode cX8_sees 23 = .ok (.bipush 6, 2) := by decide +kernel
theorem dX8_sees_25 : decode cX8_sees 25 = .ok (.if_icmp .ne 6, 3) := by decide +kernel
theorem dX8_sees_28 : decode cX8_sees 28 = .ok (.bipush (-3), 2) := by decide +kernel
theorem dX8_sees_30 : decode cX8_sees 30 = .ok (.ireturn, 1) := by decide +kernel
theorem dX8_sees_31 : decode cX8_sees 31 = .ok (.aload_n 0, 1) := by decide +kernel
theorem dX8_sees_32 : decode cX8_sees 32 = .ok (.getfield 47, 3) := by decide +kernel
theorem dX8_sees_35 : decode cX8_sees 35 = .ok (.aload_n 0, 1) := by decide +kernel
theorem dX8_sees_36 : decode cX8_sees 36 = .ok (.getfield 96, 3) := by decide +kernel
theorem dX8_sees_39 : decode cX8_sees 39 = .ok (.iload_n 1, 1) := by decide +kernel
theorem dX8_sees_40 : decode cX8_sees 40 = .ok (.iastore, 1) := by decide +kernel
theorem dX8_sees_41 : decode cX8_sees 41 = .ok (.aload_n 0, 1) := by decide +kernel
theorem dX8_sees_42 : decode cX8_sees 42 = .ok (.getfield 50, 3) := by decide +kernel
theorem dX8_sees_45 : decode cX8_sees 45 = .ok (.aload_n 0, 1) := by decide +kernel
theorem dX8_sees_46 : decode cX8_sees 46 = .ok (.getfield 96, 3) := by decide +kernel
theorem dX8_sees_49 : decode cX8_sees 49 = .ok (.iload_n 2, 1) := by decide +kernel
theorem dX8_sees_50 : decode cX8_sees 50 = .ok (.iastore, 1) := by decide +kernel
theorem dX8_sees_51 : decode cX8_sees 51 = .ok (.aload_n 0, 1) := by decide +kernel
theorem dX8_sees_52 : decode cX8_sees 52 = .ok (.dup, 1) := by decide +kernel
theorem dX8_sees_53 : decode cX8_sees 53 = .ok (.getfield 96, 3) := by decide +kernel
theorem dX8_sees_56 : decode cX8_sees 56 = .ok (.iconst 1, 1) := by decide +kernel
theorem dX8_sees_57 : decode cX8_sees 57 = .ok (.iadd, 1) := by decide +kernel
theorem dX8_sees_58 : decode cX8_sees 58 = .ok (.putfield 96, 3) := by decide +kernel
theorem dX8_sees_61 : decode cX8_sees 61 = .ok (.aload_n 0, 1) := by decide +kernel
theorem dX8_sees_62 : decode cX8_sees 62 = .ok (.getfield 96, 3) := by decide +kernel
theorem dX8_sees_65 : decode cX8_sees 65 = .ok (.ireturn, 1) := by decide +kernel
theorem dX8_forget_0 : decode cX8_forget 0 = .ok (.aload_n 0, 1) := by decide +kernel
theorem dX8_forget_1 : decode cX8_forget 1 = .ok (.getfield 96, 3) := by decide +kernel
theorem dX8_forget_4 : decode cX8_forget 4 = .ok (.istore_n 1, 1) := by decide +kernel
theorem dX8_forget_5 : decode cX8_forget 5 = .ok (.aload_n 0, 1) := by decide +kernel
theorem dX8_forget_6 : decode cX8_forget 6 = .ok (.iconst 0, 1) := by decide +kernel
theorem dX8_forget_7 : decode cX8_forget 7 = .ok (.putfield 96, 3) := by decide +kernel
theorem dX8_forget_10 : decode cX8_forget 10 = .ok (.iload_n 1, 1) := by decide +kernel
theorem dX8_forget_11 : decode cX8_forget 11 = .ok (.ireturn, 1) := by decide +kernel
theorem dX8_isBegun_0 : decode cX8_isBegun 0 = .ok (.iconst 0, 1) := by decide +kernel
theorem dX8_isBegun_1 : decode cX8_isBegun 1 = .ok (.istore_n 2, 1) := by decide +kernel
theorem dX8_isBegun_2 : decode cX8_isBegun 2 = .ok (.iconst 0, 1) := by decide +kernel
theorem dX8_isBegun_3 : decode cX8_isBegun 3 = .ok (.istore_n 3, 1) := by decide +kernel
theorem dX8_isBegun_4 : decode cX8_isBegun 4 = .ok (.iload_n 3, 1) := by decide +kernel
theorem dX8_isBegun_5 : decode cX8_isBegun 5 = .ok (.aload_n 0, 1) := by decide +kernel
theorem dX8_isBegun_6 : decode cX8_isBegun 6 = .ok (.getfield 183, 3) := by decide +kernel
theorem dX8_isBegun_9 : decode cX8_isBegun 9 = .ok (.if_icmp .ge 37, 3) := by decide +kernel
theorem dX8_isBegun_12 : decode cX8_isBegun 12 = .ok (.iload_n 2, 1) := by decide +kernel
theorem dX8_isBegun_13 : decode cX8_isBegun 13 = .ok (.ifCond .ne 21, 3) := by decide +kernel
theorem dX8_isBegun_16 : decode cX8_isBegun 16 = .ok (.aload_n 0, 1) := by decide +kernel
theorem dX8_isBegun_17 : decode cX8_isBegun 17 = .ok (.aload_n 0, 1) := by decide +kernel
theorem dX8_isBegun_18 : decode cX8_isBegun 18 = .ok (.iload_n 3, 1) := by decide +kernel
theorem dX8_isBegun_19 : decode cX8_isBegun 19 = .ok (.invokevirtual 186, 3) := by decide +kernel
theorem dX8_isBegun_22 : decode cX8_isBegun 22 = .ok (.invokevirtual 160, 3) := by decide +kernel
theorem dX8_isBegun_25 : decode cX8_isBegun 25 = .ok (.aload_n 0, 1) := by decide +kernel
theorem dX8_isBegun_26 : decode cX8_isBegun 26 = .ok (.getfield 16, 3) := by decide +kernel
theorem dX8_isBegun_29 : decode cX8_isBegun 29 = .ok (.iload_n 1, 1) := by decide +kernel
theorem dX8_isBegun_30 : decode cX8_isBegun 30 = .ok (.iaload, 1) := by decide +kernel
theorem dX8_isBegun_31 : decode cX8_isBegun 31 = .ok (.if_icmp .ne 7, 3) := by decide +kernel
theorem dX8_isBegun_34 : decode cX8_isBegun 34 = .ok (.iconst 1, 1) := by decide +kernel
theorem dX8_isBegun_35 : decode cX8_isBegun 35 = .ok (.goto 4, 3) := by decide +kernel
theorem dX8_isBegun_38 : decode cX8_isBegun 38 = .ok (.iconst 0, 1) := by decide +kernel
theorem dX8_isBegun_39 : decode cX8_isBegun 39 = .ok (.istore_n 2, 1) := by decide +kernel
theorem dX8_isBegun_40 : decode cX8_isBegun 40 = .ok (.iinc 3 1, 3) := by decide +kernel
theorem dX8_isBegun_43 : decode cX8_isBegun 43 = .ok (.goto (-39), 3) := by decide +kernel
theorem dX8_isBegun_46 : decode cX8_isBegun 46 = .ok (.iload_n 2, 1) := by decide +kernel
theorem dX8_isBegun_47 : decode cX8_isBegun 47 = .ok (.ireturn, 1) := by decide +kernel
theorem dX8_unseen_0 : decode cX8_unseen 0 = .ok (.iload_n 1, 1) := by decide +kernel
theorem dX8_unseen_1 : decode cX8_unseen 1 = .ok (.iconst 0, 1) := by decide +kernel
theorem dX8_unseen_2 : decode cX8_unseen 2 = .ok (.iconst 2, 1) := by decide +kernel
theorem dX8_unseen_3 : decode cX8_unseen 3 = .ok (.invokestatic 99, 3) := by decide +kernel
theorem dX8_unseen_6 : decode cX8_unseen 6 = .ok (.ifCond .ne 5, 3) := by decide +kernel
theorem dX8_unseen_9 : decode cX8_unseen 9 = .ok (.iconst (-1), 1) := by decide +kernel
theorem dX8_unseen_10 : decode cX8_unseen 10 = .ok (.ireturn, 1) := by decide +kernel
theorem dX8_unseen_11 : decode cX8_unseen 11 = .ok (.aload_n 0, 1) := by decide +kernel
theorem dX8_unseen_12 : decode cX8_unseen 12 = .ok (.iconst 0, 1) := by decide +kernel
theorem dX8_unseen_13 : decode cX8_unseen 13 = .ok (.putfield 220, 3) := by decide +kernel
theorem dX8_unseen_16 : decode cX8_unseen 16 = .ok (.bipush 10, 2) := by decide +kernel
theorem dX8_unseen_18 : decode cX8_unseen 18 = .ok (.istore_n 2, 1) := by decide +kernel
theorem dX8_unseen_19 : decode cX8_unseen 19 = .ok (.iload_n 2, 1) := by decide +kernel
theorem dX8_unseen_20 : decode cX8_unseen 20 = .ok (.sipush 200, 3) := by decide +kernel
theorem dX8_unseen_23 : decode cX8_unseen 23 = .ok (.if_icmp .gt 82, 3) := by decide +kernel
theorem dX8_unseen_26 : decode cX8_unseen 26 = .ok (.aload_n 0, 1) := by decide +kernel
theorem dX8_unseen_27 : decode cX8_unseen 27 = .ok (.iload_n 2, 1) := by decide +kernel
theorem dX8_unseen_28 : decode cX8_unseen 28 = .ok (.invokevirtual 210, 3) := by decide +kernel
theorem dX8_unseen_31 : decode cX8_unseen 31 = .ok (.istore_n 3, 1) := by decide +kernel
theorem dX8_unseen_32 : decode cX8_unseen 32 = .ok (.iconst 0, 1) := by decide +kernel
theorem dX8_unseen_33 : decode cX8_unseen 33 = .ok (.istore 4, 2) := by decide +kernel
theorem dX8_unseen_35 : decode cX8_unseen 35 = .ok (.iload 4, 2) := by decide +kernel
theorem dX8_unseen_37 : decode cX8_unseen 37 = .ok (.aload_n 0, 1) := by decide +kernel
theorem dX8_unseen_38 : decode cX8_unseen 38 = .ok (.getfield 96, 3) := by decide +kernel
theorem dX8_unseen_41 : decode cX8_unseen 41 = .ok (.if_icmp .ge 49, 3) := by decide +kernel
theorem dX8_unseen_44 : decode cX8_unseen 44 = .ok (.iload_n 3, 1) := by decide +kernel
theorem dX8_unseen_45 : decode cX8_unseen 45 = .ok (.ifCond .eq 45, 3) := by decide +kernel
theorem dX8_unseen_48 : decode cX8_unseen 48 = .ok (.aload_n 0, 1) := by decide +kernel
theorem dX8_unseen_49 : decode cX8_unseen 49 = .ok (.aload_n 0, 1) := by decide +kernel
theorem dX8_unseen_50 : decode cX8_unseen 50 = .ok (.getfield 47, 3) := by decide +kernel
theorem dX8_unseen_53 : decode cX8_unseen 53 = .ok (.iload 4, 2) := by decide +kernel
theorem dX8_unseen_55 : decode cX8_unseen 55 = .ok (.iaload, 1) := by decide +kernel
theorem dX8_unseen_56 : decode cX8_unseen 56 = .ok (.invokevirtual 236, 3) := by decide +kernel
theorem dX8_unseen_59 : decode cX8_unseen 59 = .ok (.aload_n 0, 1) := by decide +kernel
theorem dX8_unseen_60 : decode cX8_unseen 60 = .ok (.getfield 50, 3) := by decide +kernel
theorem dX8_unseen_63 : decode cX8_unseen 63 = .ok (.iload 4, 2) := by decide +kernel
theorem dX8_unseen_65 : decode cX8_unseen 65 = .ok (.iaload, 1) := by decide +kernel
theorem dX8_unseen_66 : decode cX8_unseen 66 = .ok (.iconst 1, 1) := by decide +kernel
theorem dX8_unseen_67 : decode cX8_unseen 67 = .ok (.if_icmp .ne 7, 3) := by decide +kernel
theorem dX8_unseen_70 : decode cX8_unseen 70 = .ok (.iconst 1, 1) := by decide +kernel
theorem dX8_unseen_71 : decode cX8_unseen 71 = .ok (.goto 4, 3) := by decide +kernel
theorem dX8_unseen_74 : decode cX8_unseen 74 = .ok (.iconst 0, 1) := by decide +kernel
theorem dX8_unseen_75 : decode cX8_unseen 75 = .ok (.if_icmp .ne 7, 3) := by decide +kernel
theorem dX8_unseen_78 : decode cX8_unseen 78 = .ok (.iconst 1, 1) := by decide +kernel
theorem dX8_unseen_79 : decode cX8_unseen 79 = .ok (.goto 4, 3) := by decide +kernel
theorem dX8_unseen_82 : decode cX8_unseen 82 = .ok (.iconst 0, 1) := by decide +kernel
theorem dX8_unseen_83 : decode cX8_unseen 83 = .ok (.istore_n 3, 1) := by decide +kernel
theorem dX8_unseen_84 : decode cX8_unseen 84 = .ok (.iinc 4 1, 3) := by decide +kernel
theorem dX8_unseen_87 : decode cX8_unseen 87 = .ok (.goto (-52), 3) := by decide +kernel
theorem dX8_unseen_90 : decode cX8_unseen 90 = .ok (.iload_n 3, 1) := by decide +kernel
theorem dX8_unseen_91 : decode cX8_unseen 91 = .ok (.ifCond .eq 8, 3) := by decide +kernel
theorem dX8_unseen_94 : decode cX8_unseen 94 = .ok (.aload_n 0, 1) := by decide +kernel
theorem dX8_unseen_95 : decode cX8_unseen 95 = .ok (.iload_n 2, 1) := by decide +kernel
theorem dX8_unseen_96 : decode cX8_unseen 96 = .ok (.invokevirtual 229, 3) := by decide +kernel
theorem dX8_unseen_99 : decode cX8_unseen 99 = .ok (.iinc 2 1, 3) := by decide +kernel
theorem dX8_unseen_102 : decode cX8_unseen 102 = .ok (.goto (-83), 3) := by decide +kernel
theorem dX8_unseen_105 : decode cX8_unseen 105 = .ok (.aload_n 0, 1) := by decide +kernel
theorem dX8_unseen_106 : decode cX8_unseen 106 = .ok (.iload_n 1, 1) := by decide +kernel
theorem dX8_unseen_107 : decode cX8_unseen 107 = .ok (.invokevirtual 233, 3) := by decide +kernel
theorem dX8_unseen_110 : decode cX8_unseen 110 = .ok (.ireturn, 1) := by decide +kernel
theorem dX8_keep_0 : decode cX8_keep 0 = .ok (.iload_n 1, 1) := by decide +kernel
theorem dX8_keep_1 : decode cX8_keep 1 = .ok (.iconst 0, 1) := by decide +kernel
theorem dX8_keep_2 : decode cX8_keep 2 = .ok (.iconst 1, 1) := by decide +kernel
theorem dX8_keep_3 : decode cX8_keep 3 = .ok (.invokestatic 99, 3) := by decide +kernel
theorem dX8_keep_6 : decode cX8_keep 6 = .ok (.ifCond .ne 5, 3) := by decide +kernel
theorem dX8_keep_9 : decode cX8_keep 9 = .ok (.iconst (-1), 1) := by decide +kernel
theorem dX8_keep_10 : decode cX8_keep 10 = .ok (.ireturn, 1) := by decide +kernel
theorem dX8_keep_11 : decode cX8_keep 11 = .ok (.iconst 0, 1) := by decide +kernel
theorem dX8_keep_12 : decode cX8_keep 12 = .ok (.istore_n 2, 1) := by decide +kernel
theorem dX8_keep_13 : decode cX8_keep 13 = .ok (.iload_n 2, 1) := by decide +kernel
theorem dX8_keep_14 : decode cX8_keep 14 = .ok (.bipush 38, 2) := by decide +kernel
theorem dX8_keep_16 : decode cX8_keep 16 = .ok (.if_icmp .ge 26, 3) := by decide +kernel
theorem dX8_keep_19 : decode cX8_keep 19 = .ok (.aload_n 0, 1) := by decide +kernel
theorem dX8_keep_20 : decode cX8_keep 20 = .ok (.getfield 41, 3) := by decide +kernel
theorem dX8_keep_23 : decode cX8_keep 23 = .ok (.bipush 38, 2) := by decide +kernel
theorem dX8_keep_25 : decode cX8_keep 25 = .ok (.iload_n 1, 1) := by decide +kernel
theorem dX8_keep_26 : decode cX8_keep 26 = .ok (.imul, 1) := by decide +kernel
theorem dX8_keep_27 : decode cX8_keep 27 = .ok (.iload_n 2, 1) := by decide +kernel
theorem dX8_keep_28 : decode cX8_keep 28 = .ok (.iadd, 1) := by decide +kernel
theorem dX8_keep_29 : decode cX8_keep 29 = .ok (.aload_n 0, 1) := by decide +kernel
theorem dX8_keep_30 : decode cX8_keep 30 = .ok (.getfield 32, 3) := by decide +kernel
theorem dX8_keep_33 : decode cX8_keep 33 = .ok (.iload_n 2, 1) := by decide +kernel
theorem dX8_keep_34 : decode cX8_keep 34 = .ok (.iaload, 1) := by decide +kernel
theorem dX8_keep_35 : decode cX8_keep 35 = .ok (.iastore, 1) := by decide +kernel
theorem dX8_keep_36 : decode cX8_keep 36 = .ok (.iinc 2 1, 3) := by decide +kernel
theorem dX8_keep_39 : decode cX8_keep 39 = .ok (.goto (-26), 3) := by decide +kernel
theorem dX8_keep_42 : decode cX8_keep 42 = .ok (.aload_n 0, 1) := by decide +kernel
theorem dX8_keep_43 : decode cX8_keep 43 = .ok (.getfield 38, 3) := by decide +kernel
theorem dX8_keep_46 : decode cX8_keep 46 = .ok (.iload_n 1, 1) := by decide +kernel
theorem dX8_keep_47 : decode cX8_keep 47 = .ok (.iconst 1, 1) := by decide +kernel
theorem dX8_keep_48 : decode cX8_keep 48 = .ok (.bastore, 1) := by decide +kernel
theorem dX8_keep_49 : decode cX8_keep 49 = .ok (.aload_n 0, 1) := by decide +kernel
theorem dX8_keep_50 : decode cX8_keep 50 = .ok (.getfield 32, 3) := by decide +kernel
theorem dX8_keep_53 : decode cX8_keep 53 = .ok (.bipush 35, 2) := by decide +kernel
theorem dX8_keep_55 : decode cX8_keep 55 = .ok (.iaload, 1) := by decide +kernel
theorem dX8_keep_56 : decode cX8_keep 56 = .ok (.ireturn, 1) := by decide +kernel
theorem dX8_back_0 : decode cX8_back 0 = .ok (.iload_n 1, 1) := by decide +kernel
theorem dX8_back_1 : decode cX8_back 1 = .ok (.iconst 0, 1) := by decide +kernel
theorem dX8_back_2 : decode cX8_back 2 = .ok (.iconst 1, 1) := by decide +kernel
theorem dX8_back_3 : decode cX8_back 3 = .ok (.invokestatic 99, 3) := by decide +kernel
theorem dX8_back_6 : decode cX8_back 6 = .ok (.ifCond .ne 5, 3) := by decide +kernel
theorem dX8_back_9 : decode cX8_back 9 = .ok (.iconst (-1), 1) := by decide +kernel
theorem dX8_back_10 : decode cX8_back 10 = .ok (.ireturn, 1) := by decide +kernel
theorem dX8_back_11 : decode cX8_back 11 = .ok (.aload_n 0, 1) := by decide +kernel
theorem dX8_back_12 : decode cX8_back 12 = .ok (.getfield 38, 3) := by decide +kernel
theorem dX8_back_15 : decode cX8_back 15 = .ok (.iload_n 1, 1) := by decide +kernel
theorem dX8_back_16 : decode cX8_back 16 = .ok (.baload, 1) := by decide +kernel
theorem dX8_back_17 : decode cX8_back 17 = .ok (.ifCond .ne 6, 3) := by decide +kernel
theorem dX8_back_20 : decode cX8_back 20 = .ok (.bipush (-2), 2) := by decide +kernel
theorem dX8_back_22 : decode cX8_back 22 = .ok (.ireturn, 1) := by decide +kernel
theorem dX8_back_23 : decode cX8_back 23 = .ok (.iconst 0, 1) := by decide +kernel
theorem dX8_back_24 : decode cX8_back 24 = .ok (.istore_n 2, 1) := by decide +kernel
theorem dX8_back_25 : decode cX8_back 25 = .ok (.iload_n 2, 1) := by decide +kernel
theorem dX8_back_26 : decode cX8_back 26 = .ok (.bipush 38, 2) := by decide +kernel
theorem dX8_back_28 : decode cX8_back 28 = .ok (.if_icmp .ge 26, 3) := by decide +kernel
theorem dX8_back_31 : decode cX8_back 31 = .ok (.aload_n 0, 1) := by decide +kernel
theorem dX8_back_32 : decode cX8_back 32 = .ok (.getfield 32, 3) := by decide +kernel
theorem dX8_back_35 : decode cX8_back 35 = .ok (.iload_n 2, 1) := by decide +kernel
theorem dX8_back_36 : decode cX8_back 36 = .ok (.aload_n 0, 1) := by decide +kernel
theorem dX8_back_37 : decode cX8_back 37 = .ok (.getfield 41, 3) := by decide +kernel
theorem dX8_back_40 : decode cX8_back 40 = .ok (.bipush 38, 2) := by decide +kernel
theorem dX8_back_42 : decode cX8_back 42 = .ok (.iload_n 1, 1) := by decide +kernel
theorem dX8_back_43 : decode cX8_back 43 = .ok (.imul, 1) := by decide +kernel
theorem dX8_back_44 : decode cX8_back 44 = .ok (.iload_n 2, 1) := by decide +kernel
theorem dX8_back_45 : decode cX8_back 45 = .ok (.iadd, 1) := by decide +kernel
theorem dX8_back_46 : decode cX8_back 46 = .ok (.iaload, 1) := by decide +kernel
theorem dX8_back_47 : decode cX8_back 47 = .ok (.iastore, 1) := by decide +kernel
theorem dX8_back_48 : decode cX8_back 48 = .ok (.iinc 2 1, 3) := by decide +kernel
theorem dX8_back_51 : decode cX8_back 51 = .ok (.goto (-26), 3) := by decide +kernel
theorem dX8_back_54 : decode cX8_back 54 = .ok (.aload_n 0, 1) := by decide +kernel
theorem dX8_back_55 : decode cX8_back 55 = .ok (.iconst 0, 1) := by decide +kernel
theorem dX8_back_56 : decode cX8_back 56 = .ok (.putfield 89, 3) := by decide +kernel
theorem dX8_back_59 : decode cX8_back 59 = .ok (.aload_n 0, 1) := by decide +kernel
theorem dX8_back_60 : decode cX8_back 60 = .ok (.getfield 32, 3) := by decide +kernel
theorem dX8_back_63 : decode cX8_back 63 = .ok (.bipush 35, 2) := by decide +kernel
theorem dX8_back_65 : decode cX8_back 65 = .ok (.iaload, 1) := by decide +kernel
theorem dX8_back_66 : decode cX8_back 66 = .ok (.ireturn, 1) := by decide +kernel
theorem dX8_count_0 : decode cX8_count 0 = .ok (.iload_n 1, 1) := by decide +kernel
theorem dX8_count_1 : decode cX8_count 1 = .ok (.tableswitch 106 0 10 #[59, 64, 69, 69, 69, 69, 81, 86, 91, 96, 101], 59) := by decide +kernel
theorem dX8_count_60 : decode cX8_count 60 = .ok (.aload_n 0, 1) := by decide +kernel
theorem dX8_count_61 : decode cX8_count 61 = .ok (.getfield 127, 3) := by decide +kernel
theorem dX8_count_64 : decode cX8_count 64 = .ok (.ireturn, 1) := by decide +kernel
theorem dX8_count_65 : decode cX8_count 65 = .ok (.aload_n 0, 1) := by decide +kernel
theorem dX8_count_66 : decode cX8_count 66 = .ok (.getfield 117, 3) := by decide +kernel
theorem dX8_count_69 : decode cX8_count 69 = .ok (.ireturn, 1) := by decide +kernel
theorem dX8_count_70 : decode cX8_count 70 = .ok (.aload_n 0, 1) := by decide +kernel
theorem dX8_count_71 : decode cX8_count 71 = .ok (.getfield 32, 3) := by decide +kernel
theorem dX8_count_74 : decode cX8_count 74 = .ok (.bipush 34, 2) := by decide +kernel
theorem dX8_count_76 : decode cX8_count 76 = .ok (.iload_n 1, 1) := by decide +kernel
theorem dX8_count_77 : decode cX8_count 77 = .ok (.iadd, 1) := by decide +kernel
theorem dX8_count_78 : decode cX8_count 78 = .ok (.iconst 2, 1) := by decide +kernel
theorem dX8_count_79 : decode cX8_count 79 = .ok (.isub, 1) := by decide +kernel
theorem dX8_count_80 : decode cX8_count 80 = .ok (.iaload, 1) := by decide +kernel
theorem dX8_count_81 : decode cX8_count 81 = .ok (.ireturn, 1) := by decide +kernel
theorem dX8_count_82 : decode cX8_count 82 = .ok (.aload_n 0, 1) := by decide +kernel
theorem dX8_count_83 : decode cX8_count 83 = .ok (.getfield 93, 3) := by decide +kernel
theorem dX8_count_86 : decode cX8_count 86 = .ok (.ireturn, 1) := by decide +kernel
theorem dX8_count_87 : decode cX8_count 87 = .ok (.aload_n 0, 1) := by decide +kernel
theorem dX8_count_88 : decode cX8_count 88 = .ok (.getfield 96, 3) := by decide +kernel
theorem dX8_count_91 : decode cX8_count 91 = .ok (.ireturn, 1) := by decide +kernel
theorem dX8_count_92 : decode cX8_count 92 = .ok (.aload_n 0, 1) := by decide +kernel
theorem dX8_count_93 : decode cX8_count 93 = .ok (.getfield 103, 3) := by decide +kernel
theorem dX8_count_96 : decode cX8_count 96 = .ok (.ireturn, 1) := by decide +kernel
theorem dX8_count_97 : decode cX8_count 97 = .ok (.aload_n 0, 1) := by decide +kernel
theorem dX8_count_98 : decode cX8_count 98 = .ok (.getfield 89, 3) := by decide +kernel
theorem dX8_count_101 : decode cX8_count 101 = .ok (.ireturn, 1) := by decide +kernel
theorem dX8_count_102 : decode cX8_count 102 = .ok (.aload_n 0, 1) := by decide +kernel
theorem dX8_count_103 : decode cX8_count 103 = .ok (.invokevirtual 239, 3) := by decide +kernel
theorem dX8_count_106 : decode cX8_count 106 = .ok (.ireturn, 1) := by decide +kernel
theorem dX8_count_107 : decode cX8_count 107 = .ok (.iconst (-1), 1) := by decide +kernel
theorem dX8_count_108 : decode cX8_count 108 = .ok (.ireturn, 1) := by decide +kernel
theorem dL_law_0 : decode cL_law 0 = .ok (.new 7, 3) := by decide +kernel
theorem dL_law_3 : decode cL_law 3 = .ok (.dup, 1) := by decide +kernel
theorem dL_law_4 : decode cL_law 4 = .ok (.invokespecial 9, 3) := by decide +kernel
theorem dL_law_7 : decode cL_law 7 = .ok (.astore_n 1, 1) := by decide +kernel
theorem dL_law_8 : decode cL_law 8 = .ok (.new 10, 3) := by decide +kernel
theorem dL_law_11 : decode cL_law 11 = .ok (.dup, 1) := by decide +kernel
theorem dL_law_12 : decode cL_law 12 = .ok (.invokespecial 12, 3) := by decide +kernel
theorem dL_law_15 : decode cL_law 15 = .ok (.astore_n 2, 1) := by decide +kernel
theorem dL_law_16 : decode cL_law 16 = .ok (.iconst 0, 1) := by decide +kernel
theorem dL_law_17 : decode cL_law 17 = .ok (.istore_n 3, 1) := by decide +kernel
theorem dL_law_18 : decode cL_law 18 = .ok (.iload_n 3, 1) := by decide +kernel
theorem dL_law_19 : decode cL_law 19 = .ok (.aload_n 0, 1) := by decide +kernel
theorem dL_law_20 : decode cL_law 20 = .ok (.arraylength, 1) := by decide +kernel
theorem dL_law_21 : decode cL_law 21 = .ok (.iconst 4, 1) := by decide +kernel
theorem dL_law_22 : decode cL_law 22 = .ok (.isub, 1) := by decide +kernel
theorem dL_law_23 : decode cL_law 23 = .ok (.if_icmp .gt 739, 3) := by decide +kernel
theorem dL_law_26 : decode cL_law 26 = .ok (.aload_n 0, 1) := by decide +kernel
theorem dL_law_27 : decode cL_law 27 = .ok (.iload_n 3, 1) := by decide +kernel
theorem dL_law_28 : decode cL_law 28 = .ok (.iaload, 1) := by decide +kernel
theorem dL_law_29 : decode cL_law 29 = .ok (.bipush 31, 2) := by decide +kernel
theorem dL_law_31 : decode cL_law 31 = .ok (.iand, 1) := by decide +kernel
theorem dL_law_32 : decode cL_law 32 = .ok (.tableswitch 724 0 23 #[112, 135, 148, 161, 194, 227, 260, 293, 326, 359, 372, 395, 428, 471, 504, 527, 540, 563, 586, 619, 632, 655, 678, 701], 112) := by decide +kernel
theorem dL_law_144 : decode cL_law 144 = .ok (.aload_n 1, 1) := by decide +kernel
theorem dL_law_145 : decode cL_law 145 = .ok (.aload_n 0, 1) := by decide +kernel
theorem dL_law_146 : decode cL_law 146 = .ok (.iload_n 3, 1) := by decide +kernel
theorem dL_law_147 : decode cL_law 147 = .ok (.iconst 1, 1) := by decide +kernel
theorem dL_law_148 : decode cL_law 148 = .ok (.iadd, 1) := by decide +kernel
theorem dL_law_149 : decode cL_law 149 = .ok (.iaload, 1) := by decide +kernel
theorem dL_law_150 : decode cL_law 150 = .ok (.invokevirtual 13, 3) := by decide +kernel
theorem dL_law_153 : decode cL_law 153 = .ok (.aload_n 2, 1) := by decide +kernel
theorem dL_law_154 : decode cL_law 154 = .ok (.aload_n 0, 1) := by decide +kernel
theorem dL_law_155 : decode cL_law 155 = .ok (.iload_n 3, 1) := by decide +kernel
theorem dL_law_156 : decode cL_law 156 = .ok (.iconst 1, 1) := by decide +kernel
theorem dL_law_157 : decode cL_law 157 = .ok (.iadd, 1) := by decide +kernel
theorem dL_law_158 : decode cL_law 158 = .ok (.iaload, 1) := by decide +kernel
theorem dL_law_159 : decode cL_law 159 = .ok (.invokevirtual 17, 3) := by decide +kernel
theorem dL_law_162 : decode cL_law 162 = .ok (.if_icmp .eq 594, 3) := by decide +kernel
theorem dL_law_165 : decode cL_law 165 = .ok (.iconst 0, 1) := by decide +kernel
theorem dL_law_166 : decode cL_law 166 = .ok (.ireturn, 1) := by decide +kernel
theorem dL_law_167 : decode cL_law 167 = .ok (.aload_n 1, 1) := by decide +kernel
theorem dL_law_168 : decode cL_law 168 = .ok (.invokevirtual 18, 3) := by decide +kernel
theorem dL_law_171 : decode cL_law 171 = .ok (.aload_n 2, 1) := by decide +kernel
theorem dL_law_172 : decode cL_law 172 = .ok (.invokevirtual 22, 3) := by decide +kernel
theorem dL_law_175 : decode cL_law 175 = .ok (.if_icmp .eq 581, 3) := by decide +kernel
theorem dL_law_178 : decode cL_law 178 = .ok (.iconst 0, 1) := by decide +kernel
theorem dL_law_179 : decode cL_law 179 = .ok (.ireturn, 1) := by decide +kernel
theorem dL_law_180 : decode cL_law 180 = .ok (.aload_n 1, 1) := by decide +kernel
theorem dL_law_181 : decode cL_law 181 = .ok (.invokevirtual 23, 3) := by decide +kernel
theorem dL_law_184 : decode cL_law 184 = .ok (.aload_n 2, 1) := by decide +kernel
theorem dL_law_185 : decode cL_law 185 = .ok (.invokevirtual 26, 3) := by decide +kernel
theorem dL_law_188 : decode cL_law 188 = .ok (.if_icmp .eq 568, 3) := by decide +kernel
theorem dL_law_191 : decode cL_law 191 = .ok (.iconst 0, 1) := by decide +kernel
theorem dL_law_192 : decode cL_law 192 = .ok (.ireturn, 1) := by decide +kernel
theorem dL_law_193 : decode cL_law 193 = .ok (.aload_n 1, 1) := by decide +kernel
theorem dL_law_194 : decode cL_law 194 = .ok (.aload_n 0, 1) := by decide +kernel
theorem dL_law_195 : decode cL_law 195 = .ok (.iload_n 3, 1) := by decide +kernel
theorem dL_law_196 : decode cL_law 196 = .ok (.iconst 1, 1) := by decide +kernel
theorem dL_law_197 : decode cL_law 197 = .ok (.iadd, 1) := by decide +kernel
theorem dL_law_198 : decode cL_law 198 = .ok (.iaload, 1) := by decide +kernel
theorem dL_law_199 : decode cL_law 199 = .ok (.aload_n 0, 1) := by decide +kernel
theorem dL_law_200 : decode cL_law 200 = .ok (.iload_n 3, 1) := by decide +kernel
theorem dL_law_201 : decode cL_law 201 = .ok (.iconst 2, 1) := by decide +kernel
theorem dL_law_202 : decode cL_law 202 = .ok (.iadd, 1) := by decide +kernel
theorem dL_law_203 : decode cL_law 203 = .ok (.iaload, 1) := by decide +kernel
theorem dL_law_204 : decode cL_law 204 = .ok (.invokevirtual 27, 3) := by decide +kernel
theorem dL_law_207 : decode cL_law 207 = .ok (.aload_n 2, 1) := by decide +kernel
theorem dL_law_208 : decode cL_law 208 = .ok (.aload_n 0, 1) := by decide +kernel
theorem dL_law_209 : decode cL_law 209 = .ok (.iload_n 3, 1) := by decide +kernel
theorem dL_law_210 : decode cL_law 210 = .ok (.iconst 1, 1) := by decide +kernel
theorem dL_law_211 : decode cL_law 211 = .ok (.iadd, 1) := by decide +kernel
theorem dL_law_212 : decode cL_law 212 = .ok (.iaload, 1) := by decide +kernel
theorem dL_law_213 : decode cL_law 213 = .ok (.aload_n 0, 1) := by decide +kernel
theorem dL_law_214 : decode cL_law 214 = .ok (.iload_n 3, 1) := by decide +kernel
theorem dL_law_215 : decode cL_law 215 = .ok (.iconst 2, 1) := by decide +kernel
theorem dL_law_216 : decode cL_law 216 = .ok (.iadd, 1) := by decide +kernel
theorem dL_law_217 : decode cL_law 217 = .ok (.iaload, 1) := by decide +kernel
theorem dL_law_218 : decode cL_law 218 = .ok (.invokevirtual 31, 3) := by decide +kernel
theorem dL_law_221 : decode cL_law 221 = .ok (.if_icmp .eq 535, 3) := by decide +kernel
theorem dL_law_224 : decode cL_law 224 = .ok (.iconst 0, 1) := by decide +kernel
theorem dL_law_225 : decode cL_law 225 = .ok (.ireturn, 1) := by decide +kernel
theorem dL_law_226 : decode cL_law 226 = .ok (.aload_n 1, 1) := by decide +kernel
theorem dL_law_227 : decode cL_law 227 = .ok (.aload_n 0, 1) := by decide +kernel
theorem dL_law_228 : decode cL_law 228 = .ok (.iload_n 3, 1) := by decide +kernel
theorem dL_law_229 : decode cL_law 229 = .ok (.iconst 1, 1) := by decide +kernel
theorem dL_law_230 : decode cL_law 230 = .ok (.iadd, 1) := by decide +kernel
theorem dL_law_231 : decode cL_law 231 = .ok (.iaload, 1) := by decide +kernel
theorem dL_law_232 : decode cL_law 232 = .ok (.aload_n 0, 1) := by decide +kernel
theorem dL_law_233 : decode cL_law 233 = .ok (.iload_n 3, 1) := by decide +kernel
theorem dL_law_234 : decode cL_law 234 = .ok (.iconst 2, 1) := by decide +kernel
theorem dL_law_235 : decode cL_law 235 = .ok (.iadd, 1) := by decide +kernel
theorem dL_law_236 : decode cL_law 236 = .ok (.iaload, 1) := by decide +kernel
theorem dL_law_237 : decode cL_law 237 = .ok (.invokevirtual 32, 3) := by decide +kernel
theorem dL_law_240 : decode cL_law 240 = .ok (.aload_n 2, 1) := by decide +kernel
theorem dL_law_241 : decode cL_law 241 = .ok (.aload_n 0, 1) := by decide +kernel
theorem dL_law_242 : decode cL_law 242 = .ok (.iload_n 3, 1) := by decide +kernel
theorem dL_law_243 : decode cL_law 243 = .ok (.iconst 1, 1) := by decide +kernel
theorem dL_law_244 : decode cL_law 244 = .ok (.iadd, 1) := by decide +kernel
theorem dL_law_245 : decode cL_law 245 = .ok (.iaload, 1) := by decide +kernel
theorem dL_law_246 : decode cL_law 246 = .ok (.aload_n 0, 1) := by decide +kernel
theorem dL_law_247 : decode cL_law 247 = .ok (.iload_n 3, 1) := by decide +kernel
theorem dL_law_248 : decode cL_law 248 = .ok (.iconst 2, 1) := by decide +kernel
theorem dL_law_249 : decode cL_law 249 = .ok (.iadd, 1) := by decide +kernel
theorem dL_law_250 : decode cL_law 250 = .ok (.iaload, 1) := by decide +kernel
theorem dL_law_251 : decode cL_law 251 = .ok (.invokevirtual 35, 3) := by decide +kernel
theorem dL_law_254 : decode cL_law 254 = .ok (.if_icmp .eq 502, 3) := by decide +kernel
theorem dL_law_257 : decode cL_law 257 = .ok (.iconst 0, 1) := by decide +kernel
theorem dL_law_258 : decode cL_law 258 = .ok (.ireturn, 1) := by decide +kernel
theorem dL_law_259 : decode cL_law 259 = .ok (.aload_n 1, 1) := by decide +kernel
theorem dL_law_260 : decode cL_law 260 = .ok (.aload_n 0, 1) := by decide +kernel
theorem dL_law_261 : decode cL_law 261 = .ok (.iload_n 3, 1) := by decide +kernel
theorem dL_law_262 : decode cL_law 262 = .ok (.iconst 1, 1) := by decide +kernel
theorem dL_law_263 : decode cL_law 263 = .ok (.iadd, 1) := by decide +kernel
theorem dL_law_264 : decode cL_law 264 = .ok (.iaload, 1) := by decide +kernel
theorem dL_law_265 : decode cL_law 265 = .ok (.aload_n 0, 1) := by decide +kernel
theorem dL_law_266 : decode cL_law 266 = .ok (.iload_n 3, 1) := by decide +kernel
theorem dL_law_267 : decode cL_law 267 = .ok (.iconst 2, 1) := by decide +kernel
theorem dL_law_268 : decode cL_law 268 = .ok (.iadd, 1) := by decide +kernel
theorem dL_law_269 : decode cL_law 269 = .ok (.iaload, 1) := by decide +kernel
theorem dL_law_270 : decode cL_law 270 = .ok (.invokevirtual 36, 3) := by decide +kernel
theorem dL_law_273 : decode cL_law 273 = .ok (.aload_n 2, 1) := by decide +kernel
theorem dL_law_274 : decode cL_law 274 = .ok (.aload_n 0, 1) := by decide +kernel
theorem dL_law_275 : decode cL_law 275 = .ok (.iload_n 3, 1) := by decide +kernel
theorem dL_law_276 : decode cL_law 276 = .ok (.iconst 1, 1) := by decide +kernel
theorem dL_law_277 : decode cL_law 277 = .ok (.iadd, 1) := by decide +kernel
theorem dL_law_278 : decode cL_law 278 = .ok (.iaload, 1) := by decide +kernel
theorem dL_law_279 : decode cL_law 279 = .ok (.aload_n 0, 1) := by decide +kernel
theorem dL_law_280 : decode cL_law 280 = .ok (.iload_n 3, 1) := by decide +kernel
theorem dL_law_281 : decode cL_law 281 = .ok (.iconst 2, 1) := by decide +kernel
theorem dL_law_282 : decode cL_law 282 = .ok (.iadd, 1) := by decide +kernel
theorem dL_law_283 : decode cL_law 283 = .ok (.iaload, 1) := by decide +kernel
theorem dL_law_284 : decode cL_law 284 = .ok (.invokevirtual 39, 3) := by decide +kernel
theorem dL_law_287 : decode cL_law 287 = .ok (.if_icmp .eq 469, 3) := by decide +kernel
theorem dL_law_290 : decode cL_law 290 = .ok (.iconst 0, 1) := by decide +kernel
theorem dL_law_291 : decode cL_law 291 = .ok (.ireturn, 1) := by decide +kernel
theorem dL_law_292 : decode cL_law 292 = .ok (.aload_n 1, 1) := by decide +kernel
theorem dL_law_293 : decode cL_law 293 = .ok (.aload_n 0, 1) := by decide +kernel
theorem dL_law_294 : decode cL_law 294 = .ok (.iload_n 3, 1) := by decide +kernel
theorem dL_law_295 : decode cL_law 295 = .ok (.iconst 1, 1) := by decide +kernel
theorem dL_law_296 : decode cL_law 296 = .ok (.iadd, 1) := by decide +kernel
theorem dL_law_297 : decode cL_law 297 = .ok (.iaload, 1) := by decide +kernel
theorem dL_law_298 : decode cL_law 298 = .ok (.aload_n 0, 1) := by decide +kernel
theorem dL_law_299 : decode cL_law 299 = .ok (.iload_n 3, 1) := by decide +kernel
theorem dL_law_300 : decode cL_law 300 = .ok (.iconst 2, 1) := by decide +kernel
theorem dL_law_301 : decode cL_law 301 = .ok (.iadd, 1) := by decide +kernel
theorem dL_law_302 : decode cL_law 302 = .ok (.iaload, 1) := by decide +kernel
theorem dL_law_303 : decode cL_law 303 = .ok (.invokevirtual 40, 3) := by decide +kernel
theorem dL_law_306 : decode cL_law 306 = .ok (.aload_n 2, 1) := by decide +kernel
theorem dL_law_307 : decode cL_law 307 = .ok (.aload_n 0, 1) := by decide +kernel
theorem dL_law_308 : decode cL_law 308 = .ok (.iload_n 3, 1) := by decide +kernel
theorem dL_law_309 : decode cL_law 309 = .ok (.iconst 1, 1) := by decide +kernel
theorem dL_law_310 : decode cL_law 310 = .ok (.iadd, 1) := by decide +kernel
theorem dL_law_311 : decode cL_law 311 = .ok (.iaload, 1) := by decide +kernel
theorem dL_law_312 : decode cL_law 312 = .ok (.aload_n 0, 1) := by decide +kernel
theorem dL_law_313 : decode cL_law 313 = .ok (.iload_n 3, 1) := by decide +kernel
theorem dL_law_314 : decode cL_law 314 = .ok (.iconst 2, 1) := by decide +kernel
theorem dL_law_315 : decode cL_law 315 = .ok (.iadd, 1) := by decide +kernel
theorem dL_law_316 : decode cL_law 316 = .ok (.iaload, 1) := by decide +kernel
theorem dL_law_317 : decode cL_law 317 = .ok (.invokevirtual 43, 3) := by decide +kernel
theorem dL_law_320 : decode cL_law 320 = .ok (.if_icmp .eq 436, 3) := by decide +kernel
theorem dL_law_323 : decode cL_law 323 = .ok (.iconst 0, 1) := by decide +kernel
theorem dL_law_324 : decode cL_law 324 = .ok (.ireturn, 1) := by decide +kernel
theorem dL_law_325 : decode cL_law 325 = .ok (.aload_n 1, 1) := by decide +kernel
theorem dL_law_326 : decode cL_law 326 = .ok (.aload_n 0, 1) := by decide +kernel
theorem dL_law_327 : decode cL_law 327 = .ok (.iload_n 3, 1) := by decide +kernel
theorem dL_law_328 : decode cL_law 328 = .ok (.iconst 1, 1) := by decide +kernel
theorem dL_law_329 : decode cL_law 329 = .ok (.iadd, 1) := by decide +kernel
theorem dL_law_330 : decode cL_law 330 = .ok (.iaload, 1) := by decide +kernel
theorem dL_law_331 : decode cL_law 331 = .ok (.aload_n 0, 1) := by decide +kernel
theorem dL_law_332 : decode cL_law 332 = .ok (.iload_n 3, 1) := by decide +kernel
theorem dL_law_333 : decode cL_law 333 = .ok (.iconst 2, 1) := by decide +kernel
theorem dL_law_334 : decode cL_law 334 = .ok (.iadd, 1) := by decide +kernel
theorem dL_law_335 : decode cL_law 335 = .ok (.iaload, 1) := by decide +kernel
theorem dL_law_336 : decode cL_law 336 = .ok (.invokevirtual 44, 3) := by decide +kernel
theorem dL_law_339 : decode cL_law 339 = .ok (.aload_n 2, 1) := by decide +kernel
theorem dL_law_340 : decode cL_law 340 = .ok (.aload_n 0, 1) := by decide +kernel
theorem dL_law_341 : decode cL_law 341 = .ok (.iload_n 3, 1) := by decide +kernel
theorem dL_law_342 : decode cL_law 342 = .ok (.iconst 1, 1) := by decide +kernel
theorem dL_law_343 : decode cL_law 343 = .ok (.iadd, 1) := by decide +kernel
theorem dL_law_344 : decode cL_law 344 = .ok (.iaload, 1) := by decide +kernel
theorem dL_law_345 : decode cL_law 345 = .ok (.aload_n 0, 1) := by decide +kernel
theorem dL_law_346 : decode cL_law 346 = .ok (.iload_n 3, 1) := by decide +kernel
theorem dL_law_347 : decode cL_law 347 = .ok (.iconst 2, 1) := by decide +kernel
theorem dL_law_348 : decode cL_law 348 = .ok (.iadd, 1) := by decide +kernel
theorem dL_law_349 : decode cL_law 349 = .ok (.iaload, 1) := by decide +kernel
theorem dL_law_350 : decode cL_law 350 = .ok (.invokevirtual 47, 3) := by decide +kernel
theorem dL_law_353 : decode cL_law 353 = .ok (.if_icmp .eq 403, 3) := by decide +kernel
theorem dL_law_356 : decode cL_law 356 = .ok (.iconst 0, 1) := by decide +kernel
theorem dL_law_357 : decode cL_law 357 = .ok (.ireturn, 1) := by decide +kernel
theorem dL_law_358 : decode cL_law 358 = .ok (.aload_n 1, 1) := by decide +kernel
theorem dL_law_359 : decode cL_law 359 = .ok (.aload_n 0, 1) := by decide +kernel
theorem dL_law_360 : decode cL_law 360 = .ok (.iload_n 3, 1) := by decide +kernel
theorem dL_law_361 : decode cL_law 361 = .ok (.iconst 1, 1) := by decide +kernel
theorem dL_law_362 : decode cL_law 362 = .ok (.iadd, 1) := by decide +kernel
theorem dL_law_363 : decode cL_law 363 = .ok (.iaload, 1) := by decide +kernel
theorem dL_law_364 : decode cL_law 364 = .ok (.aload_n 0, 1) := by decide +kernel
theorem dL_law_365 : decode cL_law 365 = .ok (.iload_n 3, 1) := by decide +kernel
theorem dL_law_366 : decode cL_law 366 = .ok (.iconst 2, 1) := by decide +kernel
theorem dL_law_367 : decode cL_law 367 = .ok (.iadd, 1) := by decide +kernel
theorem dL_law_368 : decode cL_law 368 = .ok (.iaload, 1) := by decide +kernel
theorem dL_law_369 : decode cL_law 369 = .ok (.invokevirtual 48, 3) := by decide +kernel
theorem dL_law_372 : decode cL_law 372 = .ok (.aload_n 2, 1) := by decide +kernel
theorem dL_law_373 : decode cL_law 373 = .ok (.aload_n 0, 1) := by decide +kernel
theorem dL_law_374 : decode cL_law 374 = .ok (.iload_n 3, 1) := by decide +kernel
theorem dL_law_375 : decode cL_law 375 = .ok (.iconst 1, 1) := by decide +kernel
theorem dL_law_376 : decode cL_law 376 = .ok (.iadd, 1) := by decide +kernel
theorem dL_law_377 : decode cL_law 377 = .ok (.iaload, 1) := by decide +kernel
theorem dL_law_378 : decode cL_law 378 = .ok (.aload_n 0, 1) := by decide +kernel
theorem dL_law_379 : decode cL_law 379 = .ok (.iload_n 3, 1) := by decide +kernel
theorem dL_law_380 : decode cL_law 380 = .ok (.iconst 2, 1) := by decide +kernel
theorem dL_law_381 : decode cL_law 381 = .ok (.iadd, 1) := by decide +kernel
theorem dL_law_382 : decode cL_law 382 = .ok (.iaload, 1) := by decide +kernel
theorem dL_law_383 : decode cL_law 383 = .ok (.invokevirtual 51, 3) := by decide +kernel
theorem dL_law_386 : decode cL_law 386 = .ok (.if_icmp .eq 370, 3) := by decide +kernel
theorem dL_law_389 : decode cL_law 389 = .ok (.iconst 0, 1) := by decide +kernel
theorem dL_law_390 : decode cL_law 390 = .ok (.ireturn, 1) := by decide +kernel
theorem dL_law_391 : decode cL_law 391 = .ok (.aload_n 1, 1) := by decide +kernel
theorem dL_law_392 : decode cL_law 392 = .ok (.invokevirtual 52, 3) := by decide +kernel
theorem dL_law_395 : decode cL_law 395 = .ok (.aload_n 2, 1) := by decide +kernel
theorem dL_law_396 : decode cL_law 396 = .ok (.invokevirtual 55, 3) := by decide +kernel
theorem dL_law_399 : decode cL_law 399 = .ok (.if_icmp .eq 357, 3) := by decide +kernel
theorem dL_law_402 : decode cL_law 402 = .ok (.iconst 0, 1) := by decide +kernel
theorem dL_law_403 : decode cL_law 403 = .ok (.ireturn, 1) := by decide +kernel
theorem dL_law_404 : decode cL_law 404 = .ok (.aload_n 1, 1) := by decide +kernel
theorem dL_law_405 : decode cL_law 405 = .ok (.aload_n 0, 1) := by decide +kernel
theorem dL_law_406 : decode cL_law 406 = .ok (.iload_n 3, 1) := by decide +kernel
theorem dL_law_407 : decode cL_law 407 = .ok (.iconst 1, 1) := by decide +kernel
theorem dL_law_408 : decode cL_law 408 = .ok (.iadd, 1) := by decide +kernel
theorem dL_law_409 : decode cL_law 409 = .ok (.iaload, 1) := by decide +kernel
theorem dL_law_410 : decode cL_law 410 = .ok (.invokevirtual 56, 3) := by decide +kernel
theorem dL_law_413 : decode cL_law 413 = .ok (.aload_n 2, 1) := by decide +kernel
theorem dL_law_414 : decode cL_law 414 = .ok (.aload_n 0, 1) := by decide +kernel
theorem dL_law_415 : decode cL_law 415 = .ok (.iload_n 3, 1) := by decide +kernel
theorem dL_law_416 : decode cL_law 416 = .ok (.iconst 1, 1) := by decide +kernel
theorem dL_law_417 : decode cL_law 417 = .ok (.iadd, 1) := by decide +kernel
theorem dL_law_418 : decode cL_law 418 = .ok (.iaload, 1) := by decide +kernel
theorem dL_law_419 : decode cL_law 419 = .ok (.invokevirtual 59, 3) := by decide +kernel
theorem dL_law_422 : decode cL_law 422 = .ok (.if_icmp .eq 334, 3) := by decide +kernel
theorem dL_law_425 : decode cL_law 425 = .ok (.iconst 0, 1) := by decide +kernel
theorem dL_law_426 : decode cL_law 426 = .ok (.ireturn, 1) := by decide +kernel
theorem dL_law_427 : decode cL_law 427 = .ok (.aload_n 1, 1) := by decide +kernel
theorem dL_law_428 : decode cL_law 428 = .ok (.aload_n 0, 1) := by decide +kernel
theorem dL_law_429 : decode cL_law 429 = .ok (.iload_n 3, 1) := by decide +kernel
theorem dL_law_430 : decode cL_law 430 = .ok (.iconst 1, 1) := by decide +kernel
theorem dL_law_431 : decode cL_law 431 = .ok (.iadd, 1) := by decide +kernel
theorem dL_law_432 : decode cL_law 432 = .ok (.iaload, 1) := by decide +kernel
theorem dL_law_433 : decode cL_law 433 = .ok (.aload_n 0, 1) := by decide +kernel
theorem dL_law_434 : decode cL_law 434 = .ok (.iload_n 3, 1) := by decide +kernel
theorem dL_law_435 : decode cL_law 435 = .ok (.iconst 2, 1) := by decide +kernel
theorem dL_law_436 : decode cL_law 436 = .ok (.iadd, 1) := by decide +kernel
theorem dL_law_437 : decode cL_law 437 = .ok (.iaload, 1) := by decide +kernel
theorem dL_law_438 : decode cL_law 438 = .ok (.invokevirtual 60, 3) := by decide +kernel
theorem dL_law_441 : decode cL_law 441 = .ok (.aload_n 2, 1) := by decide +kernel
theorem dL_law_442 : decode cL_law 442 = .ok (.aload_n 0, 1) := by decide +kernel
theorem dL_law_443 : decode cL_law 443 = .ok (.iload_n 3, 1) := by decide +kernel
theorem dL_law_444 : decode cL_law 444 = .ok (.iconst 1, 1) := by decide +kernel
theorem dL_law_445 : decode cL_law 445 = .ok (.iadd, 1) := by decide +kernel
theorem dL_law_446 : decode cL_law 446 = .ok (.iaload, 1) := by decide +kernel
theorem dL_law_447 : decode cL_law 447 = .ok (.aload_n 0, 1) := by decide +kernel
theorem dL_law_448 : decode cL_law 448 = .ok (.iload_n 3, 1) := by decide +kernel
theorem dL_law_449 : decode cL_law 449 = .ok (.iconst 2, 1) := by decide +kernel
theorem dL_law_450 : decode cL_law 450 = .ok (.iadd, 1) := by decide +kernel
theorem dL_law_451 : decode cL_law 451 = .ok (.iaload, 1) := by decide +kernel
theorem dL_law_452 : decode cL_law 452 = .ok (.invokevirtual 63, 3) := by decide +kernel
theorem dL_law_455 : decode cL_law 455 = .ok (.if_icmp .eq 301, 3) := by decide +kernel
theorem dL_law_458 : decode cL_law 458 = .ok (.iconst 0, 1) := by decide +kernel
theorem dL_law_459 : decode cL_law 459 = .ok (.ireturn, 1) := by decide +kernel
theorem dL_law_460 : decode cL_law 460 = .ok (.aload_n 1, 1) := by decide +kernel
theorem dL_law_461 : decode cL_law 461 = .ok (.aload_n 0, 1) := by decide +kernel
theorem dL_law_462 : decode cL_law 462 = .ok (.iload_n 3, 1) := by decide +kernel
theorem dL_law_463 : decode cL_law 463 = .ok (.iconst 1, 1) := by decide +kernel
theorem dL_law_464 : decode cL_law 464 = .ok (.iadd, 1) := by decide +kernel
theorem dL_law_465 : decode cL_law 465 = .ok (.iaload, 1) := by decide +kernel
theorem dL_law_466 : decode cL_law 466 = .ok (.aload_n 0, 1) := by decide +kernel
theorem dL_law_467 : decode cL_law 467 = .ok (.iload_n 3, 1) := by decide +kernel
theorem dL_law_468 : decode cL_law 468 = .ok (.iconst 2, 1) := by decide +kernel
theorem dL_law_469 : decode cL_law 469 = .ok (.iadd, 1) := by decide +kernel
theorem dL_law_470 : decode cL_law 470 = .ok (.iaload, 1) := by decide +kernel
theorem dL_law_471 : decode cL_law 471 = .ok (.aload_n 0, 1) := by decide +kernel
theorem dL_law_472 : decode cL_law 472 = .ok (.iload_n 3, 1) := by decide +kernel
theorem dL_law_473 : decode cL_law 473 = .ok (.iconst 3, 1) := by decide +kernel
theorem dL_law_474 : decode cL_law 474 = .ok (.iadd, 1) := by decide +kernel
theorem dL_law_475 : decode cL_law 475 = .ok (.iaload, 1) := by decide +kernel
theorem dL_law_476 : decode cL_law 476 = .ok (.invokevirtual 64, 3) := by decide +kernel
theorem dL_law_479 : decode cL_law 479 = .ok (.aload_n 2, 1) := by decide +kernel
theorem dL_law_480 : decode cL_law 480 = .ok (.aload_n 0, 1) := by decide +kernel
theorem dL_law_481 : decode cL_law 481 = .ok (.iload_n 3, 1) := by decide +kernel
theorem dL_law_482 : decode cL_law 482 = .ok (.iconst 1, 1) := by decide +kernel
theorem dL_law_483 : decode cL_law 483 = .ok (.iadd, 1) := by decide +kernel
theorem dL_law_484 : decode cL_law 484 = .ok (.iaload, 1) := by decide +kernel
theorem dL_law_485 : decode cL_law 485 = .ok (.aload_n 0, 1) := by decide +kernel
theorem dL_law_486 : decode cL_law 486 = .ok (.iload_n 3, 1) := by decide +kernel
theorem dL_law_487 : decode cL_law 487 = .ok (.iconst 2, 1) := by decide +kernel
theorem dL_law_488 : decode cL_law 488 = .ok (.iadd, 1) := by decide +kernel
theorem dL_law_489 : decode cL_law 489 = .ok (.iaload, 1) := by decide +kernel
theorem dL_law_490 : decode cL_law 490 = .ok (.aload_n 0, 1) := by decide +kernel
theorem dL_law_491 : decode cL_law 491 = .ok (.iload_n 3, 1) := by decide +kernel
theorem dL_law_492 : decode cL_law 492 = .ok (.iconst 3, 1) := by decide +kernel
theorem dL_law_493 : decode cL_law 493 = .ok (.iadd, 1) := by decide +kernel
theorem dL_law_494 : decode cL_law 494 = .ok (.iaload, 1) := by decide +kernel
theorem dL_law_495 : decode cL_law 495 = .ok (.invokevirtual 68, 3) := by decide +kernel
theorem dL_law_498 : decode cL_law 498 = .ok (.if_icmp .eq 258, 3) := by decide +kernel
theorem dL_law_501 : decode cL_law 501 = .ok (.iconst 0, 1) := by decide +kernel
theorem dL_law_502 : decode cL_law 502 = .ok (.ireturn, 1) := by decide +kernel
theorem dL_law_503 : decode cL_law 503 = .ok (.aload_n 1, 1) := by decide +kernel
theorem dL_law_504 : decode cL_law 504 = .ok (.aload_n 0, 1) := by decide +kernel
theorem dL_law_505 : decode cL_law 505 = .ok (.iload_n 3, 1) := by decide +kernel
theorem dL_law_506 : decode cL_law 506 = .ok (.iconst 1, 1) := by decide +kernel
theorem dL_law_507 : decode cL_law 507 = .ok (.iadd, 1) := by decide +kernel
theorem dL_law_508 : decode cL_law 508 = .ok (.iaload, 1) := by decide +kernel
theorem dL_law_509 : decode cL_law 509 = .ok (.aload_n 0, 1) := by decide +kernel
theorem dL_law_510 : decode cL_law 510 = .ok (.iload_n 3, 1) := by decide +kernel
theorem dL_law_511 : decode cL_law 511 = .ok (.iconst 2, 1) := by decide +kernel
theorem dL_law_512 : decode cL_law 512 = .ok (.iadd, 1) := by decide +kernel
theorem dL_law_513 : decode cL_law 513 = .ok (.iaload, 1) := by decide +kernel
theorem dL_law_514 : decode cL_law 514 = .ok (.invokevirtual 69, 3) := by decide +kernel
theorem dL_law_517 : decode cL_law 517 = .ok (.aload_n 2, 1) := by decide +kernel
theorem dL_law_518 : decode cL_law 518 = .ok (.aload_n 0, 1) := by decide +kernel
theorem dL_law_519 : decode cL_law 519 = .ok (.iload_n 3, 1) := by decide +kernel
theorem dL_law_520 : decode cL_law 520 = .ok (.iconst 1, 1) := by decide +kernel
theorem dL_law_521 : decode cL_law 521 = .ok (.iadd, 1) := by decide +kernel
theorem dL_law_522 : decode cL_law 522 = .ok (.iaload, 1) := by decide +kernel
theorem dL_law_523 : decode cL_law 523 = .ok (.aload_n 0, 1) := by decide +kernel
theorem dL_law_524 : decode cL_law 524 = .ok (.iload_n 3, 1) := by decide +kernel
theorem dL_law_525 : decode cL_law 525 = .ok (.iconst 2, 1) := by decide +kernel
theorem dL_law_526 : decode cL_law 526 = .ok (.iadd, 1) := by decide +kernel
theorem dL_law_527 : decode cL_law 527 = .ok (.iaload, 1) := by decide +kernel
theorem dL_law_528 : decode cL_law 528 = .ok (.invokevirtual 72, 3) := by decide +kernel
theorem dL_law_531 : decode cL_law 531 = .ok (.if_icmp .eq 225, 3) := by decide +kernel
theorem dL_law_534 : decode cL_law 534 = .ok (.iconst 0, 1) := by decide +kernel
theorem dL_law_535 : decode cL_law 535 = .ok (.ireturn, 1) := by decide +kernel
theorem dL_law_536 : decode cL_law 536 = .ok (.aload_n 1, 1) := by decide +kernel
theorem dL_law_537 : decode cL_law 537 = .ok (.aload_n 0, 1) := by decide +kernel
theorem dL_law_538 : decode cL_law 538 = .ok (.iload_n 3, 1) := by decide +kernel
theorem dL_law_539 : decode cL_law 539 = .ok (.iconst 1, 1) := by decide +kernel
theorem dL_law_540 : decode cL_law 540 = .ok (.iadd, 1) := by decide +kernel
theorem dL_law_541 : decode cL_law 541 = .ok (.iaload, 1) := by decide +kernel
theorem dL_law_542 : decode cL_law 542 = .ok (.invokevirtual 73, 3) := by decide +kernel
theorem dL_law_545 : decode cL_law 545 = .ok (.aload_n 2, 1) := by decide +kernel
theorem dL_law_546 : decode cL_law 546 = .ok (.aload_n 0, 1) := by decide +kernel
theorem dL_law_547 : decode cL_law 547 = .ok (.iload_n 3, 1) := by decide +kernel
theorem dL_law_548 : decode cL_law 548 = .ok (.iconst 1, 1) := by decide +kernel
theorem dL_law_549 : decode cL_law 549 = .ok (.iadd, 1) := by decide +kernel
theorem dL_law_550 : decode cL_law 550 = .ok (.iaload, 1) := by decide +kernel
theorem dL_law_551 : decode cL_law 551 = .ok (.invokevirtual 76, 3) := by decide +kernel
theorem dL_law_554 : decode cL_law 554 = .ok (.if_icmp .eq 202, 3) := by decide +kernel
theorem dL_law_557 : decode cL_law 557 = .ok (.iconst 0, 1) := by decide +kernel
theorem dL_law_558 : decode cL_law 558 = .ok (.ireturn, 1) := by decide +kernel
theorem dL_law_559 : decode cL_law 559 = .ok (.aload_n 1, 1) := by decide +kernel
theorem dL_law_560 : decode cL_law 560 = .ok (.invokevirtual 77, 3) := by decide +kernel
theorem dL_law_563 : decode cL_law 563 = .ok (.aload_n 2, 1) := by decide +kernel
theorem dL_law_564 : decode cL_law 564 = .ok (.invokevirtual 80, 3) := by decide +kernel
theorem dL_law_567 : decode cL_law 567 = .ok (.if_icmp .eq 189, 3) := by decide +kernel
theorem dL_law_570 : decode cL_law 570 = .ok (.iconst 0, 1) := by decide +kernel
theorem dL_law_571 : decode cL_law 571 = .ok (.ireturn, 1) := by decide +kernel
theorem dL_law_572 : decode cL_law 572 = .ok (.aload_n 1, 1) := by decide +kernel
theorem dL_law_573 : decode cL_law 573 = .ok (.aload_n 0, 1) := by decide +kernel
theorem dL_law_574 : decode cL_law 574 = .ok (.iload_n 3, 1) := by decide +kernel
theorem dL_law_575 : decode cL_law 575 = .ok (.iconst 1, 1) := by decide +kernel
theorem dL_law_576 : decode cL_law 576 = .ok (.iadd, 1) := by decide +kernel
theorem dL_law_577 : decode cL_law 577 = .ok (.iaload, 1) := by decide +kernel
theorem dL_law_578 : decode cL_law 578 = .ok (.invokevirtual 81, 3) := by decide +kernel
theorem dL_law_581 : decode cL_law 581 = .ok (.aload_n 2, 1) := by decide +kernel
theorem dL_law_582 : decode cL_law 582 = .ok (.aload_n 0, 1) := by decide +kernel
theorem dL_law_583 : decode cL_law 583 = .ok (.iload_n 3, 1) := by decide +kernel
theorem dL_law_584 : decode cL_law 584 = .ok (.iconst 1, 1) := by decide +kernel
theorem dL_law_585 : decode cL_law 585 = .ok (.iadd, 1) := by decide +kernel
theorem dL_law_586 : decode cL_law 586 = .ok (.iaload, 1) := by decide +kernel
theorem dL_law_587 : decode cL_law 587 = .ok (.invokevirtual 84, 3) := by decide +kernel
theorem dL_law_590 : decode cL_law 590 = .ok (.if_icmp .eq 166, 3) := by decide +kernel
theorem dL_law_593 : decode cL_law 593 = .ok (.iconst 0, 1) := by decide +kernel
theorem dL_law_594 : decode cL_law 594 = .ok (.ireturn, 1) := by decide +kernel
theorem dL_law_595 : decode cL_law 595 = .ok (.aload_n 1, 1) := by decide +kernel
theorem dL_law_596 : decode cL_law 596 = .ok (.aload_n 0, 1) := by decide +kernel
theorem dL_law_597 : decode cL_law 597 = .ok (.iload_n 3, 1) := by decide +kernel
theorem dL_law_598 : decode cL_law 598 = .ok (.iconst 1, 1) := by decide +kernel
theorem dL_law_599 : decode cL_law 599 = .ok (.iadd, 1) := by decide +kernel
theorem dL_law_600 : decode cL_law 600 = .ok (.iaload, 1) := by decide +kernel
theorem dL_law_601 : decode cL_law 601 = .ok (.invokevirtual 85, 3) := by decide +kernel
theorem dL_law_604 : decode cL_law 604 = .ok (.aload_n 2, 1) := by decide +kernel
theorem dL_law_605 : decode cL_law 605 = .ok (.aload_n 0, 1) := by decide +kernel
theorem dL_law_606 : decode cL_law 606 = .ok (.iload_n 3, 1) := by decide +kernel
theorem dL_law_607 : decode cL_law 607 = .ok (.iconst 1, 1) := by decide +kernel
theorem dL_law_608 : decode cL_law 608 = .ok (.iadd, 1) := by decide +kernel
theorem dL_law_609 : decode cL_law 609 = .ok (.iaload, 1) := by decide +kernel
theorem dL_law_610 : decode cL_law 610 = .ok (.invokevirtual 88, 3) := by decide +kernel
theorem dL_law_613 : decode cL_law 613 = .ok (.if_icmp .eq 143, 3) := by decide +kernel
theorem dL_law_616 : decode cL_law 616 = .ok (.iconst 0, 1) := by decide +kernel
theorem dL_law_617 : decode cL_law 617 = .ok (.ireturn, 1) := by decide +kernel
theorem dL_law_618 : decode cL_law 618 = .ok (.aload_n 1, 1) := by decide +kernel
theorem dL_law_619 : decode cL_law 619 = .ok (.aload_n 0, 1) := by decide +kernel
theorem dL_law_620 : decode cL_law 620 = .ok (.iload_n 3, 1) := by decide +kernel
theorem dL_law_621 : decode cL_law 621 = .ok (.iconst 1, 1) := by decide +kernel
theorem dL_law_622 : decode cL_law 622 = .ok (.iadd, 1) := by decide +kernel
theorem dL_law_623 : decode cL_law 623 = .ok (.iaload, 1) := by decide +kernel
theorem dL_law_624 : decode cL_law 624 = .ok (.aload_n 0, 1) := by decide +kernel
theorem dL_law_625 : decode cL_law 625 = .ok (.iload_n 3, 1) := by decide +kernel
theorem dL_law_626 : decode cL_law 626 = .ok (.iconst 2, 1) := by decide +kernel
theorem dL_law_627 : decode cL_law 627 = .ok (.iadd, 1) := by decide +kernel
theorem dL_law_628 : decode cL_law 628 = .ok (.iaload, 1) := by decide +kernel
theorem dL_law_629 : decode cL_law 629 = .ok (.invokevirtual 89, 3) := by decide +kernel
theorem dL_law_632 : decode cL_law 632 = .ok (.aload_n 2, 1) := by decide +kernel
theorem dL_law_633 : decode cL_law 633 = .ok (.aload_n 0, 1) := by decide +kernel
theorem dL_law_634 : decode cL_law 634 = .ok (.iload_n 3, 1) := by decide +kernel
theorem dL_law_635 : decode cL_law 635 = .ok (.iconst 1, 1) := by decide +kernel
theorem dL_law_636 : decode cL_law 636 = .ok (.iadd, 1) := by decide +kernel
theorem dL_law_637 : decode cL_law 637 = .ok (.iaload, 1) := by decide +kernel
theorem dL_law_638 : decode cL_law 638 = .ok (.aload_n 0, 1) := by decide +kernel
theorem dL_law_639 : decode cL_law 639 = .ok (.iload_n 3, 1) := by decide +kernel
theorem dL_law_640 : decode cL_law 640 = .ok (.iconst 2, 1) := by decide +kernel
theorem dL_law_641 : decode cL_law 641 = .ok (.iadd, 1) := by decide +kernel
theorem dL_law_642 : decode cL_law 642 = .ok (.iaload, 1) := by decide +kernel
theorem dL_law_643 : decode cL_law 643 = .ok (.invokevirtual 92, 3) := by decide +kernel
theorem dL_law_646 : decode cL_law 646 = .ok (.if_icmp .eq 110, 3) := by decide +kernel
theorem dL_law_649 : decode cL_law 649 = .ok (.iconst 0, 1) := by decide +kernel
theorem dL_law_650 : decode cL_law 650 = .ok (.ireturn, 1) := by decide +kernel
theorem dL_law_651 : decode cL_law 651 = .ok (.aload_n 1, 1) := by decide +kernel
theorem dL_law_652 : decode cL_law 652 = .ok (.invokevirtual 93, 3) := by decide +kernel
theorem dL_law_655 : decode cL_law 655 = .ok (.aload_n 2, 1) := by decide +kernel
theorem dL_law_656 : decode cL_law 656 = .ok (.invokevirtual 96, 3) := by decide +kernel
theorem dL_law_659 : decode cL_law 659 = .ok (.if_icmp .eq 97, 3) := by decide +kernel
theorem dL_law_662 : decode cL_law 662 = .ok (.iconst 0, 1) := by decide +kernel
theorem dL_law_663 : decode cL_law 663 = .ok (.ireturn, 1) := by decide +kernel
theorem dL_law_664 : decode cL_law 664 = .ok (.aload_n 1, 1) := by decide +kernel
theorem dL_law_665 : decode cL_law 665 = .ok (.aload_n 0, 1) := by decide +kernel
theorem dL_law_666 : decode cL_law 666 = .ok (.iload_n 3, 1) := by decide +kernel
theorem dL_law_667 : decode cL_law 667 = .ok (.iconst 1, 1) := by decide +kernel
theorem dL_law_668 : decode cL_law 668 = .ok (.iadd, 1) := by decide +kernel
theorem dL_law_669 : decode cL_law 669 = .ok (.iaload, 1) := by decide +kernel
theorem dL_law_670 : decode cL_law 670 = .ok (.invokevirtual 97, 3) := by decide +kernel
theorem dL_law_673 : decode cL_law 673 = .ok (.aload_n 2, 1) := by decide +kernel
theorem dL_law_674 : decode cL_law 674 = .ok (.aload_n 0, 1) := by decide +kernel
theorem dL_law_675 : decode cL_law 675 = .ok (.iload_n 3, 1) := by decide +kernel
theorem dL_law_676 : decode cL_law 676 = .ok (.iconst 1, 1) := by decide +kernel
theorem dL_law_677 : decode cL_law 677 = .ok (.iadd, 1) := by decide +kernel
theorem dL_law_678 : decode cL_law 678 = .ok (.iaload, 1) := by decide +kernel
theorem dL_law_679 : decode cL_law 679 = .ok (.invokevirtual 100, 3) := by decide +kernel
theorem dL_law_682 : decode cL_law 682 = .ok (.if_icmp .eq 74, 3) := by decide +kernel
theorem dL_law_685 : decode cL_law 685 = .ok (.iconst 0, 1) := by decide +kernel
theorem dL_law_686 : decode cL_law 686 = .ok (.ireturn, 1) := by decide +kernel
theorem dL_law_687 : decode cL_law 687 = .ok (.aload_n 1, 1) := by decide +kernel
theorem dL_law_688 : decode cL_law 688 = .ok (.aload_n 0, 1) := by decide +kernel
theorem dL_law_689 : decode cL_law 689 = .ok (.iload_n 3, 1) := by decide +kernel
theorem dL_law_690 : decode cL_law 690 = .ok (.iconst 1, 1) := by decide +kernel
theorem dL_law_691 : decode cL_law 691 = .ok (.iadd, 1) := by decide +kernel
theorem dL_law_692 : decode cL_law 692 = .ok (.iaload, 1) := by decide +kernel
theorem dL_law_693 : decode cL_law 693 = .ok (.invokevirtual 101, 3) := by decide +kernel
theorem dL_law_696 : decode cL_law 696 = .ok (.aload_n 2, 1) := by decide +kernel
theorem dL_law_697 : decode cL_law 697 = .ok (.aload_n 0, 1) := by decide +kernel
theorem dL_law_698 : decode cL_law 698 = .ok (.iload_n 3, 1) := by decide +kernel
theorem dL_law_699 : decode cL_law 699 = .ok (.iconst 1, 1) := by decide +kernel
theorem dL_law_700 : decode cL_law 700 = .ok (.iadd, 1) := by decide +kernel
theorem dL_law_701 : decode cL_law 701 = .ok (.iaload, 1) := by decide +kernel
theorem dL_law_702 : decode cL_law 702 = .ok (.invokevirtual 104, 3) := by decide +kernel
theorem dL_law_705 : decode cL_law 705 = .ok (.if_icmp .eq 51, 3) := by decide +kernel
theorem dL_law_708 : decode cL_law 708 = .ok (.iconst 0, 1) := by decide +kernel
theorem dL_law_709 : decode cL_law 709 = .ok (.ireturn, 1) := by decide +kernel
theorem dL_law_710 : decode cL_law 710 = .ok (.aload_n 1, 1) := by decide +kernel
theorem dL_law_711 : decode cL_law 711 = .ok (.aload_n 0, 1) := by decide +kernel
theorem dL_law_712 : decode cL_law 712 = .ok (.iload_n 3, 1) := by decide +kernel
theorem dL_law_713 : decode cL_law 713 = .ok (.iconst 1, 1) := by decide +kernel
theorem dL_law_714 : decode cL_law 714 = .ok (.iadd, 1) := by decide +kernel
theorem dL_law_715 : decode cL_law 715 = .ok (.iaload, 1) := by decide +kernel
theorem dL_law_716 : decode cL_law 716 = .ok (.invokevirtual 105, 3) := by decide +kernel
theorem dL_law_719 : decode cL_law 719 = .ok (.aload_n 2, 1) := by decide +kernel
theorem dL_law_720 : decode cL_law 720 = .ok (.aload_n 0, 1) := by decide +kernel
theorem dL_law_721 : decode cL_law 721 = .ok (.iload_n 3, 1) := by decide +kernel
theorem dL_law_722 : decode cL_law 722 = .ok (.iconst 1, 1) := by decide +kernel
theorem dL_law_723 : decode cL_law 723 = .ok (.iadd, 1) := by decide +kernel
theorem dL_law_724 : decode cL_law 724 = .ok (.iaload, 1) := by decide +kernel
theorem dL_law_725 : decode cL_law 725 = .ok (.invokevirtual 108, 3) := by decide +kernel
theorem dL_law_728 : decode cL_law 728 = .ok (.if_icmp .eq 28, 3) := by decide +kernel
theorem dL_law_731 : decode cL_law 731 = .ok (.iconst 0, 1) := by decide +kernel
theorem dL_law_732 : decode cL_law 732 = .ok (.ireturn, 1) := by decide +kernel
theorem dL_law_733 : decode cL_law 733 = .ok (.aload_n 1, 1) := by decide +kernel
theorem dL_law_734 : decode cL_law 734 = .ok (.aload_n 0, 1) := by decide +kernel
theorem dL_law_735 : decode cL_law 735 = .ok (.iload_n 3, 1) := by decide +kernel
theorem dL_law_736 : decode cL_law 736 = .ok (.iconst 1, 1) := by decide +kernel
theorem dL_law_737 : decode cL_law 737 = .ok (.iadd, 1) := by decide +kernel
theorem dL_law_738 : decode cL_law 738 = .ok (.iaload, 1) := by decide +kernel
theorem dL_law_739 : decode cL_law 739 = .ok (.invokevirtual 109, 3) := by decide +kernel
theorem dL_law_742 : decode cL_law 742 = .ok (.aload_n 2, 1) := by decide +kernel
theorem dL_law_743 : decode cL_law 743 = .ok (.aload_n 0, 1) := by decide +kernel
theorem dL_law_744 : decode cL_law 744 = .ok (.iload_n 3, 1) := by decide +kernel
theorem dL_law_745 : decode cL_law 745 = .ok (.iconst 1, 1) := by decide +kernel
theorem dL_law_746 : decode cL_law 746 = .ok (.iadd, 1) := by decide +kernel
theorem dL_law_747 : decode cL_law 747 = .ok (.iaload, 1) := by decide +kernel
theorem dL_law_748 : decode cL_law 748 = .ok (.invokevirtual 112, 3) := by decide +kernel
theorem dL_law_751 : decode cL_law 751 = .ok (.if_icmp .eq 5, 3) := by decide +kernel
theorem dL_law_754 : decode cL_law 754 = .ok (.iconst 0, 1) := by decide +kernel
theorem dL_law_755 : decode cL_law 755 = .ok (.ireturn, 1) := by decide +kernel
theorem dL_law_756 : decode cL_law 756 = .ok (.iinc 3 4, 3) := by decide +kernel
theorem dL_law_759 : decode cL_law 759 = .ok (.goto (-741), 3) := by decide +kernel
theorem dL_law_762 : decode cL_law 762 = .ok (.iconst 1, 1) := by decide +kernel
theorem dL_law_763 : decode cL_law 763 = .ok (.ireturn, 1) := by decide +kernel
