/-! pure: numbers -/
def zI (z : Int) : Int32 := Int32.ofInt z
theorem zI_nat (n : Nat) : nI n = zI n := Int32.ofInt_eq_ofNat.symm
theorem zI_l (n : Nat) : (no_index (OfNat.ofNat n) : Int32) = zI (OfNat.ofNat n) := Int32.ofInt_eq_ofNat.symm
theorem nl_0 : (0 : Int32) = nI 0 := rfl
theorem nl_1 : (1 : Int32) = nI 1 := rfl
theorem nl_2 : (2 : Int32) = nI 2 := rfl
theorem nl_3 : (3 : Int32) = nI 3 := rfl
theorem nl_4 : (4 : Int32) = nI 4 := rfl
theorem nl_5 : (5 : Int32) = nI 5 := rfl
theorem nl_6 : (6 : Int32) = nI 6 := rfl
theorem nl_7 : (7 : Int32) = nI 7 := rfl
theorem nl_8 : (8 : Int32) = nI 8 := rfl
theorem nl_9 : (9 : Int32) = nI 9 := rfl
theorem nl_10 : (10 : Int32) = nI 10 := rfl
theorem nl_11 : (11 : Int32) = nI 11 := rfl
theorem nl_12 : (12 : Int32) = nI 12 := rfl
theorem nl_13 : (13 : Int32) = nI 13 := rfl
theorem nl_14 : (14 : Int32) = nI 14 := rfl
theorem nl_15 : (15 : Int32) = nI 15 := rfl
theorem nl_16 : (16 : Int32) = nI 16 := rfl
theorem nl_17 : (17 : Int32) = nI 17 := rfl
theorem nl_18 : (18 : Int32) = nI 18 := rfl
theorem nl_19 : (19 : Int32) = nI 19 := rfl
theorem nl_20 : (20 : Int32) = nI 20 := rfl
theorem nl_21 : (21 : Int32) = nI 21 := rfl
theorem nl_22 : (22 : Int32) = nI 22 := rfl
theorem nl_23 : (23 : Int32) = nI 23 := rfl
theorem nl_24 : (24 : Int32) = nI 24 := rfl
theorem nl_25 : (25 : Int32) = nI 25 := rfl
theorem nl_26 : (26 : Int32) = nI 26 := rfl
theorem nl_27 : (27 : Int32) = nI 27 := rfl
theorem nl_28 : (28 : Int32) = nI 28 := rfl
theorem nl_29 : (29 : Int32) = nI 29 := rfl
theorem nl_30 : (30 : Int32) = nI 30 := rfl
theorem nl_31 : (31 : Int32) = nI 31 := rfl
theorem nl_32 : (32 : Int32) = nI 32 := rfl
theorem nl_33 : (33 : Int32) = nI 33 := rfl
theorem nl_34 : (34 : Int32) = nI 34 := rfl
theorem nl_35 : (35 : Int32) = nI 35 := rfl
theorem nl_36 : (36 : Int32) = nI 36 := rfl
theorem nl_37 : (37 : Int32) = nI 37 := rfl
theorem nl_38 : (38 : Int32) = nI 38 := rfl
theorem nl_39 : (39 : Int32) = nI 39 := rfl
theorem nl_40 : (40 : Int32) = nI 40 := rfl
theorem nl_41 : (41 : Int32) = nI 41 := rfl
theorem nl_42 : (42 : Int32) = nI 42 := rfl
theorem nl_43 : (43 : Int32) = nI 43 := rfl
theorem nl_44 : (44 : Int32) = nI 44 := rfl
theorem nl_45 : (45 : Int32) = nI 45 := rfl
theorem nl_46 : (46 : Int32) = nI 46 := rfl
theorem nl_47 : (47 : Int32) = nI 47 := rfl
theorem nl_48 : (48 : Int32) = nI 48 := rfl
theorem nl_49 : (49 : Int32) = nI 49 := rfl
theorem nl_50 : (50 : Int32) = nI 50 := rfl
theorem nl_51 : (51 : Int32) = nI 51 := rfl
theorem nl_52 : (52 : Int32) = nI 52 := rfl
theorem nl_53 : (53 : Int32) = nI 53 := rfl
theorem nl_54 : (54 : Int32) = nI 54 := rfl
theorem nl_55 : (55 : Int32) = nI 55 := rfl
theorem nl_56 : (56 : Int32) = nI 56 := rfl
theorem nl_57 : (57 : Int32) = nI 57 := rfl
theorem nl_58 : (58 : Int32) = nI 58 := rfl
theorem nl_59 : (59 : Int32) = nI 59 := rfl
theorem nl_60 : (60 : Int32) = nI 60 := rfl
theorem nl_61 : (61 : Int32) = nI 61 := rfl
theorem nl_62 : (62 : Int32) = nI 62 := rfl
theorem nl_63 : (63 : Int32) = nI 63 := rfl
theorem nl_64 : (64 : Int32) = nI 64 := rfl
theorem nl_65 : (65 : Int32) = nI 65 := rfl
theorem nl_66 : (66 : Int32) = nI 66 := rfl
theorem nl_67 : (67 : Int32) = nI 67 := rfl
theorem nl_68 : (68 : Int32) = nI 68 := rfl
theorem nl_69 : (69 : Int32) = nI 69 := rfl
theorem nl_70 : (70 : Int32) = nI 70 := rfl
theorem nl_71 : (71 : Int32) = nI 71 := rfl
theorem nl_72 : (72 : Int32) = nI 72 := rfl
theorem nl_73 : (73 : Int32) = nI 73 := rfl
theorem nl_74 : (74 : Int32) = nI 74 := rfl
theorem nl_75 : (75 : Int32) = nI 75 := rfl
theorem nl_76 : (76 : Int32) = nI 76 := rfl
theorem nl_77 : (77 : Int32) = nI 77 := rfl
theorem nl_78 : (78 : Int32) = nI 78 := rfl
theorem nl_79 : (79 : Int32) = nI 79 := rfl
theorem nl_80 : (80 : Int32) = nI 80 := rfl
theorem nl_81 : (81 : Int32) = nI 81 := rfl
theorem nl_82 : (82 : Int32) = nI 82 := rfl
theorem nl_83 : (83 : Int32) = nI 83 := rfl
theorem nl_84 : (84 : Int32) = nI 84 := rfl
theorem nl_85 : (85 : Int32) = nI 85 := rfl
theorem nl_86 : (86 : Int32) = nI 86 := rfl
theorem nl_87 : (87 : Int32) = nI 87 := rfl
theorem nl_88 : (88 : Int32) = nI 88 := rfl
theorem nl_89 : (89 : Int32) = nI 89 := rfl
theorem nl_90 : (90 : Int32) = nI 90 := rfl
theorem nl_91 : (91 : Int32) = nI 91 := rfl
theorem nl_92 : (92 : Int32) = nI 92 := rfl
theorem nl_93 : (93 : Int32) = nI 93 := rfl
theorem nl_94 : (94 : Int32) = nI 94 := rfl
theorem nl_95 : (95 : Int32) = nI 95 := rfl
theorem nl_96 : (96 : Int32) = nI 96 := rfl
theorem nl_97 : (97 : Int32) = nI 97 := rfl
theorem nl_98 : (98 : Int32) = nI 98 := rfl
theorem nl_99 : (99 : Int32) = nI 99 := rfl
theorem nl_100 : (100 : Int32) = nI 100 := rfl
theorem nl_101 : (101 : Int32) = nI 101 := rfl
theorem nl_102 : (102 : Int32) = nI 102 := rfl
theorem nl_103 : (103 : Int32) = nI 103 := rfl
theorem nl_104 : (104 : Int32) = nI 104 := rfl
theorem nl_105 : (105 : Int32) = nI 105 := rfl
theorem nl_106 : (106 : Int32) = nI 106 := rfl
theorem nl_107 : (107 : Int32) = nI 107 := rfl
theorem nl_108 : (108 : Int32) = nI 108 := rfl
theorem nl_109 : (109 : Int32) = nI 109 := rfl
theorem nl_110 : (110 : Int32) = nI 110 := rfl
theorem nl_111 : (111 : Int32) = nI 111 := rfl
theorem nl_112 : (112 : Int32) = nI 112 := rfl
theorem nl_113 : (113 : Int32) = nI 113 := rfl
theorem nl_114 : (114 : Int32) = nI 114 := rfl
theorem nl_115 : (115 : Int32) = nI 115 := rfl
theorem nl_116 : (116 : Int32) = nI 116 := rfl
theorem nl_117 : (117 : Int32) = nI 117 := rfl
theorem nl_118 : (118 : Int32) = nI 118 := rfl
theorem nl_119 : (119 : Int32) = nI 119 := rfl
theorem nl_120 : (120 : Int32) = nI 120 := rfl
theorem nl_121 : (121 : Int32) = nI 121 := rfl
theorem nl_122 : (122 : Int32) = nI 122 := rfl
theorem nl_123 : (123 : Int32) = nI 123 := rfl
theorem nl_124 : (124 : Int32) = nI 124 := rfl
theorem nl_125 : (125 : Int32) = nI 125 := rfl
theorem nl_126 : (126 : Int32) = nI 126 := rfl
theorem nl_127 : (127 : Int32) = nI 127 := rfl
theorem nl_128 : (128 : Int32) = nI 128 := rfl
theorem nl_129 : (129 : Int32) = nI 129 := rfl
theorem nl_130 : (130 : Int32) = nI 130 := rfl
theorem nl_131 : (131 : Int32) = nI 131 := rfl
theorem nl_132 : (132 : Int32) = nI 132 := rfl
theorem nl_133 : (133 : Int32) = nI 133 := rfl
theorem nl_134 : (134 : Int32) = nI 134 := rfl
theorem nl_135 : (135 : Int32) = nI 135 := rfl
theorem nl_136 : (136 : Int32) = nI 136 := rfl
theorem nl_137 : (137 : Int32) = nI 137 := rfl
theorem nl_138 : (138 : Int32) = nI 138 := rfl
theorem nl_139 : (139 : Int32) = nI 139 := rfl
theorem nl_140 : (140 : Int32) = nI 140 := rfl
theorem nl_141 : (141 : Int32) = nI 141 := rfl
theorem nl_142 : (142 : Int32) = nI 142 := rfl
theorem nl_143 : (143 : Int32) = nI 143 := rfl
theorem nl_144 : (144 : Int32) = nI 144 := rfl
theorem nl_145 : (145 : Int32) = nI 145 := rfl
theorem nl_146 : (146 : Int32) = nI 146 := rfl
theorem nl_147 : (147 : Int32) = nI 147 := rfl
theorem nl_148 : (148 : Int32) = nI 148 := rfl
theorem nl_149 : (149 : Int32) = nI 149 := rfl
theorem nl_150 : (150 : Int32) = nI 150 := rfl
theorem nl_151 : (151 : Int32) = nI 151 := rfl
theorem nl_152 : (152 : Int32) = nI 152 := rfl
theorem nl_153 : (153 : Int32) = nI 153 := rfl
theorem nl_154 : (154 : Int32) = nI 154 := rfl
theorem nl_155 : (155 : Int32) = nI 155 := rfl
theorem nl_156 : (156 : Int32) = nI 156 := rfl
theorem nl_157 : (157 : Int32) = nI 157 := rfl
theorem nl_158 : (158 : Int32) = nI 158 := rfl
theorem nl_159 : (159 : Int32) = nI 159 := rfl
theorem nl_160 : (160 : Int32) = nI 160 := rfl
theorem nl_161 : (161 : Int32) = nI 161 := rfl
theorem nl_162 : (162 : Int32) = nI 162 := rfl
theorem nl_163 : (163 : Int32) = nI 163 := rfl
theorem nl_164 : (164 : Int32) = nI 164 := rfl
theorem nl_165 : (165 : Int32) = nI 165 := rfl
theorem nl_166 : (166 : Int32) = nI 166 := rfl
theorem nl_167 : (167 : Int32) = nI 167 := rfl
theorem nl_168 : (168 : Int32) = nI 168 := rfl
theorem nl_169 : (169 : Int32) = nI 169 := rfl
theorem nl_170 : (170 : Int32) = nI 170 := rfl
theorem nl_171 : (171 : Int32) = nI 171 := rfl
theorem nl_172 : (172 : Int32) = nI 172 := rfl
theorem nl_173 : (173 : Int32) = nI 173 := rfl
theorem nl_174 : (174 : Int32) = nI 174 := rfl
theorem nl_175 : (175 : Int32) = nI 175 := rfl
theorem nl_176 : (176 : Int32) = nI 176 := rfl
theorem nl_177 : (177 : Int32) = nI 177 := rfl
theorem nl_178 : (178 : Int32) = nI 178 := rfl
theorem nl_179 : (179 : Int32) = nI 179 := rfl
theorem nl_180 : (180 : Int32) = nI 180 := rfl
theorem nl_181 : (181 : Int32) = nI 181 := rfl
theorem nl_182 : (182 : Int32) = nI 182 := rfl
theorem nl_183 : (183 : Int32) = nI 183 := rfl
theorem nl_184 : (184 : Int32) = nI 184 := rfl
theorem nl_185 : (185 : Int32) = nI 185 := rfl
theorem nl_186 : (186 : Int32) = nI 186 := rfl
theorem nl_187 : (187 : Int32) = nI 187 := rfl
theorem nl_188 : (188 : Int32) = nI 188 := rfl
theorem nl_189 : (189 : Int32) = nI 189 := rfl
theorem nl_190 : (190 : Int32) = nI 190 := rfl
theorem nl_191 : (191 : Int32) = nI 191 := rfl
theorem nl_192 : (192 : Int32) = nI 192 := rfl
theorem nl_193 : (193 : Int32) = nI 193 := rfl
theorem nl_194 : (194 : Int32) = nI 194 := rfl
theorem nl_195 : (195 : Int32) = nI 195 := rfl
theorem nl_196 : (196 : Int32) = nI 196 := rfl
theorem nl_197 : (197 : Int32) = nI 197 := rfl
theorem nl_198 : (198 : Int32) = nI 198 := rfl
theorem nl_199 : (199 : Int32) = nI 199 := rfl
theorem nl_200 : (200 : Int32) = nI 200 := rfl
theorem nl_201 : (201 : Int32) = nI 201 := rfl
theorem nl_202 : (202 : Int32) = nI 202 := rfl
theorem nl_203 : (203 : Int32) = nI 203 := rfl
theorem nl_204 : (204 : Int32) = nI 204 := rfl
theorem nl_205 : (205 : Int32) = nI 205 := rfl
theorem nl_206 : (206 : Int32) = nI 206 := rfl
theorem nl_207 : (207 : Int32) = nI 207 := rfl
theorem nl_208 : (208 : Int32) = nI 208 := rfl
theorem nl_209 : (209 : Int32) = nI 209 := rfl
theorem nl_210 : (210 : Int32) = nI 210 := rfl
theorem nl_211 : (211 : Int32) = nI 211 := rfl
theorem nl_212 : (212 : Int32) = nI 212 := rfl
theorem nl_213 : (213 : Int32) = nI 213 := rfl
theorem nl_214 : (214 : Int32) = nI 214 := rfl
theorem nl_215 : (215 : Int32) = nI 215 := rfl
theorem nl_216 : (216 : Int32) = nI 216 := rfl
theorem nl_217 : (217 : Int32) = nI 217 := rfl
theorem nl_218 : (218 : Int32) = nI 218 := rfl
theorem nl_219 : (219 : Int32) = nI 219 := rfl
theorem nl_220 : (220 : Int32) = nI 220 := rfl
theorem nl_221 : (221 : Int32) = nI 221 := rfl
theorem nl_222 : (222 : Int32) = nI 222 := rfl
theorem nl_223 : (223 : Int32) = nI 223 := rfl
theorem nl_224 : (224 : Int32) = nI 224 := rfl
theorem nl_225 : (225 : Int32) = nI 225 := rfl
theorem nl_226 : (226 : Int32) = nI 226 := rfl
theorem nl_227 : (227 : Int32) = nI 227 := rfl
theorem nl_228 : (228 : Int32) = nI 228 := rfl
theorem nl_229 : (229 : Int32) = nI 229 := rfl
theorem nl_230 : (230 : Int32) = nI 230 := rfl
theorem nl_231 : (231 : Int32) = nI 231 := rfl
theorem nl_232 : (232 : Int32) = nI 232 := rfl
theorem nl_233 : (233 : Int32) = nI 233 := rfl
theorem nl_234 : (234 : Int32) = nI 234 := rfl
theorem nl_235 : (235 : Int32) = nI 235 := rfl
theorem nl_236 : (236 : Int32) = nI 236 := rfl
theorem nl_237 : (237 : Int32) = nI 237 := rfl
theorem nl_238 : (238 : Int32) = nI 238 := rfl
theorem nl_239 : (239 : Int32) = nI 239 := rfl
theorem nl_240 : (240 : Int32) = nI 240 := rfl
theorem nl_241 : (241 : Int32) = nI 241 := rfl
theorem nl_242 : (242 : Int32) = nI 242 := rfl
theorem nl_243 : (243 : Int32) = nI 243 := rfl
theorem nl_244 : (244 : Int32) = nI 244 := rfl
theorem nl_245 : (245 : Int32) = nI 245 := rfl
theorem nl_246 : (246 : Int32) = nI 246 := rfl
theorem nl_247 : (247 : Int32) = nI 247 := rfl
theorem nl_248 : (248 : Int32) = nI 248 := rfl
theorem nl_249 : (249 : Int32) = nI 249 := rfl
theorem nl_250 : (250 : Int32) = nI 250 := rfl
theorem nl_251 : (251 : Int32) = nI 251 := rfl
theorem nl_252 : (252 : Int32) = nI 252 := rfl
theorem nl_253 : (253 : Int32) = nI 253 := rfl
theorem nl_254 : (254 : Int32) = nI 254 := rfl
theorem nl_255 : (255 : Int32) = nI 255 := rfl
theorem nl_256 : (256 : Int32) = nI 256 := rfl
theorem nl_257 : (257 : Int32) = nI 257 := rfl
theorem nl_258 : (258 : Int32) = nI 258 := rfl
theorem nl_259 : (259 : Int32) = nI 259 := rfl
theorem nl_260 : (260 : Int32) = nI 260 := rfl
theorem nl_342 : (342 : Int32) = nI 342 := rfl
theorem nl_380 : (380 : Int32) = nI 380 := rfl
theorem nl_382 : (382 : Int32) = nI 382 := rfl
theorem nl_999 : (999 : Int32) = nI 999 := rfl
theorem nl_1000000 : (1000000 : Int32) = nI 1000000 := rfl
theorem zl_0 : (0 : Int32) = zI 0 := rfl
theorem zl_1 : (1 : Int32) = zI 1 := rfl
theorem zl_2 : (2 : Int32) = zI 2 := rfl
theorem zl_3 : (3 : Int32) = zI 3 := rfl
theorem zl_4 : (4 : Int32) = zI 4 := rfl
theorem zl_5 : (5 : Int32) = zI 5 := rfl
theorem zl_6 : (6 : Int32) = zI 6 := rfl
theorem zl_7 : (7 : Int32) = zI 7 := rfl
theorem zl_8 : (8 : Int32) = zI 8 := rfl
theorem zl_9 : (9 : Int32) = zI 9 := rfl
theorem zl_10 : (10 : Int32) = zI 10 := rfl
theorem zl_11 : (11 : Int32) = zI 11 := rfl
theorem zl_12 : (12 : Int32) = zI 12 := rfl
theorem zl_13 : (13 : Int32) = zI 13 := rfl
theorem zl_14 : (14 : Int32) = zI 14 := rfl
theorem zl_15 : (15 : Int32) = zI 15 := rfl
theorem zl_16 : (16 : Int32) = zI 16 := rfl
theorem zl_17 : (17 : Int32) = zI 17 := rfl
theorem zl_18 : (18 : Int32) = zI 18 := rfl
theorem zl_19 : (19 : Int32) = zI 19 := rfl
theorem zl_20 : (20 : Int32) = zI 20 := rfl
theorem zl_21 : (21 : Int32) = zI 21 := rfl
theorem zl_22 : (22 : Int32) = zI 22 := rfl
theorem zl_23 : (23 : Int32) = zI 23 := rfl
theorem zl_24 : (24 : Int32) = zI 24 := rfl
theorem zl_25 : (25 : Int32) = zI 25 := rfl
theorem zl_26 : (26 : Int32) = zI 26 := rfl
theorem zl_27 : (27 : Int32) = zI 27 := rfl
theorem zl_28 : (28 : Int32) = zI 28 := rfl
theorem zl_29 : (29 : Int32) = zI 29 := rfl
theorem zl_30 : (30 : Int32) = zI 30 := rfl
theorem zl_31 : (31 : Int32) = zI 31 := rfl
theorem zl_32 : (32 : Int32) = zI 32 := rfl
theorem zl_33 : (33 : Int32) = zI 33 := rfl
theorem zl_34 : (34 : Int32) = zI 34 := rfl
theorem zl_35 : (35 : Int32) = zI 35 := rfl
theorem zl_36 : (36 : Int32) = zI 36 := rfl
theorem zl_37 : (37 : Int32) = zI 37 := rfl
theorem zl_38 : (38 : Int32) = zI 38 := rfl
theorem zl_39 : (39 : Int32) = zI 39 := rfl
theorem zl_40 : (40 : Int32) = zI 40 := rfl
theorem zl_41 : (41 : Int32) = zI 41 := rfl
theorem zl_42 : (42 : Int32) = zI 42 := rfl
theorem zl_43 : (43 : Int32) = zI 43 := rfl
theorem zl_44 : (44 : Int32) = zI 44 := rfl
theorem zl_45 : (45 : Int32) = zI 45 := rfl
theorem zl_46 : (46 : Int32) = zI 46 := rfl
theorem zl_47 : (47 : Int32) = zI 47 := rfl
theorem zl_48 : (48 : Int32) = zI 48 := rfl
theorem zl_49 : (49 : Int32) = zI 49 := rfl
theorem zl_50 : (50 : Int32) = zI 50 := rfl
theorem zl_51 : (51 : Int32) = zI 51 := rfl
theorem zl_52 : (52 : Int32) = zI 52 := rfl
theorem zl_53 : (53 : Int32) = zI 53 := rfl
theorem zl_54 : (54 : Int32) = zI 54 := rfl
theorem zl_55 : (55 : Int32) = zI 55 := rfl
theorem zl_56 : (56 : Int32) = zI 56 := rfl
theorem zl_57 : (57 : Int32) = zI 57 := rfl
theorem zl_58 : (58 : Int32) = zI 58 := rfl
theorem zl_59 : (59 : Int32) = zI 59 := rfl
theorem zl_60 : (60 : Int32) = zI 60 := rfl
theorem zl_61 : (61 : Int32) = zI 61 := rfl
theorem zl_62 : (62 : Int32) = zI 62 := rfl
theorem zl_63 : (63 : Int32) = zI 63 := rfl
theorem zl_64 : (64 : Int32) = zI 64 := rfl
theorem zl_97 : (97 : Int32) = zI 97 := rfl
theorem zl_122 : (122 : Int32) = zI 122 := rfl
theorem zl_200 : (200 : Int32) = zI 200 := rfl
theorem zl_255 : (255 : Int32) = zI 255 := rfl
theorem zl_999 : (999 : Int32) = zI 999 := rfl
theorem zI_add (a b : Int) : zI a + zI b = zI (a + b) := Int32.toBitVec.inj (by simp [zI, BitVec.ofInt_add])
theorem zI_mul (a b : Int) : zI a * zI b = zI (a * b) := Int32.toBitVec.inj (by simp [zI, BitVec.ofInt_mul])
theorem zI_neg (a : Int) : -zI a = zI (-a) := Int32.toBitVec.inj (by simp [zI, BitVec.ofInt_neg])
theorem zI_sub (a b : Int) : zI a - zI b = zI (a - b) := by rw [Int32.sub_eq_add_neg, zI_neg, zI_add, Int.sub_eq_add_neg]
theorem zI_to {z : Int} (h1 : -2147483648 ≤ z) (h2 : z < 2147483648) : (zI z).toInt = z := Int32.toInt_ofInt_of_le (by omega) (by omega)
theorem zI_lt {a b : Int} (h1 : -2147483648 ≤ a) (h2 : a < 2147483648) (h3 : -2147483648 ≤ b) (h4 : b < 2147483648) : zI a < zI b ↔ a < b := by rw [Int32.lt_iff_toInt_lt, zI_to h1 h2, zI_to h3 h4]
theorem zI_le {a b : Int} (h1 : -2147483648 ≤ a) (h2 : a < 2147483648) (h3 : -2147483648 ≤ b) (h4 : b < 2147483648) : zI a ≤ zI b ↔ a ≤ b := by rw [Int32.le_iff_toInt_le, zI_to h1 h2, zI_to h3 h4]
theorem zI_eq {a b : Int} (h1 : -2147483648 ≤ a) (h2 : a < 2147483648) (h3 : -2147483648 ≤ b) (h4 : b < 2147483648) : zI a = zI b ↔ a = b := by rw [← Int32.toInt_inj, zI_to h1 h2, zI_to h3 h4]
theorem zI_of (x : Int32) : ∃ z : Int, -2147483648 ≤ z ∧ z < 2147483648 ∧ x = zI z := ⟨x.toInt, by have := x.le_toInt; omega, by have := x.toInt_lt; omega, (Int32.ofInt_toInt x).symm⟩
theorem zI_cl {z : Int} (h1 : -2147483648 ≤ z) (h2 : z < 2147483648) : (zI z).toNatClampNeg = z.toNat := Int32.toNatClampNeg_ofInt_of_le (by omega) (by omega)
theorem zI_N {z : Int} (h : 0 ≤ z) : zI z = nI z.toNat := by rw [zI_nat]; congr 1; omega
theorem nI_m1 {n : Nat} (h : 0 < n) : nI n - 1 = nI (n - 1) := by
  rw [nl_1, pk_sub h]
theorem ix_in {n i : Nat} (h : i < n) (hn : n ≤ 2147483648) : hm_ix (nI i) n = true := by
  have h1 : ¬ nI i < 0 := nI_pos (by omega)
  have h2 : (nI i).toNatClampNeg = i := nI_clamp (by omega)
  simp only [hm_ix, h1, h2, decide_false, Bool.not_false, Bool.true_and, Bool.not_eq_true', decide_eq_false_iff_not]
  omega
theorem rd_in {n i : Nat} {f : Nat → Int32} (h : i < n) (hn : n ≤ 2147483648) : hm_rd n f (nI i) = some (f i) := by
  rw [hm_rd, if_pos (ix_in h hn), nI_clamp (by omega)]
theorem wr_in {n i : Nat} {f : Nat → Int32} {v : Int32} (h : i < n) (hn : n ≤ 2147483648) : hm_wr n f (nI i) v = some (upd f i v) := by
  rw [hm_wr, if_pos (ix_in h hn), nI_clamp (by omega)]
theorem wz_in {n i : Nat} {f : Nat → Int32} {v : Int32} (h : i < n) (hn : n ≤ 2147483648) (hv : v = 0 ∨ v = 1) : hm_wz n f (nI i) v = some (upd f i v) := by
  rw [hm_wz, if_pos ⟨ix_in h hn, hv⟩, nI_clamp (by omega)]
theorem rj_in {n i : Nat} {f : Nat → Int64} (h : i < n) (hn : n ≤ 2147483648) : hm_rj n f (nI i) = some (f i) := by
  rw [hm_rj, if_pos (ix_in h hn), nI_clamp (by omega)]
theorem wj_in {n i : Nat} {f : Nat → Int64} {v : Int64} (h : i < n) (hn : n ≤ 2147483648) : hm_wj n f (nI i) v = some (vp_updL f i v) := by
  rw [hm_wj, if_pos (ix_in h hn), nI_clamp (by omega)]
theorem bl_1 : hm_bl 1 = some 1 := rfl
theorem bl_0 : hm_bl 0 = some 0 := rfl
theorem bl_in {v : Int32} (h : v = 0 ∨ v = 1) : hm_bl v = some v := by rw [hm_bl, if_pos h]
theorem ud_s {f : Nat → Int32} {k : Nat} {x : Int32} : upd f k x k = x := if_pos rfl
theorem ud_n {f : Nat → Int32} {k j : Nat} {x : Int32} (h : j ≠ k) : upd f k x j = f j := if_neg h
theorem up_s {α : Type} {f : Nat → α} {k : Nat} {x : α} : hm_up f k x k = x := by simp [hm_up]
theorem up_n {α : Type} {f : Nat → α} {k j : Nat} {x : α} (h : j ≠ k) : hm_up f k x j = f j := by
  have : Nat.beq j k = false := by
    cases hb : Nat.beq j k
    · rfl
    · exact absurd (Nat.eq_of_beq_eq_true hb) h
  simp [hm_up, this]
theorem nI_lti {a b : Nat} (ha : a < 2147483648) (hb : b < 2147483648) : nI a < nI b ↔ a < b := nI_ltI (by omega) (by omega)
theorem nI_lei {a b : Nat} (ha : a < 2147483648) (hb : b < 2147483648) : nI a ≤ nI b ↔ a ≤ b := nI_leI (by omega) (by omega)
theorem nI_eqi {a b : Nat} (ha : a < 2147483648) (hb : b < 2147483648) : nI a = nI b ↔ a = b := nI_eq (by omega) (by omega)
/-- rows of numbers -/
theorem rg_size {r : hm_SR} : f_X2_size r = some r.1 := rfl
theorem rg_empty {r : hm_SR} : f_X2_empty r = some (0, r.2) := rfl
theorem rg_in {cap n i : Nat} {r : hm_SR} (hr : r.1 = nI n) (h : i < n) (hc : n ≤ cap) (hcap : cap < 2147483648) : f_X2_get cap r (nI i) = some (r.2 i) := by
  rw [f_X2_get, if_neg (nI_pos (by omega)), hr, if_neg, if_neg, rd_in (by omega) (by omega)]
  · rfl
  · rw [nI_lei (by omega) (by omega)]; omega
  · rw [nI_lei (by omega) (by omega)]; omega
theorem rg_outN {cap n i : Nat} {r : hm_SR} (hr : r.1 = nI n) (h : n ≤ i) (hi : i < 2147483648) : f_X2_get cap r (nI i) = some 0 := by
  rw [f_X2_get, if_neg (nI_pos (by omega)), hr, if_pos]
  rw [nI_lei (by omega) (by omega)]; omega
theorem rg_neg {cap : Nat} {r : hm_SR} {x : Int32} (h : x < 0) : f_X2_get cap r x = some 0 := by
  rw [f_X2_get, if_pos h]
theorem rg_add {cap n : Nat} {r : hm_SR} {v : Int32} (hr : r.1 = nI n) (h : n < cap) (hcap : cap < 2147483648) : f_X2_add cap r v = some (1, (nI (n + 1), upd r.2 n v)) := by
  rw [f_X2_add, hr, if_neg (nI_pos (by omega)), if_pos, wr_in h (by omega), ← nI_1]
  · rfl
  · rw [nI_lti (by omega) (by omega)]; exact h
theorem rg_full {cap : Nat} {r : hm_SR} {v : Int32} (hr : r.1 = nI cap) (hcap : cap < 2147483648) : f_X2_add cap r v = some (0, r) := by
  rw [f_X2_add, hr, if_neg (nI_pos (by omega)), if_neg]
  rw [nI_lti (by omega) (by omega)]; omega
theorem rg_set {cap n i : Nat} {r : hm_SR} {v : Int32} (hr : r.1 = nI n) (h : i < n) (hc : n ≤ cap) (hcap : cap < 2147483648) : f_X2_set cap r (nI i) v = some (nI n, upd r.2 i v) := by
  rw [f_X2_set, if_neg (nI_pos (by omega)), hr, if_neg, if_neg, wr_in (by omega) (by omega)]
  · rfl
  · rw [nI_lei (by omega) (by omega)]; omega
  · rw [nI_lei (by omega) (by omega)]; omega
theorem rg_drop {n : Nat} {r : hm_SR} (hr : r.1 = nI (n + 1)) (hn : n + 1 < 2147483648) : f_X2_drop r = some (nI n, r.2) := by
  rw [f_X2_drop, hr, if_neg (nI_nle (by omega) (by omega)), nI_pred]
theorem rg_dropF {cap n : Nat} {r : hm_SR} (hr : r.1 = nI (n + 1)) (hn : n + 1 ≤ cap) (hcap : cap < 1000000) : ∃ r' : hm_SR, f_X2_dropFirst cap r = some r' ∧ r'.1 = nI n ∧ ∀ i, i < n → r'.2 i = r.2 (i + 1) := by
  have key : ∀ (fuel k : Nat) (w : hm_SR), 1 ≤ k → k ≤ n + 1 → n + 1 - k < fuel → w.1 = nI (n + 1) → ∃ r' : hm_SR, f_X2_dropFirst_l2 cap fuel (nI k) w = some r' ∧ r'.1 = nI n ∧ ∀ i, i < n → r'.2 i = if i + 1 < k then w.2 i else w.2 (i + 1) := by
    intro fuel
    induction fuel with
    | zero => intro k w h1 h2 h3; omega
    | succ fuel ih =>
      intro k w h1 h2 h3 hw
      rw [f_X2_dropFirst_l2_s, hw]
      by_cases hk : k = n + 1
      · rw [if_pos (by rw [nI_lei (by omega) (by omega)]; omega), f_X2_dropFirst_l28, rg_drop hw (by omega)]
        refine ⟨_, rfl, rfl, fun i hi => ?_⟩
        rw [if_pos (by omega)]
      · rw [if_neg (by rw [nI_lei (by omega) (by omega)]; omega), rg_in hw (by omega) hn (by omega), Option.bind_some, nI_m1 (by omega), rg_set hw (by omega) hn (by omega), Option.bind_some, nI_1]
        obtain ⟨r', e1, e2, e3⟩ := ih (k + 1) (nI (n + 1), upd w.2 (k - 1) (w.2 k)) (by omega) (by omega) (by omega) rfl
        refine ⟨r', e1, e2, fun i hi => ?_⟩
        rw [e3 i hi]
        show (if i + 1 < k + 1 then upd w.2 (k - 1) (w.2 k) i else upd w.2 (k - 1) (w.2 k) (i + 1)) = _
        by_cases h4 : i + 1 < k
        · rw [if_pos (by omega), if_pos h4, ud_n (by omega)]
        · by_cases h5 : i + 1 = k
          · rw [if_pos (by omega), if_neg h4, show i = k - 1 by omega, ud_s, show k - 1 + 1 = k by omega]
          · rw [if_neg (by omega), if_neg h4, ud_n (by omega)]
  obtain ⟨r', e1, e2, e3⟩ := key hm_fu 1 r (by omega) (by omega) (by unfold hm_fu; omega) hr
  refine ⟨r', by rw [f_X2_dropFirst]; exact e1, e2, fun i hi => ?_⟩
  rw [e3 i hi, if_neg (by omega)]
