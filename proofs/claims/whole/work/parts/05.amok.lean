/-! what the tables say, held against the words: written by wip/whole/gen/gen_am.py -/
theorem am_f_0_12 : am_flok (0, 12, 0, 0) := ⟨_, rfl, by decide, (am_in 173 (by decide +kernel) (by decide +kernel))⟩
theorem am_f_0_34 : am_flok (0, 34, 2, 0) := ⟨_, rfl, by decide, (am_in 226 (by decide +kernel) (by decide +kernel))⟩
theorem am_f_0_41 : am_flok (0, 41, 2, 3) := ⟨_, rfl, by decide, (am_in 233 (by decide +kernel) (by decide +kernel))⟩
theorem am_f_0_45 : am_flok (0, 45, 0, 6) := ⟨_, rfl, by decide, (am_in 192 (by decide +kernel) (by decide +kernel))⟩
theorem am_f_0_46 : am_flok (0, 46, 0, 7) := ⟨_, rfl, by decide, (am_in 195 (by decide +kernel) (by decide +kernel))⟩
theorem am_f_0_18 : am_flok (0, 18, 0, 1) := ⟨_, rfl, by decide, (am_in 176 (by decide +kernel) (by decide +kernel))⟩
theorem am_f_0_49 : am_flok (0, 49, 3, 1) := ⟨_, rfl, by decide, (am_in 142 (by decide +kernel) (by decide +kernel))⟩
theorem am_f_0_22 : am_flok (0, 22, 0, 2) := ⟨_, rfl, by decide, (am_in 180 (by decide +kernel) (by decide +kernel))⟩
theorem am_f_0_25 : am_flok (0, 25, 0, 3) := ⟨_, rfl, by decide, (am_in 184 (by decide +kernel) (by decide +kernel))⟩
theorem am_f_0_28 : am_flok (0, 28, 0, 4) := ⟨_, rfl, by decide, (am_in 188 (by decide +kernel) (by decide +kernel))⟩
theorem am_f_0_31 : am_flok (0, 31, 0, 5) := ⟨_, rfl, by decide, (am_in 191 (by decide +kernel) (by decide +kernel))⟩
theorem am_f_1_11 : am_flok (1, 11, 1, 2) := ⟨_, rfl, by decide, (am_in 358 (by decide +kernel) (by decide +kernel))⟩
theorem am_f_1_54 : am_flok (1, 54, 0, 7) := ⟨_, rfl, by decide, (am_in 196 (by decide +kernel) (by decide +kernel))⟩
theorem am_f_1_58 : am_flok (1, 58, 0, 6) := ⟨_, rfl, by decide, (am_in 193 (by decide +kernel) (by decide +kernel))⟩
theorem am_f_1_37 : am_flok (1, 37, 1, 1) := ⟨_, rfl, by decide, (am_in 357 (by decide +kernel) (by decide +kernel))⟩
theorem am_f_1_66 : am_flok (1, 66, 0, 1) := ⟨_, rfl, by decide, (am_in 178 (by decide +kernel) (by decide +kernel))⟩
theorem am_f_1_69 : am_flok (1, 69, 8, 13) := ⟨_, rfl, by decide, (am_in 317 (by decide +kernel) (by decide +kernel))⟩
theorem am_f_1_72 : am_flok (1, 72, 0, 0) := ⟨_, rfl, by decide, (am_in 175 (by decide +kernel) (by decide +kernel))⟩
theorem am_f_1_76 : am_flok (1, 76, 3, 4) := ⟨_, rfl, by decide, (am_in 161 (by decide +kernel) (by decide +kernel))⟩
theorem am_f_1_81 : am_flok (1, 81, 0, 2) := ⟨_, rfl, by decide, (am_in 182 (by decide +kernel) (by decide +kernel))⟩
theorem am_f_1_84 : am_flok (1, 84, 3, 2) := ⟨_, rfl, by decide, (am_in 148 (by decide +kernel) (by decide +kernel))⟩
theorem am_f_1_87 : am_flok (1, 87, 3, 1) := ⟨_, rfl, by decide, (am_in 144 (by decide +kernel) (by decide +kernel))⟩
theorem am_f_1_90 : am_flok (1, 90, 3, 3) := ⟨_, rfl, by decide, (am_in 156 (by decide +kernel) (by decide +kernel))⟩
theorem am_f_1_33 : am_flok (1, 33, 1, 0) := ⟨_, rfl, by decide, (am_in 356 (by decide +kernel) (by decide +kernel))⟩
theorem am_f_1_101 : am_flok (1, 101, 2, 1) := ⟨_, rfl, by decide, (am_in 230 (by decide +kernel) (by decide +kernel))⟩
theorem am_f_1_17 : am_flok (1, 17, 1, 3) := ⟨_, rfl, by decide, (am_in 359 (by decide +kernel) (by decide +kernel))⟩
theorem am_f_1_132 : am_flok (1, 132, 3, 0) := ⟨_, rfl, by decide, (am_in 140 (by decide +kernel) (by decide +kernel))⟩
theorem am_f_1_135 : am_flok (1, 135, 1, 12) := ⟨_, rfl, by decide, (am_in 373 (by decide +kernel) (by decide +kernel))⟩
theorem am_f_1_21 : am_flok (1, 21, 1, 4) := ⟨_, rfl, by decide, (am_in 361 (by decide +kernel) (by decide +kernel))⟩
theorem am_f_1_175 : am_flok (1, 175, 0, 3) := ⟨_, rfl, by decide, (am_in 187 (by decide +kernel) (by decide +kernel))⟩
theorem am_f_1_189 : am_flok (1, 189, 1, 6) := ⟨_, rfl, by decide, (am_in 364 (by decide +kernel) (by decide +kernel))⟩
theorem am_f_1_192 : am_flok (1, 192, 1, 7) := ⟨_, rfl, by decide, (am_in 366 (by decide +kernel) (by decide +kernel))⟩
theorem am_f_1_24 : am_flok (1, 24, 1, 5) := ⟨_, rfl, by decide, (am_in 362 (by decide +kernel) (by decide +kernel))⟩
theorem am_f_1_27 : am_flok (1, 27, 1, 8) := ⟨_, rfl, by decide, (am_in 367 (by decide +kernel) (by decide +kernel))⟩
theorem am_f_1_202 : am_flok (1, 202, 1, 10) := ⟨_, rfl, by decide, (am_in 370 (by decide +kernel) (by decide +kernel))⟩
theorem am_f_1_205 : am_flok (1, 205, 1, 11) := ⟨_, rfl, by decide, (am_in 372 (by decide +kernel) (by decide +kernel))⟩
theorem am_f_1_30 : am_flok (1, 30, 1, 9) := ⟨_, rfl, by decide, (am_in 368 (by decide +kernel) (by decide +kernel))⟩
theorem am_f_2_22 : am_flok (2, 22, 2, 2) := ⟨_, rfl, by decide, (am_in 231 (by decide +kernel) (by decide +kernel))⟩
theorem am_f_2_45 : am_flok (2, 45, 2, 3) := ⟨_, rfl, by decide, (am_in 234 (by decide +kernel) (by decide +kernel))⟩
theorem am_f_2_56 : am_flok (2, 56, 6, 2) := ⟨_, rfl, by decide, (am_in 96 (by decide +kernel) (by decide +kernel))⟩
theorem am_f_2_12 : am_flok (2, 12, 2, 0) := ⟨_, rfl, by decide, (am_in 225 (by decide +kernel) (by decide +kernel))⟩
theorem am_f_2_66 : am_flok (2, 66, 3, 3) := ⟨_, rfl, by decide, (am_in 154 (by decide +kernel) (by decide +kernel))⟩
theorem am_f_2_25 : am_flok (2, 25, 2, 4) := ⟨_, rfl, by decide, (am_in 236 (by decide +kernel) (by decide +kernel))⟩
theorem am_f_2_73 : am_flok (2, 73, 3, 4) := ⟨_, rfl, by decide, (am_in 160 (by decide +kernel) (by decide +kernel))⟩
theorem am_f_2_76 : am_flok (2, 76, 3, 0) := ⟨_, rfl, by decide, (am_in 138 (by decide +kernel) (by decide +kernel))⟩
theorem am_f_2_79 : am_flok (2, 79, 3, 1) := ⟨_, rfl, by decide, (am_in 143 (by decide +kernel) (by decide +kernel))⟩
theorem am_f_2_82 : am_flok (2, 82, 3, 2) := ⟨_, rfl, by decide, (am_in 149 (by decide +kernel) (by decide +kernel))⟩
theorem am_f_2_18 : am_flok (2, 18, 2, 1) := ⟨_, rfl, by decide, (am_in 228 (by decide +kernel) (by decide +kernel))⟩
theorem am_f_2_85 : am_flok (2, 85, 2, 9) := ⟨_, rfl, by decide, (am_in 243 (by decide +kernel) (by decide +kernel))⟩
theorem am_f_2_29 : am_flok (2, 29, 2, 5) := ⟨_, rfl, by decide, (am_in 239 (by decide +kernel) (by decide +kernel))⟩
theorem am_f_2_32 : am_flok (2, 32, 2, 6) := ⟨_, rfl, by decide, (am_in 240 (by decide +kernel) (by decide +kernel))⟩
theorem am_f_2_35 : am_flok (2, 35, 2, 7) := ⟨_, rfl, by decide, (am_in 241 (by decide +kernel) (by decide +kernel))⟩
theorem am_f_2_38 : am_flok (2, 38, 2, 8) := ⟨_, rfl, by decide, (am_in 242 (by decide +kernel) (by decide +kernel))⟩
theorem am_f_3_9 : am_flok (3, 9, 3, 0) := ⟨_, rfl, by decide, (am_in 136 (by decide +kernel) (by decide +kernel))⟩
theorem am_f_3_15 : am_flok (3, 15, 3, 1) := ⟨_, rfl, by decide, (am_in 141 (by decide +kernel) (by decide +kernel))⟩
theorem am_f_3_18 : am_flok (3, 18, 3, 2) := ⟨_, rfl, by decide, (am_in 147 (by decide +kernel) (by decide +kernel))⟩
theorem am_f_3_21 : am_flok (3, 21, 3, 3) := ⟨_, rfl, by decide, (am_in 152 (by decide +kernel) (by decide +kernel))⟩
theorem am_f_3_30 : am_flok (3, 30, 3, 4) := ⟨_, rfl, by decide, (am_in 157 (by decide +kernel) (by decide +kernel))⟩
theorem am_f_6_21 : am_flok (6, 21, 6, 1) := ⟨_, rfl, by decide, (am_in 93 (by decide +kernel) (by decide +kernel))⟩
theorem am_f_6_9 : am_flok (6, 9, 6, 0) := ⟨_, rfl, by decide, (am_in 92 (by decide +kernel) (by decide +kernel))⟩
theorem am_f_6_18 : am_flok (6, 18, 6, 3) := ⟨_, rfl, by decide, (am_in 97 (by decide +kernel) (by decide +kernel))⟩
theorem am_f_6_27 : am_flok (6, 27, 6, 5) := ⟨_, rfl, by decide, (am_in 100 (by decide +kernel) (by decide +kernel))⟩
theorem am_f_6_30 : am_flok (6, 30, 6, 6) := ⟨_, rfl, by decide, (am_in 101 (by decide +kernel) (by decide +kernel))⟩
theorem am_f_6_33 : am_flok (6, 33, 6, 8) := ⟨_, rfl, by decide, (am_in 103 (by decide +kernel) (by decide +kernel))⟩
theorem am_f_6_40 : am_flok (6, 40, 6, 7) := ⟨_, rfl, by decide, (am_in 102 (by decide +kernel) (by decide +kernel))⟩
theorem am_f_6_43 : am_flok (6, 43, 6, 4) := ⟨_, rfl, by decide, (am_in 99 (by decide +kernel) (by decide +kernel))⟩
theorem am_f_6_15 : am_flok (6, 15, 6, 2) := ⟨_, rfl, by decide, (am_in 95 (by decide +kernel) (by decide +kernel))⟩
theorem am_f_8_21 : am_flok (8, 21, 8, 2) := ⟨_, rfl, by decide, (am_in 306 (by decide +kernel) (by decide +kernel))⟩
theorem am_f_8_27 : am_flok (8, 27, 8, 3) := ⟨_, rfl, by decide, (am_in 307 (by decide +kernel) (by decide +kernel))⟩
theorem am_f_8_33 : am_flok (8, 33, 8, 4) := ⟨_, rfl, by decide, (am_in 308 (by decide +kernel) (by decide +kernel))⟩
theorem am_f_8_12 : am_flok (8, 12, 8, 1) := ⟨_, rfl, by decide, (am_in 305 (by decide +kernel) (by decide +kernel))⟩
theorem am_f_8_50 : am_flok (8, 50, 8, 0) := ⟨_, rfl, by decide, (am_in 304 (by decide +kernel) (by decide +kernel))⟩
theorem am_f_8_58 : am_flok (8, 58, 2, 2) := ⟨_, rfl, by decide, (am_in 232 (by decide +kernel) (by decide +kernel))⟩
theorem am_f_8_63 : am_flok (8, 63, 0, 2) := ⟨_, rfl, by decide, (am_in 181 (by decide +kernel) (by decide +kernel))⟩
theorem am_f_8_68 : am_flok (8, 68, 0, 0) := ⟨_, rfl, by decide, (am_in 174 (by decide +kernel) (by decide +kernel))⟩
theorem am_f_8_72 : am_flok (8, 72, 3, 0) := ⟨_, rfl, by decide, (am_in 137 (by decide +kernel) (by decide +kernel))⟩
theorem am_f_8_81 : am_flok (8, 81, 2, 4) := ⟨_, rfl, by decide, (am_in 237 (by decide +kernel) (by decide +kernel))⟩
theorem am_f_8_91 : am_flok (8, 91, 0, 3) := ⟨_, rfl, by decide, (am_in 185 (by decide +kernel) (by decide +kernel))⟩
theorem am_f_8_102 : am_flok (8, 102, 0, 1) := ⟨_, rfl, by decide, (am_in 177 (by decide +kernel) (by decide +kernel))⟩
theorem am_f_8_105 : am_flok (8, 105, 0, 7) := ⟨_, rfl, by decide, (am_in 197 (by decide +kernel) (by decide +kernel))⟩
theorem am_f_8_108 : am_flok (8, 108, 3, 4) := ⟨_, rfl, by decide, (am_in 159 (by decide +kernel) (by decide +kernel))⟩
theorem am_f_8_111 : am_flok (8, 111, 3, 3) := ⟨_, rfl, by decide, (am_in 153 (by decide +kernel) (by decide +kernel))⟩
theorem am_f_8_121 : am_flok (8, 121, 2, 1) := ⟨_, rfl, by decide, (am_in 229 (by decide +kernel) (by decide +kernel))⟩
theorem am_f_8_136 : am_flok (8, 136, 8, 13) := ⟨_, rfl, by decide, (am_in 318 (by decide +kernel) (by decide +kernel))⟩
theorem am_f_8_151 : am_flok (8, 151, 8, 12) := ⟨_, rfl, by decide, (am_in 316 (by decide +kernel) (by decide +kernel))⟩
theorem am_f_8_158 : am_flok (8, 158, 8, 9) := ⟨_, rfl, by decide, (am_in 313 (by decide +kernel) (by decide +kernel))⟩
theorem am_f_8_161 : am_flok (8, 161, 8, 10) := ⟨_, rfl, by decide, (am_in 314 (by decide +kernel) (by decide +kernel))⟩
theorem am_f_8_164 : am_flok (8, 164, 8, 11) := ⟨_, rfl, by decide, (am_in 315 (by decide +kernel) (by decide +kernel))⟩
theorem am_f_8_36 : am_flok (8, 36, 8, 5) := ⟨_, rfl, by decide, (am_in 309 (by decide +kernel) (by decide +kernel))⟩
theorem am_f_8_40 : am_flok (8, 40, 8, 6) := ⟨_, rfl, by decide, (am_in 310 (by decide +kernel) (by decide +kernel))⟩
theorem am_f_8_43 : am_flok (8, 43, 8, 7) := ⟨_, rfl, by decide, (am_in 311 (by decide +kernel) (by decide +kernel))⟩
theorem am_f_8_47 : am_flok (8, 47, 8, 8) := ⟨_, rfl, by decide, (am_in 312 (by decide +kernel) (by decide +kernel))⟩
theorem am_f_8_171 : am_flok (8, 171, 0, 4) := ⟨_, rfl, by decide, (am_in 189 (by decide +kernel) (by decide +kernel))⟩
theorem am_f_8_172 : am_flok (8, 172, 3, 2) := ⟨_, rfl, by decide, (am_in 151 (by decide +kernel) (by decide +kernel))⟩
theorem am_f_8_175 : am_flok (8, 175, 3, 1) := ⟨_, rfl, by decide, (am_in 146 (by decide +kernel) (by decide +kernel))⟩
theorem am_f_11_10 : am_flok (11, 10, 10, 0) := ⟨_, rfl, by decide, (am_in 401 (by decide +kernel) (by decide +kernel))⟩
theorem am_f_11_39 : am_flok (11, 39, 10, 4) := ⟨_, rfl, by decide, (am_in 405 (by decide +kernel) (by decide +kernel))⟩
theorem am_f_11_64 : am_flok (11, 64, 2, 0) := ⟨_, rfl, by decide, (am_in 227 (by decide +kernel) (by decide +kernel))⟩
theorem am_f_11_68 : am_flok (11, 68, 3, 4) := ⟨_, rfl, by decide, (am_in 158 (by decide +kernel) (by decide +kernel))⟩
theorem am_f_11_74 : am_flok (11, 74, 2, 3) := ⟨_, rfl, by decide, (am_in 235 (by decide +kernel) (by decide +kernel))⟩
theorem am_f_11_81 : am_flok (11, 81, 6, 4) := ⟨_, rfl, by decide, (am_in 98 (by decide +kernel) (by decide +kernel))⟩
theorem am_f_11_95 : am_flok (11, 95, 3, 0) := ⟨_, rfl, by decide, (am_in 139 (by decide +kernel) (by decide +kernel))⟩
theorem am_f_11_99 : am_flok (11, 99, 3, 1) := ⟨_, rfl, by decide, (am_in 145 (by decide +kernel) (by decide +kernel))⟩
theorem am_f_11_102 : am_flok (11, 102, 3, 2) := ⟨_, rfl, by decide, (am_in 150 (by decide +kernel) (by decide +kernel))⟩
theorem am_f_11_105 : am_flok (11, 105, 3, 3) := ⟨_, rfl, by decide, (am_in 155 (by decide +kernel) (by decide +kernel))⟩
theorem am_f_11_19 : am_flok (11, 19, 10, 1) := ⟨_, rfl, by decide, (am_in 402 (by decide +kernel) (by decide +kernel))⟩
theorem am_f_11_108 : am_flok (11, 108, 0, 2) := ⟨_, rfl, by decide, (am_in 183 (by decide +kernel) (by decide +kernel))⟩
theorem am_f_11_43 : am_flok (11, 43, 10, 5) := ⟨_, rfl, by decide, (am_in 406 (by decide +kernel) (by decide +kernel))⟩
theorem am_f_11_133 : am_flok (11, 133, 0, 3) := ⟨_, rfl, by decide, (am_in 186 (by decide +kernel) (by decide +kernel))⟩
theorem am_f_11_136 : am_flok (11, 136, 0, 6) := ⟨_, rfl, by decide, (am_in 194 (by decide +kernel) (by decide +kernel))⟩
theorem am_f_11_137 : am_flok (11, 137, 0, 1) := ⟨_, rfl, by decide, (am_in 179 (by decide +kernel) (by decide +kernel))⟩
theorem am_f_11_157 : am_flok (11, 157, 0, 4) := ⟨_, rfl, by decide, (am_in 190 (by decide +kernel) (by decide +kernel))⟩
theorem am_f_11_23 : am_flok (11, 23, 10, 2) := ⟨_, rfl, by decide, (am_in 403 (by decide +kernel) (by decide +kernel))⟩
theorem am_f_11_27 : am_flok (11, 27, 10, 3) := ⟨_, rfl, by decide, (am_in 404 (by decide +kernel) (by decide +kernel))⟩
theorem am_f_11_164 : am_flok (11, 164, 0, 7) := ⟨_, rfl, by decide, (am_in 198 (by decide +kernel) (by decide +kernel))⟩
theorem am_f_11_52 : am_flok (11, 52, 10, 6) := ⟨_, rfl, by decide, (am_in 407 (by decide +kernel) (by decide +kernel))⟩
theorem am_f_11_185 : am_flok (11, 185, 1, 6) := ⟨_, rfl, by decide, (am_in 365 (by decide +kernel) (by decide +kernel))⟩
theorem am_f_11_188 : am_flok (11, 188, 1, 5) := ⟨_, rfl, by decide, (am_in 363 (by decide +kernel) (by decide +kernel))⟩
theorem am_f_11_198 : am_flok (11, 198, 1, 3) := ⟨_, rfl, by decide, (am_in 360 (by decide +kernel) (by decide +kernel))⟩
theorem am_f_11_212 : am_flok (11, 212, 1, 10) := ⟨_, rfl, by decide, (am_in 371 (by decide +kernel) (by decide +kernel))⟩
theorem am_f_11_215 : am_flok (11, 215, 1, 9) := ⟨_, rfl, by decide, (am_in 369 (by decide +kernel) (by decide +kernel))⟩
theorem am_f_11_231 : am_flok (11, 231, 2, 4) := ⟨_, rfl, by decide, (am_in 238 (by decide +kernel) (by decide +kernel))⟩
theorem am_f_11_234 : am_flok (11, 234, 2, 9) := ⟨_, rfl, by decide, (am_in 244 (by decide +kernel) (by decide +kernel))⟩
theorem am_f_11_237 : am_flok (11, 237, 6, 1) := ⟨_, rfl, by decide, (am_in 94 (by decide +kernel) (by decide +kernel))⟩
theorem am_f_12_63 : am_flok (12, 63, 11, 0) := ⟨_, rfl, by decide, (am_in 942 (by decide +kernel) (by decide +kernel))⟩
theorem am_f_12_70 : am_flok (12, 70, 11, 2) := ⟨_, rfl, by decide, (am_in 944 (by decide +kernel) (by decide +kernel))⟩
theorem am_f_12_29 : am_flok (12, 29, 11, 18) := ⟨_, rfl, by decide, (am_in 960 (by decide +kernel) (by decide +kernel))⟩
theorem am_f_12_7 : am_flok (12, 7, 11, 1) := ⟨_, rfl, by decide, (am_in 943 (by decide +kernel) (by decide +kernel))⟩
theorem am_f_12_73 : am_flok (12, 73, 11, 6) := ⟨_, rfl, by decide, (am_in 948 (by decide +kernel) (by decide +kernel))⟩
theorem am_f_12_23 : am_flok (12, 23, 11, 7) := ⟨_, rfl, by decide, (am_in 949 (by decide +kernel) (by decide +kernel))⟩
theorem am_f_12_78 : am_flok (12, 78, 11, 8) := ⟨_, rfl, by decide, (am_in 950 (by decide +kernel) (by decide +kernel))⟩
theorem am_f_12_81 : am_flok (12, 81, 11, 9) := ⟨_, rfl, by decide, (am_in 951 (by decide +kernel) (by decide +kernel))⟩
theorem am_f_12_84 : am_flok (12, 84, 11, 11) := ⟨_, rfl, by decide, (am_in 953 (by decide +kernel) (by decide +kernel))⟩
theorem am_f_12_87 : am_flok (12, 87, 11, 12) := ⟨_, rfl, by decide, (am_in 954 (by decide +kernel) (by decide +kernel))⟩
theorem am_f_12_92 : am_flok (12, 92, 11, 10) := ⟨_, rfl, by decide, (am_in 952 (by decide +kernel) (by decide +kernel))⟩
theorem am_f_12_106 : am_flok (12, 106, 11, 13) := ⟨_, rfl, by decide, (am_in 955 (by decide +kernel) (by decide +kernel))⟩
theorem am_f_12_26 : am_flok (12, 26, 11, 17) := ⟨_, rfl, by decide, (am_in 959 (by decide +kernel) (by decide +kernel))⟩
theorem am_f_12_116 : am_flok (12, 116, 11, 15) := ⟨_, rfl, by decide, (am_in 957 (by decide +kernel) (by decide +kernel))⟩
theorem am_f_12_122 : am_flok (12, 122, 11, 16) := ⟨_, rfl, by decide, (am_in 958 (by decide +kernel) (by decide +kernel))⟩
theorem am_f_12_152 : am_flok (12, 152, 11, 14) := ⟨_, rfl, by decide, (am_in 956 (by decide +kernel) (by decide +kernel))⟩
theorem am_f_12_16 : am_flok (12, 16, 11, 4) := ⟨_, rfl, by decide, (am_in 946 (by decide +kernel) (by decide +kernel))⟩
theorem am_f_12_19 : am_flok (12, 19, 11, 5) := ⟨_, rfl, by decide, (am_in 947 (by decide +kernel) (by decide +kernel))⟩
theorem am_f_12_13 : am_flok (12, 13, 11, 3) := ⟨_, rfl, by decide, (am_in 945 (by decide +kernel) (by decide +kernel))⟩
theorem am_f_12_168 : am_flok (12, 168, 11, 22) := ⟨_, rfl, by decide, (am_in 964 (by decide +kernel) (by decide +kernel))⟩
theorem am_f_12_38 : am_flok (12, 38, 11, 21) := ⟨_, rfl, by decide, (am_in 963 (by decide +kernel) (by decide +kernel))⟩
theorem am_f_12_54 : am_flok (12, 54, 11, 30) := ⟨_, rfl, by decide, (am_in 972 (by decide +kernel) (by decide +kernel))⟩
theorem am_f_12_51 : am_flok (12, 51, 11, 29) := ⟨_, rfl, by decide, (am_in 971 (by decide +kernel) (by decide +kernel))⟩
theorem am_f_12_48 : am_flok (12, 48, 11, 28) := ⟨_, rfl, by decide, (am_in 970 (by decide +kernel) (by decide +kernel))⟩
theorem am_f_12_188 : am_flok (12, 188, 11, 24) := ⟨_, rfl, by decide, (am_in 966 (by decide +kernel) (by decide +kernel))⟩
theorem am_f_12_191 : am_flok (12, 191, 11, 25) := ⟨_, rfl, by decide, (am_in 967 (by decide +kernel) (by decide +kernel))⟩
theorem am_f_12_197 : am_flok (12, 197, 11, 26) := ⟨_, rfl, by decide, (am_in 968 (by decide +kernel) (by decide +kernel))⟩
theorem am_f_12_45 : am_flok (12, 45, 11, 27) := ⟨_, rfl, by decide, (am_in 969 (by decide +kernel) (by decide +kernel))⟩
theorem am_f_12_206 : am_flok (12, 206, 11, 31) := ⟨_, rfl, by decide, (am_in 973 (by decide +kernel) (by decide +kernel))⟩
theorem am_f_12_35 : am_flok (12, 35, 11, 20) := ⟨_, rfl, by decide, (am_in 962 (by decide +kernel) (by decide +kernel))⟩
theorem am_f_12_32 : am_flok (12, 32, 11, 19) := ⟨_, rfl, by decide, (am_in 961 (by decide +kernel) (by decide +kernel))⟩
theorem am_f_12_233 : am_flok (12, 233, 11, 34) := ⟨_, rfl, by decide, (am_in 976 (by decide +kernel) (by decide +kernel))⟩
theorem am_f_12_57 : am_flok (12, 57, 11, 32) := ⟨_, rfl, by decide, (am_in 974 (by decide +kernel) (by decide +kernel))⟩
theorem am_f_12_60 : am_flok (12, 60, 11, 33) := ⟨_, rfl, by decide, (am_in 975 (by decide +kernel) (by decide +kernel))⟩
theorem am_f_12_42 : am_flok (12, 42, 11, 23) := ⟨_, rfl, by decide, (am_in 965 (by decide +kernel) (by decide +kernel))⟩
set_option maxRecDepth 20000 in
theorem am_fl_ok : ∀ x ∈ am_fl, am_flok x := am_ac am_f_0_12 (am_ac am_f_0_34 (am_ac am_f_0_41 (am_ac am_f_0_45 (am_ac am_f_0_46 (am_ac am_f_0_18 (am_ac am_f_0_49 (am_ac am_f_0_22 (am_ac am_f_0_25 (am_ac am_f_0_28 (am_ac am_f_0_31 (am_ac am_f_1_11 (am_ac am_f_1_54 (am_ac am_f_1_58 (am_ac am_f_1_37 (am_ac am_f_1_66 (am_ac am_f_1_69 (am_ac am_f_1_72 (am_ac am_f_1_76 (am_ac am_f_1_81 (am_ac am_f_1_84 (am_ac am_f_1_87 (am_ac am_f_1_90 (am_ac am_f_1_33 (am_ac am_f_1_101 (am_ac am_f_1_17 (am_ac am_f_1_132 (am_ac am_f_1_135 (am_ac am_f_1_21 (am_ac am_f_1_175 (am_ac am_f_1_189 (am_ac am_f_1_192 (am_ac am_f_1_24 (am_ac am_f_1_27 (am_ac am_f_1_202 (am_ac am_f_1_205 (am_ac am_f_1_30 (am_ac am_f_2_22 (am_ac am_f_2_45 (am_ac am_f_2_56 (am_ac am_f_2_12 (am_ac am_f_2_66 (am_ac am_f_2_25 (am_ac am_f_2_73 (am_ac am_f_2_76 (am_ac am_f_2_79 (am_ac am_f_2_82 (am_ac am_f_2_18 (am_ac am_f_2_85 (am_ac am_f_2_29 (am_ac am_f_2_32 (am_ac am_f_2_35 (am_ac am_f_2_38 (am_ac am_f_3_9 (am_ac am_f_3_15 (am_ac am_f_3_18 (am_ac am_f_3_21 (am_ac am_f_3_30 (am_ac am_f_6_21 (am_ac am_f_6_9 (am_ac am_f_6_18 (am_ac am_f_6_27 (am_ac am_f_6_30 (am_ac am_f_6_33 (am_ac am_f_6_40 (am_ac am_f_6_43 (am_ac am_f_6_15 (am_ac am_f_8_21 (am_ac am_f_8_27 (am_ac am_f_8_33 (am_ac am_f_8_12 (am_ac am_f_8_50 (am_ac am_f_8_58 (am_ac am_f_8_63 (am_ac am_f_8_68 (am_ac am_f_8_72 (am_ac am_f_8_81 (am_ac am_f_8_91 (am_ac am_f_8_102 (am_ac am_f_8_105 (am_ac am_f_8_108 (am_ac am_f_8_111 (am_ac am_f_8_121 (am_ac am_f_8_136 (am_ac am_f_8_151 (am_ac am_f_8_158 (am_ac am_f_8_161 (am_ac am_f_8_164 (am_ac am_f_8_36 (am_ac am_f_8_40 (am_ac am_f_8_43 (am_ac am_f_8_47 (am_ac am_f_8_171 (am_ac am_f_8_172 (am_ac am_f_8_175 (am_ac am_f_11_10 (am_ac am_f_11_39 (am_ac am_f_11_64 (am_ac am_f_11_68 (am_ac am_f_11_74 (am_ac am_f_11_81 (am_ac am_f_11_95 (am_ac am_f_11_99 (am_ac am_f_11_102 (am_ac am_f_11_105 (am_ac am_f_11_19 (am_ac am_f_11_108 (am_ac am_f_11_43 (am_ac am_f_11_133 (am_ac am_f_11_136 (am_ac am_f_11_137 (am_ac am_f_11_157 (am_ac am_f_11_23 (am_ac am_f_11_27 (am_ac am_f_11_164 (am_ac am_f_11_52 (am_ac am_f_11_185 (am_ac am_f_11_188 (am_ac am_f_11_198 (am_ac am_f_11_212 (am_ac am_f_11_215 (am_ac am_f_11_231 (am_ac am_f_11_234 (am_ac am_f_11_237 (am_ac am_f_12_63 (am_ac am_f_12_70 (am_ac am_f_12_29 (am_ac am_f_12_7 (am_ac am_f_12_73 (am_ac am_f_12_23 (am_ac am_f_12_78 (am_ac am_f_12_81 (am_ac am_f_12_84 (am_ac am_f_12_87 (am_ac am_f_12_92 (am_ac am_f_12_106 (am_ac am_f_12_26 (am_ac am_f_12_116 (am_ac am_f_12_122 (am_ac am_f_12_152 (am_ac am_f_12_16 (am_ac am_f_12_19 (am_ac am_f_12_13 (am_ac am_f_12_168 (am_ac am_f_12_38 (am_ac am_f_12_54 (am_ac am_f_12_51 (am_ac am_f_12_48 (am_ac am_f_12_188 (am_ac am_f_12_191 (am_ac am_f_12_197 (am_ac am_f_12_45 (am_ac am_f_12_206 (am_ac am_f_12_35 (am_ac am_f_12_32 (am_ac am_f_12_233 (am_ac am_f_12_57 (am_ac am_f_12_60 (am_ac am_f_12_42 (am_an)))))))))))))))))))))))))))))))))))))))))))))))))))))))))))))))))))))))))))))))))))))))))))))))))))))))))))))))))))))))))))))))))))))))))))))))))))))))))))))))
theorem am_m_0_37 : am_mlok (0, 37, 39, 0) := ⟨(am_in 582 (by decide +kernel) (by decide +kernel)), (am_in 583 (by decide +kernel) (by decide +kernel)), (am_in 584 (by decide +kernel) (by decide +kernel)), (am_in 62 (by decide +kernel) (by decide +kernel))⟩
theorem am_m_1_42 : am_mlok (1, 42, 1, 0) := ⟨(am_in 768 (by decide +kernel) (by decide +kernel)), (am_in 749 (by decide +kernel) (by decide +kernel)), (am_in 750 (by decide +kernel) (by decide +kernel)), (am_in 61 (by decide +kernel) (by decide +kernel))⟩
theorem am_m_1_46 : am_mlok (1, 46, 8, 0) := ⟨(am_in 764 (by decide +kernel) (by decide +kernel)), (am_in 766 (by decide +kernel) (by decide +kernel)), (am_in 18 (by decide +kernel) (by decide +kernel)), (am_in 70 (by decide +kernel) (by decide +kernel))⟩
theorem am_m_1_50 : am_mlok (1, 50, 10, 0) := ⟨(am_in 769 (by decide +kernel) (by decide +kernel)), (am_in 771 (by decide +kernel) (by decide +kernel)), (am_in 19 (by decide +kernel) (by decide +kernel)), (am_in 70 (by decide +kernel) (by decide +kernel))⟩
theorem am_m_1_61 : am_mlok (1, 61, 61, 0) := ⟨(am_in 773 (by decide +kernel) (by decide +kernel)), (am_in 689 (by decide +kernel) (by decide +kernel)), (am_in 690 (by decide +kernel) (by decide +kernel)), (am_in 64 (by decide +kernel) (by decide +kernel))⟩
theorem am_m_1_93 : am_mlok (1, 93, 15, 0) := ⟨(am_in 870 (by decide +kernel) (by decide +kernel)), (am_in 872 (by decide +kernel) (by decide +kernel)), (am_in 29 (by decide +kernel) (by decide +kernel)), (am_in 70 (by decide +kernel) (by decide +kernel))⟩
theorem am_m_1_97 : am_mlok (1, 97, 6, 0) := ⟨(am_in 874 (by decide +kernel) (by decide +kernel)), (am_in 737 (by decide +kernel) (by decide +kernel)), (am_in 738 (by decide +kernel) (by decide +kernel)), (am_in 61 (by decide +kernel) (by decide +kernel))⟩
theorem am_m_1_106 : am_mlok (1, 106, 103, 2) := ⟨by decide +kernel, (am_in 704 (by decide +kernel) (by decide +kernel)), (am_in 59 (by decide +kernel) (by decide +kernel))⟩
theorem am_m_1_110 : am_mlok (1, 110, 17, 0) := ⟨(am_in 855 (by decide +kernel) (by decide +kernel)), (am_in 857 (by decide +kernel) (by decide +kernel)), (am_in 28 (by decide +kernel) (by decide +kernel)), (am_in 70 (by decide +kernel) (by decide +kernel))⟩
theorem am_m_1_114 : am_mlok (1, 114, 2, 0) := ⟨(am_in 859 (by decide +kernel) (by decide +kernel)), (am_in 681 (by decide +kernel) (by decide +kernel)), (am_in 682 (by decide +kernel) (by decide +kernel)), (am_in 61 (by decide +kernel) (by decide +kernel))⟩
theorem am_m_1_124 : am_mlok (1, 124, 4, 0) := ⟨(am_in 860 (by decide +kernel) (by decide +kernel)), (am_in 673 (by decide +kernel) (by decide +kernel)), (am_in 674 (by decide +kernel) (by decide +kernel)), (am_in 61 (by decide +kernel) (by decide +kernel))⟩
theorem am_m_1_128 : am_mlok (1, 128, 5, 0) := ⟨(am_in 861 (by decide +kernel) (by decide +kernel)), (am_in 677 (by decide +kernel) (by decide +kernel)), (am_in 678 (by decide +kernel) (by decide +kernel)), (am_in 61 (by decide +kernel) (by decide +kernel))⟩
theorem am_m_1_139 : am_mlok (1, 139, 19, 0) := ⟨(am_in 800 (by decide +kernel) (by decide +kernel)), (am_in 802 (by decide +kernel) (by decide +kernel)), (am_in 20 (by decide +kernel) (by decide +kernel)), (am_in 70 (by decide +kernel) (by decide +kernel))⟩
theorem am_m_1_143 : am_mlok (1, 143, 24, 0) := ⟨(am_in 804 (by decide +kernel) (by decide +kernel)), (am_in 806 (by decide +kernel) (by decide +kernel)), (am_in 21 (by decide +kernel) (by decide +kernel)), (am_in 70 (by decide +kernel) (by decide +kernel))⟩
theorem am_m_1_147 : am_mlok (1, 147, 25, 0) := ⟨(am_in 813 (by decide +kernel) (by decide +kernel)), (am_in 815 (by decide +kernel) (by decide +kernel)), (am_in 22 (by decide +kernel) (by decide +kernel)), (am_in 70 (by decide +kernel) (by decide +kernel))⟩
theorem am_m_1_150 : am_mlok (1, 150, 30, 0) := ⟨(am_in 809 (by decide +kernel) (by decide +kernel)), (am_in 611 (by decide +kernel) (by decide +kernel)), (am_in 612 (by decide +kernel) (by decide +kernel)), (am_in 63 (by decide +kernel) (by decide +kernel))⟩
theorem am_m_1_153 : am_mlok (1, 153, 20, 0) := ⟨(am_in 817 (by decide +kernel) (by decide +kernel)), (am_in 819 (by decide +kernel) (by decide +kernel)), (am_in 23 (by decide +kernel) (by decide +kernel)), (am_in 70 (by decide +kernel) (by decide +kernel))⟩
theorem am_m_1_156 : am_mlok (1, 156, 22, 0) := ⟨(am_in 839 (by decide +kernel) (by decide +kernel)), (am_in 841 (by decide +kernel) (by decide +kernel)), (am_in 27 (by decide +kernel) (by decide +kernel)), (am_in 70 (by decide +kernel) (by decide +kernel))⟩
theorem am_m_1_160 : am_mlok (1, 160, 21, 0) := ⟨(am_in 821 (by decide +kernel) (by decide +kernel)), (am_in 823 (by decide +kernel) (by decide +kernel)), (am_in 24 (by decide +kernel) (by decide +kernel)), (am_in 70 (by decide +kernel) (by decide +kernel))⟩
theorem am_m_1_163 : am_mlok (1, 163, 26, 0) := ⟨(am_in 834 (by decide +kernel) (by decide +kernel)), (am_in 836 (by decide +kernel) (by decide +kernel)), (am_in 26 (by decide +kernel) (by decide +kernel)), (am_in 70 (by decide +kernel) (by decide +kernel))⟩
theorem am_m_1_167 : am_mlok (1, 167, 23, 0) := ⟨(am_in 825 (by decide +kernel) (by decide +kernel)), (am_in 827 (by decide +kernel) (by decide +kernel)), (am_in 25 (by decide +kernel) (by decide +kernel)), (am_in 70 (by decide +kernel) (by decide +kernel))⟩
theorem am_m_1_171 : am_mlok (1, 171, 60, 0) := ⟨(am_in 830 (by decide +kernel) (by decide +kernel)), (am_in 831 (by decide +kernel) (by decide +kernel)), (am_in 832 (by decide +kernel) (by decide +kernel)), (am_in 64 (by decide +kernel) (by decide +kernel))⟩
theorem am_m_1_178 : am_mlok (1, 178, 102, 2) := ⟨by decide +kernel, (am_in 568 (by decide +kernel) (by decide +kernel)), (am_in 59 (by decide +kernel) (by decide +kernel))⟩
theorem am_m_1_195 : am_mlok (1, 195, 28, 0) := ⟨(am_in 892 (by decide +kernel) (by decide +kernel)), (am_in 894 (by decide +kernel) (by decide +kernel)), (am_in 30 (by decide +kernel) (by decide +kernel)), (am_in 70 (by decide +kernel) (by decide +kernel))⟩
theorem am_m_1_199 : am_mlok (1, 199, 29, 1) := ⟨(am_in 896 (by decide +kernel) (by decide +kernel)), (am_in 897 (by decide +kernel) (by decide +kernel)), (am_in 70 (by decide +kernel) (by decide +kernel))⟩
theorem am_m_2_41 : am_mlok (2, 41, 102, 2) := ⟨by decide +kernel, (am_in 568 (by decide +kernel) (by decide +kernel)), (am_in 59 (by decide +kernel) (by decide +kernel))⟩
theorem am_m_2_48 : am_mlok (2, 48, 30, 0) := ⟨(am_in 782 (by decide +kernel) (by decide +kernel)), (am_in 611 (by decide +kernel) (by decide +kernel)), (am_in 612 (by decide +kernel) (by decide +kernel)), (am_in 63 (by decide +kernel) (by decide +kernel))⟩
theorem am_m_2_51 : am_mlok (2, 51, 44, 0) := ⟨(am_in 555 (by decide +kernel) (by decide +kernel)), (am_in 556 (by decide +kernel) (by decide +kernel)), (am_in 557 (by decide +kernel) (by decide +kernel)), (am_in 60 (by decide +kernel) (by decide +kernel))⟩
theorem am_m_2_59 : am_mlok (2, 59, 33, 0) := ⟨(am_in 559 (by decide +kernel) (by decide +kernel)), (am_in 561 (by decide +kernel) (by decide +kernel)), (am_in 7 (by decide +kernel) (by decide +kernel)), (am_in 63 (by decide +kernel) (by decide +kernel))⟩
theorem am_m_2_62 : am_mlok (2, 62, 35, 0) := ⟨(am_in 563 (by decide +kernel) (by decide +kernel)), (am_in 565 (by decide +kernel) (by decide +kernel)), (am_in 8 (by decide +kernel) (by decide +kernel)), (am_in 63 (by decide +kernel) (by decide +kernel))⟩
theorem am_m_2_69 : am_mlok (2, 69, 34, 0) := ⟨(am_in 570 (by decide +kernel) (by decide +kernel)), (am_in 572 (by decide +kernel) (by decide +kernel)), (am_in 9 (by decide +kernel) (by decide +kernel)), (am_in 63 (by decide +kernel) (by decide +kernel))⟩
theorem am_m_2_88 : am_mlok (2, 88, 103, 2) := ⟨by decide +kernel, (am_in 704 (by decide +kernel) (by decide +kernel)), (am_in 59 (by decide +kernel) (by decide +kernel))⟩
theorem am_m_6_36 : am_mlok (6, 36, 46, 0) := ⟨(am_in 448 (by decide +kernel) (by decide +kernel)), (am_in 450 (by decide +kernel) (by decide +kernel)), (am_in 0 (by decide +kernel) (by decide +kernel)), (am_in 60 (by decide +kernel) (by decide +kernel))⟩
theorem am_m_6_46 : am_mlok (6, 46, 48, 0) := ⟨(am_in 452 (by decide +kernel) (by decide +kernel)), (am_in 454 (by decide +kernel) (by decide +kernel)), (am_in 1 (by decide +kernel) (by decide +kernel)), (am_in 60 (by decide +kernel) (by decide +kernel))⟩
theorem am_m_6_49 : am_mlok (6, 49, 50, 0) := ⟨(am_in 459 (by decide +kernel) (by decide +kernel)), (am_in 461 (by decide +kernel) (by decide +kernel)), (am_in 2 (by decide +kernel) (by decide +kernel)), (am_in 60 (by decide +kernel) (by decide +kernel))⟩
theorem am_m_6_53 : am_mlok (6, 53, 54, 1) := ⟨(am_in 528 (by decide +kernel) (by decide +kernel)), (am_in 529 (by decide +kernel) (by decide +kernel)), (am_in 60 (by decide +kernel) (by decide +kernel))⟩
theorem am_m_6_57 : am_mlok (6, 57, 52, 0) := ⟨(am_in 531 (by decide +kernel) (by decide +kernel)), (am_in 533 (by decide +kernel) (by decide +kernel)), (am_in 4 (by decide +kernel) (by decide +kernel)), (am_in 60 (by decide +kernel) (by decide +kernel))⟩
theorem am_m_6_60 : am_mlok (6, 60, 55, 1) := ⟨(am_in 535 (by decide +kernel) (by decide +kernel)), (am_in 536 (by decide +kernel) (by decide +kernel)), (am_in 60 (by decide +kernel) (by decide +kernel))⟩
theorem am_m_6_64 : am_mlok (6, 64, 56, 0) := ⟨(am_in 538 (by decide +kernel) (by decide +kernel)), (am_in 540 (by decide +kernel) (by decide +kernel)), (am_in 5 (by decide +kernel) (by decide +kernel)), (am_in 60 (by decide +kernel) (by decide +kernel))⟩
theorem am_m_6_67 : am_mlok (6, 67, 47, 0) := ⟨(am_in 542 (by decide +kernel) (by decide +kernel)), (am_in 544 (by decide +kernel) (by decide +kernel)), (am_in 6 (by decide +kernel) (by decide +kernel)), (am_in 60 (by decide +kernel) (by decide +kernel))⟩
theorem am_m_6_71 : am_mlok (6, 71, 49, 1) := ⟨(am_in 456 (by decide +kernel) (by decide +kernel)), (am_in 457 (by decide +kernel) (by decide +kernel)), (am_in 60 (by decide +kernel) (by decide +kernel))⟩
theorem am_m_6_74 : am_mlok (6, 74, 53, 1) := ⟨(am_in 463 (by decide +kernel) (by decide +kernel)), (am_in 464 (by decide +kernel) (by decide +kernel)), (am_in 60 (by decide +kernel) (by decide +kernel))⟩
theorem am_m_6_78 : am_mlok (6, 78, 51, 0) := ⟨(am_in 476 (by decide +kernel) (by decide +kernel)), (am_in 478 (by decide +kernel) (by decide +kernel)), (am_in 3 (by decide +kernel) (by decide +kernel)), (am_in 60 (by decide +kernel) (by decide +kernel))⟩
theorem am_m_8_54 : am_mlok (8, 54, 102, 2) := ⟨by decide +kernel, (am_in 568 (by decide +kernel) (by decide +kernel)), (am_in 59 (by decide +kernel) (by decide +kernel))⟩
theorem am_m_8_77 : am_mlok (8, 77, 58, 0) := ⟨(am_in 639 (by decide +kernel) (by decide +kernel)), (am_in 619 (by decide +kernel) (by decide +kernel)), (am_in 620 (by decide +kernel) (by decide +kernel)), (am_in 64 (by decide +kernel) (by decide +kernel))⟩
theorem am_m_8_114 : am_mlok (8, 114, 59, 0) := ⟨(am_in 697 (by decide +kernel) (by decide +kernel)), (am_in 635 (by decide +kernel) (by decide +kernel)), (am_in 636 (by decide +kernel) (by decide +kernel)), (am_in 64 (by decide +kernel) (by decide +kernel))⟩
theorem am_m_8_118 : am_mlok (8, 118, 30, 0) := ⟨(am_in 698 (by decide +kernel) (by decide +kernel)), (am_in 611 (by decide +kernel) (by decide +kernel)), (am_in 612 (by decide +kernel) (by decide +kernel)), (am_in 63 (by decide +kernel) (by decide +kernel))⟩
theorem am_m_8_124 : am_mlok (8, 124, 103, 2) := ⟨by decide +kernel, (am_in 704 (by decide +kernel) (by decide +kernel)), (am_in 59 (by decide +kernel) (by decide +kernel))⟩
theorem am_m_8_128 : am_mlok (8, 128, 2, 0) := ⟨(am_in 692 (by decide +kernel) (by decide +kernel)), (am_in 681 (by decide +kernel) (by decide +kernel)), (am_in 682 (by decide +kernel) (by decide +kernel)), (am_in 61 (by decide +kernel) (by decide +kernel))⟩
theorem am_m_8_132 : am_mlok (8, 132, 62, 0) := ⟨(am_in 693 (by decide +kernel) (by decide +kernel)), (am_in 695 (by decide +kernel) (by decide +kernel)), (am_in 13 (by decide +kernel) (by decide +kernel)), (am_in 64 (by decide +kernel) (by decide +kernel))⟩
theorem am_m_8_139 : am_mlok (8, 139, 63, 0) := ⟨(am_in 699 (by decide +kernel) (by decide +kernel)), (am_in 701 (by decide +kernel) (by decide +kernel)), (am_in 14 (by decide +kernel) (by decide +kernel)), (am_in 64 (by decide +kernel) (by decide +kernel))⟩
theorem am_m_8_143 : am_mlok (8, 143, 64, 0) := ⟨(am_in 706 (by decide +kernel) (by decide +kernel)), (am_in 708 (by decide +kernel) (by decide +kernel)), (am_in 15 (by decide +kernel) (by decide +kernel)), (am_in 64 (by decide +kernel) (by decide +kernel))⟩
theorem am_m_8_147 : am_mlok (8, 147, 65, 0) := ⟨(am_in 720 (by decide +kernel) (by decide +kernel)), (am_in 722 (by decide +kernel) (by decide +kernel)), (am_in 16 (by decide +kernel) (by decide +kernel)), (am_in 64 (by decide +kernel) (by decide +kernel))⟩
theorem am_m_8_154 : am_mlok (8, 154, 66, 0) := ⟨(am_in 724 (by decide +kernel) (by decide +kernel)), (am_in 726 (by decide +kernel) (by decide +kernel)), (am_in 17 (by decide +kernel) (by decide +kernel)), (am_in 64 (by decide +kernel) (by decide +kernel))⟩
theorem am_m_8_178 : am_mlok (8, 178, 7, 0) := ⟨(am_in 728 (by decide +kernel) (by decide +kernel)), (am_in 729 (by decide +kernel) (by decide +kernel)), (am_in 730 (by decide +kernel) (by decide +kernel)), (am_in 61 (by decide +kernel) (by decide +kernel))⟩
theorem am_m_11_56 : am_mlok (11, 56, 42, 0) := ⟨(am_in 427 (by decide +kernel) (by decide +kernel)), (am_in 428 (by decide +kernel) (by decide +kernel)), (am_in 429 (by decide +kernel) (by decide +kernel)), (am_in 60 (by decide +kernel) (by decide +kernel))⟩
theorem am_m_11_60 : am_mlok (11, 60, 43, 0) := ⟨(am_in 436 (by decide +kernel) (by decide +kernel)), (am_in 437 (by decide +kernel) (by decide +kernel)), (am_in 438 (by decide +kernel) (by decide +kernel)), (am_in 60 (by decide +kernel) (by decide +kernel))⟩
theorem am_m_11_77 : am_mlok (11, 77, 45, 0) := ⟨(am_in 444 (by decide +kernel) (by decide +kernel)), (am_in 445 (by decide +kernel) (by decide +kernel)), (am_in 446 (by decide +kernel) (by decide +kernel)), (am_in 60 (by decide +kernel) (by decide +kernel))⟩
theorem am_m_11_84 : am_mlok (11, 84, 32, 0) := ⟨(am_in 551 (by decide +kernel) (by decide +kernel)), (am_in 552 (by decide +kernel) (by decide +kernel)), (am_in 553 (by decide +kernel) (by decide +kernel)), (am_in 63 (by decide +kernel) (by decide +kernel))⟩
theorem am_m_11_88 : am_mlok (11, 88, 101, 0) := ⟨(am_in 574 (by decide +kernel) (by decide +kernel)), (am_in 576 (by decide +kernel) (by decide +kernel)), (am_in 10 (by decide +kernel) (by decide +kernel)), (am_in 59 (by decide +kernel) (by decide +kernel))⟩
theorem am_m_11_91 : am_mlok (11, 91, 99, 0) := ⟨(am_in 598 (by decide +kernel) (by decide +kernel)), (am_in 600 (by decide +kernel) (by decide +kernel)), (am_in 11 (by decide +kernel) (by decide +kernel)), (am_in 59 (by decide +kernel) (by decide +kernel))⟩
theorem am_m_11_111 : am_mlok (11, 111, 100, 0) := ⟨(am_in 606 (by decide +kernel) (by decide +kernel)), (am_in 608 (by decide +kernel) (by decide +kernel)), (am_in 12 (by decide +kernel) (by decide +kernel)), (am_in 59 (by decide +kernel) (by decide +kernel))⟩
theorem am_m_11_114 : am_mlok (11, 114, 30, 0) := ⟨(am_in 610 (by decide +kernel) (by decide +kernel)), (am_in 611 (by decide +kernel) (by decide +kernel)), (am_in 612 (by decide +kernel) (by decide +kernel)), (am_in 63 (by decide +kernel) (by decide +kernel))⟩
theorem am_m_11_117 : am_mlok (11, 117, 58, 0) := ⟨(am_in 618 (by decide +kernel) (by decide +kernel)), (am_in 619 (by decide +kernel) (by decide +kernel)), (am_in 620 (by decide +kernel) (by decide +kernel)), (am_in 64 (by decide +kernel) (by decide +kernel))⟩
theorem am_m_11_126 : am_mlok (11, 126, 59, 0) := ⟨(am_in 634 (by decide +kernel) (by decide +kernel)), (am_in 635 (by decide +kernel) (by decide +kernel)), (am_in 636 (by decide +kernel) (by decide +kernel)), (am_in 64 (by decide +kernel) (by decide +kernel))⟩
theorem am_m_11_130 : am_mlok (11, 130, 102, 1) := ⟨(am_in 663 (by decide +kernel) (by decide +kernel)), (am_in 568 (by decide +kernel) (by decide +kernel)), (am_in 59 (by decide +kernel) (by decide +kernel))⟩
theorem am_m_11_140 : am_mlok (11, 140, 4, 0) := ⟨(am_in 672 (by decide +kernel) (by decide +kernel)), (am_in 673 (by decide +kernel) (by decide +kernel)), (am_in 674 (by decide +kernel) (by decide +kernel)), (am_in 61 (by decide +kernel) (by decide +kernel))⟩
theorem am_m_11_143 : am_mlok (11, 143, 5, 0) := ⟨(am_in 676 (by decide +kernel) (by decide +kernel)), (am_in 677 (by decide +kernel) (by decide +kernel)), (am_in 678 (by decide +kernel) (by decide +kernel)), (am_in 61 (by decide +kernel) (by decide +kernel))⟩
theorem am_m_11_147 : am_mlok (11, 147, 2, 0) := ⟨(am_in 680 (by decide +kernel) (by decide +kernel)), (am_in 681 (by decide +kernel) (by decide +kernel)), (am_in 682 (by decide +kernel) (by decide +kernel)), (am_in 61 (by decide +kernel) (by decide +kernel))⟩
theorem am_m_11_150 : am_mlok (11, 150, 61, 0) := ⟨(am_in 688 (by decide +kernel) (by decide +kernel)), (am_in 689 (by decide +kernel) (by decide +kernel)), (am_in 690 (by decide +kernel) (by decide +kernel)), (am_in 64 (by decide +kernel) (by decide +kernel))⟩
theorem am_m_11_154 : am_mlok (11, 154, 6, 0) := ⟨(am_in 736 (by decide +kernel) (by decide +kernel)), (am_in 737 (by decide +kernel) (by decide +kernel)), (am_in 738 (by decide +kernel) (by decide +kernel)), (am_in 61 (by decide +kernel) (by decide +kernel))⟩
theorem am_m_11_160 : am_mlok (11, 160, 1, 0) := ⟨(am_in 748 (by decide +kernel) (by decide +kernel)), (am_in 749 (by decide +kernel) (by decide +kernel)), (am_in 750 (by decide +kernel) (by decide +kernel)), (am_in 61 (by decide +kernel) (by decide +kernel))⟩
theorem am_m_11_167 : am_mlok (11, 167, 9, 0) := ⟨(am_in 760 (by decide +kernel) (by decide +kernel)), (am_in 761 (by decide +kernel) (by decide +kernel)), (am_in 762 (by decide +kernel) (by decide +kernel)), (am_in 70 (by decide +kernel) (by decide +kernel))⟩
theorem am_m_11_170 : am_mlok (11, 170, 31, 0) := ⟨(am_in 778 (by decide +kernel) (by decide +kernel)), (am_in 779 (by decide +kernel) (by decide +kernel)), (am_in 780 (by decide +kernel) (by decide +kernel)), (am_in 63 (by decide +kernel) (by decide +kernel))⟩
theorem am_m_11_173 : am_mlok (11, 173, 11, 0) := ⟨(am_in 787 (by decide +kernel) (by decide +kernel)), (am_in 788 (by decide +kernel) (by decide +kernel)), (am_in 789 (by decide +kernel) (by decide +kernel)), (am_in 70 (by decide +kernel) (by decide +kernel))⟩
theorem am_m_11_181 : am_mlok (11, 181, 18, 0) := ⟨(am_in 796 (by decide +kernel) (by decide +kernel)), (am_in 797 (by decide +kernel) (by decide +kernel)), (am_in 798 (by decide +kernel) (by decide +kernel)), (am_in 70 (by decide +kernel) (by decide +kernel))⟩
theorem am_m_11_191 : am_mlok (11, 191, 3, 0) := ⟨(am_in 847 (by decide +kernel) (by decide +kernel)), (am_in 848 (by decide +kernel) (by decide +kernel)), (am_in 849 (by decide +kernel) (by decide +kernel)), (am_in 61 (by decide +kernel) (by decide +kernel))⟩
theorem am_m_11_194 : am_mlok (11, 194, 16, 0) := ⟨(am_in 851 (by decide +kernel) (by decide +kernel)), (am_in 852 (by decide +kernel) (by decide +kernel)), (am_in 853 (by decide +kernel) (by decide +kernel)), (am_in 70 (by decide +kernel) (by decide +kernel))⟩
theorem am_m_11_201 : am_mlok (11, 201, 13, 0) := ⟨(am_in 866 (by decide +kernel) (by decide +kernel)), (am_in 867 (by decide +kernel) (by decide +kernel)), (am_in 868 (by decide +kernel) (by decide +kernel)), (am_in 70 (by decide +kernel) (by decide +kernel))⟩
theorem am_m_11_204 : am_mlok (11, 204, 14, 0) := ⟨(am_in 879 (by decide +kernel) (by decide +kernel)), (am_in 880 (by decide +kernel) (by decide +kernel)), (am_in 881 (by decide +kernel) (by decide +kernel)), (am_in 70 (by decide +kernel) (by decide +kernel))⟩
theorem am_m_11_208 : am_mlok (11, 208, 27, 0) := ⟨(am_in 888 (by decide +kernel) (by decide +kernel)), (am_in 889 (by decide +kernel) (by decide +kernel)), (am_in 890 (by decide +kernel) (by decide +kernel)), (am_in 70 (by decide +kernel) (by decide +kernel))⟩
theorem am_m_11_218 : am_mlok (11, 218, 12, 0) := ⟨(am_in 903 (by decide +kernel) (by decide +kernel)), (am_in 904 (by decide +kernel) (by decide +kernel)), (am_in 905 (by decide +kernel) (by decide +kernel)), (am_in 70 (by decide +kernel) (by decide +kernel))⟩
theorem am_m_11_221 : am_mlok (11, 221, 36, 0) := ⟨(am_in 911 (by decide +kernel) (by decide +kernel)), (am_in 912 (by decide +kernel) (by decide +kernel)), (am_in 913 (by decide +kernel) (by decide +kernel)), (am_in 63 (by decide +kernel) (by decide +kernel))⟩
theorem am_m_11_225 : am_mlok (11, 225, 37, 0) := ⟨(am_in 590 (by decide +kernel) (by decide +kernel)), (am_in 591 (by decide +kernel) (by decide +kernel)), (am_in 592 (by decide +kernel) (by decide +kernel)), (am_in 63 (by decide +kernel) (by decide +kernel))⟩
theorem am_m_11_228 : am_mlok (11, 228, 38, 0) := ⟨(am_in 923 (by decide +kernel) (by decide +kernel)), (am_in 924 (by decide +kernel) (by decide +kernel)), (am_in 925 (by decide +kernel) (by decide +kernel)), (am_in 63 (by decide +kernel) (by decide +kernel))⟩
theorem am_m_11_240 : am_mlok (11, 240, 0, 0) := ⟨(am_in 578 (by decide +kernel) (by decide +kernel)), (am_in 579 (by decide +kernel) (by decide +kernel)), (am_in 580 (by decide +kernel) (by decide +kernel)), (am_in 61 (by decide +kernel) (by decide +kernel))⟩
theorem am_m_12_66 : am_mlok (12, 66, 104, 1) := ⟨(am_in 1052 (by decide +kernel) (by decide +kernel)), (am_in 1053 (by decide +kernel) (by decide +kernel)), (am_in 71 (by decide +kernel) (by decide +kernel))⟩
theorem am_m_12_109 : am_mlok (12, 109, 110, 0) := ⟨(am_in 1072 (by decide +kernel) (by decide +kernel)), (am_in 1074 (by decide +kernel) (by decide +kernel)), (am_in 33 (by decide +kernel) (by decide +kernel)), (am_in 71 (by decide +kernel) (by decide +kernel))⟩
theorem am_m_12_112 : am_mlok (12, 112, 111, 0) := ⟨(am_in 1096 (by decide +kernel) (by decide +kernel)), (am_in 1098 (by decide +kernel) (by decide +kernel)), (am_in 35 (by decide +kernel) (by decide +kernel)), (am_in 71 (by decide +kernel) (by decide +kernel))⟩
theorem am_m_12_119 : am_mlok (12, 119, 112, 0) := ⟨(am_in 1100 (by decide +kernel) (by decide +kernel)), (am_in 1102 (by decide +kernel) (by decide +kernel)), (am_in 36 (by decide +kernel) (by decide +kernel)), (am_in 71 (by decide +kernel) (by decide +kernel))⟩
theorem am_m_12_145 : am_mlok (12, 145, 113, 0) := ⟨(am_in 1092 (by decide +kernel) (by decide +kernel)), (am_in 1094 (by decide +kernel) (by decide +kernel)), (am_in 34 (by decide +kernel) (by decide +kernel)), (am_in 71 (by decide +kernel) (by decide +kernel))⟩
theorem am_m_12_149 : am_mlok (12, 149, 114, 0) := ⟨(am_in 1104 (by decide +kernel) (by decide +kernel)), (am_in 1106 (by decide +kernel) (by decide +kernel)), (am_in 37 (by decide +kernel) (by decide +kernel)), (am_in 71 (by decide +kernel) (by decide +kernel))⟩
theorem am_m_12_155 : am_mlok (12, 155, 115, 0) := ⟨(am_in 1068 (by decide +kernel) (by decide +kernel)), (am_in 1070 (by decide +kernel) (by decide +kernel)), (am_in 32 (by decide +kernel) (by decide +kernel)), (am_in 71 (by decide +kernel) (by decide +kernel))⟩
theorem am_m_12_158 : am_mlok (12, 158, 116, 0) := ⟨(am_in 1064 (by decide +kernel) (by decide +kernel)), (am_in 1066 (by decide +kernel) (by decide +kernel)), (am_in 31 (by decide +kernel) (by decide +kernel)), (am_in 71 (by decide +kernel) (by decide +kernel))⟩
theorem am_m_12_161 : am_mlok (12, 161, 118, 0) := ⟨(am_in 1112 (by decide +kernel) (by decide +kernel)), (am_in 1114 (by decide +kernel) (by decide +kernel)), (am_in 38 (by decide +kernel) (by decide +kernel)), (am_in 71 (by decide +kernel) (by decide +kernel))⟩
theorem am_m_12_165 : am_mlok (12, 165, 107, 0) := ⟨(am_in 1116 (by decide +kernel) (by decide +kernel)), (am_in 1118 (by decide +kernel) (by decide +kernel)), (am_in 39 (by decide +kernel) (by decide +kernel)), (am_in 71 (by decide +kernel) (by decide +kernel))⟩
theorem am_m_12_171 : am_mlok (12, 171, 105, 0) := ⟨(am_in 1124 (by decide +kernel) (by decide +kernel)), (am_in 1126 (by decide +kernel) (by decide +kernel)), (am_in 40 (by decide +kernel) (by decide +kernel)), (am_in 71 (by decide +kernel) (by decide +kernel))⟩
theorem am_m_12_174 : am_mlok (12, 174, 106, 0) := ⟨(am_in 1132 (by decide +kernel) (by decide +kernel)), (am_in 1134 (by decide +kernel) (by decide +kernel)), (am_in 41 (by decide +kernel) (by decide +kernel)), (am_in 71 (by decide +kernel) (by decide +kernel))⟩
theorem am_m_12_177 : am_mlok (12, 177, 122, 1) := ⟨(am_in 1144 (by decide +kernel) (by decide +kernel)), (am_in 1145 (by decide +kernel) (by decide +kernel)), (am_in 71 (by decide +kernel) (by decide +kernel))⟩
theorem am_m_12_181 : am_mlok (12, 181, 123, 0) := ⟨(am_in 1140 (by decide +kernel) (by decide +kernel)), (am_in 1142 (by decide +kernel) (by decide +kernel)), (am_in 42 (by decide +kernel) (by decide +kernel)), (am_in 71 (by decide +kernel) (by decide +kernel))⟩
theorem am_m_12_184 : am_mlok (12, 184, 127, 0) := ⟨(am_in 1159 (by decide +kernel) (by decide +kernel)), (am_in 1161 (by decide +kernel) (by decide +kernel)), (am_in 43 (by decide +kernel) (by decide +kernel)), (am_in 71 (by decide +kernel) (by decide +kernel))⟩
theorem am_m_12_194 : am_mlok (12, 194, 129, 0) := ⟨(am_in 1179 (by decide +kernel) (by decide +kernel)), (am_in 1181 (by decide +kernel) (by decide +kernel)), (am_in 47 (by decide +kernel) (by decide +kernel)), (am_in 71 (by decide +kernel) (by decide +kernel))⟩
theorem am_m_12_200 : am_mlok (12, 200, 130, 0) := ⟨(am_in 1175 (by decide +kernel) (by decide +kernel)), (am_in 1177 (by decide +kernel) (by decide +kernel)), (am_in 46 (by decide +kernel) (by decide +kernel)), (am_in 71 (by decide +kernel) (by decide +kernel))⟩
theorem am_m_12_203 : am_mlok (12, 203, 131, 0) := ⟨(am_in 1171 (by decide +kernel) (by decide +kernel)), (am_in 1173 (by decide +kernel) (by decide +kernel)), (am_in 45 (by decide +kernel) (by decide +kernel)), (am_in 71 (by decide +kernel) (by decide +kernel))⟩
theorem am_m_12_210 : am_mlok (12, 210, 132, 0) := ⟨(am_in 1167 (by decide +kernel) (by decide +kernel)), (am_in 1169 (by decide +kernel) (by decide +kernel)), (am_in 44 (by decide +kernel) (by decide +kernel)), (am_in 71 (by decide +kernel) (by decide +kernel))⟩
theorem am_m_12_213 : am_mlok (12, 213, 134, 0) := ⟨(am_in 1187 (by decide +kernel) (by decide +kernel)), (am_in 1189 (by decide +kernel) (by decide +kernel)), (am_in 48 (by decide +kernel) (by decide +kernel)), (am_in 71 (by decide +kernel) (by decide +kernel))⟩
theorem am_m_12_216 : am_mlok (12, 216, 137, 1) := ⟨(am_in 1199 (by decide +kernel) (by decide +kernel)), (am_in 1200 (by decide +kernel) (by decide +kernel)), (am_in 71 (by decide +kernel) (by decide +kernel))⟩
theorem am_m_12_220 : am_mlok (12, 220, 140, 0) := ⟨(am_in 1210 (by decide +kernel) (by decide +kernel)), (am_in 1212 (by decide +kernel) (by decide +kernel)), (am_in 49 (by decide +kernel) (by decide +kernel)), (am_in 71 (by decide +kernel) (by decide +kernel))⟩
theorem am_m_12_223 : am_mlok (12, 223, 142, 0) := ⟨(am_in 1214 (by decide +kernel) (by decide +kernel)), (am_in 1216 (by decide +kernel) (by decide +kernel)), (am_in 50 (by decide +kernel) (by decide +kernel)), (am_in 71 (by decide +kernel) (by decide +kernel))⟩
theorem am_m_12_227 : am_mlok (12, 227, 141, 0) := ⟨(am_in 1218 (by decide +kernel) (by decide +kernel)), (am_in 1220 (by decide +kernel) (by decide +kernel)), (am_in 51 (by decide +kernel) (by decide +kernel)), (am_in 71 (by decide +kernel) (by decide +kernel))⟩
theorem am_m_12_230 : am_mlok (12, 230, 143, 0) := ⟨(am_in 1226 (by decide +kernel) (by decide +kernel)), (am_in 1207 (by decide +kernel) (by decide +kernel)), (am_in 1208 (by decide +kernel) (by decide +kernel)), (am_in 71 (by decide +kernel) (by decide +kernel))⟩
theorem am_m_12_236 : am_mlok (12, 236, 147, 0) := ⟨(am_in 1239 (by decide +kernel) (by decide +kernel)), (am_in 1241 (by decide +kernel) (by decide +kernel)), (am_in 53 (by decide +kernel) (by decide +kernel)), (am_in 71 (by decide +kernel) (by decide +kernel))⟩
theorem am_m_12_239 : am_mlok (12, 239, 146, 0) := ⟨(am_in 1235 (by decide +kernel) (by decide +kernel)), (am_in 1237 (by decide +kernel) (by decide +kernel)), (am_in 52 (by decide +kernel) (by decide +kernel)), (am_in 71 (by decide +kernel) (by decide +kernel))⟩
theorem am_m_12_243 : am_mlok (12, 243, 149, 0) := ⟨(am_in 1247 (by decide +kernel) (by decide +kernel)), (am_in 1249 (by decide +kernel) (by decide +kernel)), (am_in 54 (by decide +kernel) (by decide +kernel)), (am_in 71 (by decide +kernel) (by decide +kernel))⟩
theorem am_m_12_246 : am_mlok (12, 246, 150, 0) := ⟨(am_in 1251 (by decide +kernel) (by decide +kernel)), (am_in 1253 (by decide +kernel) (by decide +kernel)), (am_in 55 (by decide +kernel) (by decide +kernel)), (am_in 71 (by decide +kernel) (by decide +kernel))⟩
theorem am_m_12_249 : am_mlok (12, 249, 152, 0) := ⟨(am_in 1259 (by decide +kernel) (by decide +kernel)), (am_in 1261 (by decide +kernel) (by decide +kernel)), (am_in 56 (by decide +kernel) (by decide +kernel)), (am_in 71 (by decide +kernel) (by decide +kernel))⟩
theorem am_m_12_252 : am_mlok (12, 252, 155, 0) := ⟨(am_in 1271 (by decide +kernel) (by decide +kernel)), (am_in 1273 (by decide +kernel) (by decide +kernel)), (am_in 57 (by decide +kernel) (by decide +kernel)), (am_in 71 (by decide +kernel) (by decide +kernel))⟩
set_option maxRecDepth 20000 in
theorem am_ml_ok : ∀ x ∈ am_ml, am_mlok x := am_ac am_m_0_37 (am_ac am_m_1_42 (am_ac am_m_1_46 (am_ac am_m_1_50 (am_ac am_m_1_61 (am_ac am_m_1_93 (am_ac am_m_1_97 (am_ac am_m_1_106 (am_ac am_m_1_110 (am_ac am_m_1_114 (am_ac am_m_1_124 (am_ac am_m_1_128 (am_ac am_m_1_139 (am_ac am_m_1_143 (am_ac am_m_1_147 (am_ac am_m_1_150 (am_ac am_m_1_153 (am_ac am_m_1_156 (am_ac am_m_1_160 (am_ac am_m_1_163 (am_ac am_m_1_167 (am_ac am_m_1_171 (am_ac am_m_1_178 (am_ac am_m_1_195 (am_ac am_m_1_199 (am_ac am_m_2_41 (am_ac am_m_2_48 (am_ac am_m_2_51 (am_ac am_m_2_59 (am_ac am_m_2_62 (am_ac am_m_2_69 (am_ac am_m_2_88 (am_ac am_m_6_36 (am_ac am_m_6_46 (am_ac am_m_6_49 (am_ac am_m_6_53 (am_ac am_m_6_57 (am_ac am_m_6_60 (am_ac am_m_6_64 (am_ac am_m_6_67 (am_ac am_m_6_71 (am_ac am_m_6_74 (am_ac am_m_6_78 (am_ac am_m_8_54 (am_ac am_m_8_77 (am_ac am_m_8_114 (am_ac am_m_8_118 (am_ac am_m_8_124 (am_ac am_m_8_128 (am_ac am_m_8_132 (am_ac am_m_8_139 (am_ac am_m_8_143 (am_ac am_m_8_147 (am_ac am_m_8_154 (am_ac am_m_8_178 (am_ac am_m_11_56 (am_ac am_m_11_60 (am_ac am_m_11_77 (am_ac am_m_11_84 (am_ac am_m_11_88 (am_ac am_m_11_91 (am_ac am_m_11_111 (am_ac am_m_11_114 (am_ac am_m_11_117 (am_ac am_m_11_126 (am_ac am_m_11_130 (am_ac am_m_11_140 (am_ac am_m_11_143 (am_ac am_m_11_147 (am_ac am_m_11_150 (am_ac am_m_11_154 (am_ac am_m_11_160 (am_ac am_m_11_167 (am_ac am_m_11_170 (am_ac am_m_11_173 (am_ac am_m_11_181 (am_ac am_m_11_191 (am_ac am_m_11_194 (am_ac am_m_11_201 (am_ac am_m_11_204 (am_ac am_m_11_208 (am_ac am_m_11_218 (am_ac am_m_11_221 (am_ac am_m_11_225 (am_ac am_m_11_228 (am_ac am_m_11_240 (am_ac am_m_12_66 (am_ac am_m_12_109 (am_ac am_m_12_112 (am_ac am_m_12_119 (am_ac am_m_12_145 (am_ac am_m_12_149 (am_ac am_m_12_155 (am_ac am_m_12_158 (am_ac am_m_12_161 (am_ac am_m_12_165 (am_ac am_m_12_171 (am_ac am_m_12_174 (am_ac am_m_12_177 (am_ac am_m_12_181 (am_ac am_m_12_184 (am_ac am_m_12_194 (am_ac am_m_12_200 (am_ac am_m_12_203 (am_ac am_m_12_210 (am_ac am_m_12_213 (am_ac am_m_12_216 (am_ac am_m_12_220 (am_ac am_m_12_223 (am_ac am_m_12_227 (am_ac am_m_12_230 (am_ac am_m_12_236 (am_ac am_m_12_239 (am_ac am_m_12_243 (am_ac am_m_12_246 (am_ac am_m_12_249 (am_ac am_m_12_252 (am_an)))))))))))))))))))))))))))))))))))))))))))))))))))))))))))))))))))))))))))))))))))))))))))))))))))))))))))))))))))))
theorem am_c_6_25 : am_clok (6, 25, 255) := (am_in 431 (by decide +kernel) (by decide +kernel))
theorem am_c_12_76 : am_clok (12, 76, 255) := (am_in 1055 (by decide +kernel) (by decide +kernel))
theorem am_c_12_90 : am_clok (12, 90, -2) := (am_in 1076 (by decide +kernel) (by decide +kernel))
theorem am_c_12_96 : am_clok (12, 96, 27) := (am_in 1077 (by decide +kernel) (by decide +kernel))
theorem am_c_12_98 : am_clok (12, 98, 96) := (am_in 1078 (by decide +kernel) (by decide +kernel))
theorem am_c_12_100 : am_clok (12, 100, -4) := (am_in 1079 (by decide +kernel) (by decide +kernel))
theorem am_c_12_102 : am_clok (12, 102, -1) := (am_in 1080 (by decide +kernel) (by decide +kernel))
theorem am_c_12_104 : am_clok (12, 104, -3) := (am_in 1081 (by decide +kernel) (by decide +kernel))
theorem am_c_12_125 : am_clok (12, 125, 8740238) := (am_in 1082 (by decide +kernel) (by decide +kernel))
theorem am_c_12_127 : am_clok (12, 127, 12257495) := (am_in 1083 (by decide +kernel) (by decide +kernel))
theorem am_c_12_129 : am_clok (12, 129, 10502561) := (am_in 1084 (by decide +kernel) (by decide +kernel))
theorem am_c_12_131 : am_clok (12, 131, 404923) := (am_in 1085 (by decide +kernel) (by decide +kernel))
theorem am_c_12_133 : am_clok (12, 133, 158529) := (am_in 1086 (by decide +kernel) (by decide +kernel))
theorem am_c_12_135 : am_clok (12, 135, 187475625) := (am_in 1087 (by decide +kernel) (by decide +kernel))
theorem am_c_12_137 : am_clok (12, 137, 4797) := (am_in 1088 (by decide +kernel) (by decide +kernel))
theorem am_c_12_139 : am_clok (12, 139, 488582165) := (am_in 1089 (by decide +kernel) (by decide +kernel))
theorem am_c_12_141 : am_clok (12, 141, 51442444) := (am_in 1090 (by decide +kernel) (by decide +kernel))
theorem am_c_12_143 : am_clok (12, 143, 168727) := (am_in 1091 (by decide +kernel) (by decide +kernel))
theorem am_cl_ok : ∀ x ∈ am_cl, am_clok x := am_ac am_c_6_25 (am_ac am_c_12_76 (am_ac am_c_12_90 (am_ac am_c_12_96 (am_ac am_c_12_98 (am_ac am_c_12_100 (am_ac am_c_12_102 (am_ac am_c_12_104 (am_ac am_c_12_125 (am_ac am_c_12_127 (am_ac am_c_12_129 (am_ac am_c_12_131 (am_ac am_c_12_133 (am_ac am_c_12_135 (am_ac am_c_12_137 (am_ac am_c_12_139 (am_ac am_c_12_141 (am_ac am_c_12_143 (am_an))))))))))))))))))
theorem am_j_0_52 : am_jlok (0, 52, 903) := (am_in 589 (by decide +kernel) (by decide +kernel))
theorem am_j_1_118 : am_jlok (1, 118, 903) := (am_in 838 (by decide +kernel) (by decide +kernel))
theorem am_j_1_181 : am_jlok (1, 181, 900) := (am_in 808 (by decide +kernel) (by decide +kernel))
theorem am_j_1_186 : am_jlok (1, 186, 901) := (am_in 810 (by decide +kernel) (by decide +kernel))
theorem am_j_3_24 : am_jlok (3, 24, 903) := (am_in 586 (by decide +kernel) (by decide +kernel))
theorem am_j_8_85 : am_jlok (8, 85, 902) := (am_in 640 (by decide +kernel) (by decide +kernel))
theorem am_j_8_99 : am_jlok (8, 99, 900) := (am_in 656 (by decide +kernel) (by decide +kernel))
theorem am_j_11_176 : am_jlok (11, 176, 900) := (am_in 795 (by decide +kernel) (by decide +kernel))
theorem am_jl_ok : ∀ x ∈ am_jl, am_jlok x := am_ac am_j_0_52 (am_ac am_j_1_118 (am_ac am_j_1_181 (am_ac am_j_1_186 (am_ac am_j_3_24 (am_ac am_j_8_85 (am_ac am_j_8_99 (am_ac am_j_11_176 (am_an))))))))
theorem am_math_ok : (Cond.static Lib.Math.min.name ∈ am_tbl ∧ Cond.code Lib.Math.min.name Lib.Math.min.code 2 (some .int) ∈ am_tbl) ∧ (Cond.static Lib.Math.max.name ∈ am_tbl ∧ Cond.code Lib.Math.max.name Lib.Math.max.code 2 (some .int) ∈ am_tbl) ∧ (Cond.static Lib.Math.abs.name ∈ am_tbl ∧ Cond.code Lib.Math.abs.name Lib.Math.abs.code 1 (some .int) ∈ am_tbl) ∧ Cond.initialized "java/lang/Math" ∈ am_tbl ∧ (Cond.native arraycopyName ∈ am_tbl ∧ Cond.static arraycopyName ∈ am_tbl ∧ Cond.initialized "java/lang/System" ∈ am_tbl) := ⟨⟨(am_in 657 (by decide +kernel) (by decide +kernel)), (am_in 658 (by decide +kernel) (by decide +kernel))⟩, ⟨(am_in 811 (by decide +kernel) (by decide +kernel)), (am_in 812 (by decide +kernel) (by decide +kernel))⟩, ⟨(am_in 641 (by decide +kernel) (by decide +kernel)), (am_in 642 (by decide +kernel) (by decide +kernel))⟩, (am_in 77 (by decide +kernel) (by decide +kernel)), (am_in 588 (by decide +kernel) (by decide +kernel)), (am_in 587 (by decide +kernel) (by decide +kernel)), (am_in 76 (by decide +kernel) (by decide +kernel))⟩
set_option maxRecDepth 20000 in
theorem am_u_0 : ∀ w ∈ u_ws RX0 TX0 8, w ∈ am_tbl := am_ins [199, 201, 203, 205, 207, 209, 211, 213] (by decide +kernel) (by decide +kernel)
set_option maxRecDepth 20000 in
theorem am_u_1 : ∀ w ∈ u_ws RX1 TX1 13, w ∈ am_tbl := am_ins [374, 376, 378, 380, 382, 384, 386, 388, 390, 392, 394, 396, 398] (by decide +kernel) (by decide +kernel)
set_option maxRecDepth 20000 in
theorem am_u_2 : ∀ w ∈ u_ws RX2 TX2 10, w ∈ am_tbl := am_ins [245, 247, 249, 251, 253, 255, 257, 259, 261, 263] (by decide +kernel) (by decide +kernel)
set_option maxRecDepth 20000 in
theorem am_u_3 : ∀ w ∈ u_ws RX3 TX3 5, w ∈ am_tbl := am_ins [162, 164, 166, 168, 170] (by decide +kernel) (by decide +kernel)
set_option maxRecDepth 20000 in
theorem am_u_4 : ∀ w ∈ u_ws RX4 TX4 0, w ∈ am_tbl := am_ins [] (by decide +kernel) (by decide +kernel)
set_option maxRecDepth 20000 in
theorem am_u_5 : ∀ w ∈ u_ws RX5 TX5 0, w ∈ am_tbl := am_ins [] (by decide +kernel) (by decide +kernel)
set_option maxRecDepth 20000 in
theorem am_u_6 : ∀ w ∈ u_ws RX6 TX6 9, w ∈ am_tbl := am_ins [104, 106, 108, 110, 112, 114, 116, 118, 120] (by decide +kernel) (by decide +kernel)
set_option maxRecDepth 20000 in
theorem am_u_7 : ∀ w ∈ u_ws RX7 TX7 0, w ∈ am_tbl := am_ins [] (by decide +kernel) (by decide +kernel)
set_option maxRecDepth 20000 in
theorem am_u_8 : ∀ w ∈ u_ws RX8 TX8 14, w ∈ am_tbl := am_ins [319, 321, 323, 325, 327, 329, 331, 333, 335, 337, 339, 341, 343, 345] (by decide +kernel) (by decide +kernel)
set_option maxRecDepth 20000 in
theorem am_u_10 : ∀ w ∈ u_ws RX10 TX10 0, w ∈ am_tbl := am_ins [] (by decide +kernel) (by decide +kernel)
set_option maxRecDepth 20000 in
theorem am_u_11 : ∀ w ∈ u_ws RX11 TX11 7, w ∈ am_tbl := am_ins [408, 410, 412, 414, 416, 418, 420] (by decide +kernel) (by decide +kernel)
set_option maxRecDepth 20000 in
theorem am_u_12 : ∀ w ∈ u_ws RX12 TX12 35, w ∈ am_tbl := am_ins [977, 979, 981, 983, 985, 987, 989, 991, 993, 995, 997, 999, 1001, 1003, 1005, 1007, 1009, 1011, 1013, 1015, 1017, 1019, 1021, 1023, 1025, 1027, 1029, 1031, 1033, 1035, 1037, 1039, 1041, 1043, 1045] (by decide +kernel) (by decide +kernel)
theorem am_cls : ∀ (ci : Nat) (q : vw_C), vwCl[ci]? = some q → ∃ ty0 : Nat → FieldType, (∀ k, k < q.2.2 → parseFieldDescriptor (q.2.1 k).2.2.1 = some (ty0 k)) ∧ (∀ a, a < q.2.2 → ∀ b, b < q.2.2 → a ≠ b → (q.2.1 a).2.1 ≠ (q.2.1 b).2.1) ∧ (∀ w ∈ u_ws q.1 q.2.1 q.2.2, w ∈ am_tbl)
  | 0, q, h => by cases h; exact ⟨tyX0, tyX0_ok, nmX0, am_u_0⟩
  | 1, q, h => by cases h; exact ⟨tyX1, tyX1_ok, nmX1, am_u_1⟩
  | 2, q, h => by cases h; exact ⟨tyX2, tyX2_ok, nmX2, am_u_2⟩
  | 3, q, h => by cases h; exact ⟨tyX3, tyX3_ok, nmX3, am_u_3⟩
  | 4, q, h => by cases h; exact ⟨tyX4, tyX4_ok, nmX4, am_u_4⟩
  | 5, q, h => by cases h; exact ⟨tyX5, tyX5_ok, nmX5, am_u_5⟩
  | 6, q, h => by cases h; exact ⟨tyX6, tyX6_ok, nmX6, am_u_6⟩
  | 7, q, h => by cases h; exact ⟨tyX7, tyX7_ok, nmX7, am_u_7⟩
  | 8, q, h => by cases h; exact ⟨tyX8, tyX8_ok, nmX8, am_u_8⟩
  | 9, q, h => by cases h; exact ⟨tyX10, tyX10_ok, nmX10, am_u_10⟩
  | 10, q, h => by cases h; exact ⟨tyX11, tyX11_ok, nmX11, am_u_11⟩
  | 11, q, h => by cases h; exact ⟨tyX12, tyX12_ok, nmX12, am_u_12⟩
  | k + 12, q, h => by simp [vwCl] at h
set_option maxRecDepth 20000 in
theorem am_k_0 : am_miok 0 := ⟨(am_in 581 (by decide +kernel) (by decide +kernel)), (am_in 61 (by decide +kernel) (by decide +kernel)), by decide +kernel, by decide +kernel⟩
set_option maxRecDepth 20000 in
theorem am_k_1 : am_miok 1 := ⟨(am_in 751 (by decide +kernel) (by decide +kernel)), (am_in 61 (by decide +kernel) (by decide +kernel)), by decide +kernel, by decide +kernel⟩
set_option maxRecDepth 20000 in
theorem am_k_2 : am_miok 2 := ⟨(am_in 683 (by decide +kernel) (by decide +kernel)), (am_in 61 (by decide +kernel) (by decide +kernel)), by decide +kernel, by decide +kernel⟩
set_option maxRecDepth 20000 in
theorem am_k_3 : am_miok 3 := ⟨(am_in 850 (by decide +kernel) (by decide +kernel)), (am_in 61 (by decide +kernel) (by decide +kernel)), by decide +kernel, by decide +kernel⟩
set_option maxRecDepth 20000 in
theorem am_k_4 : am_miok 4 := ⟨(am_in 675 (by decide +kernel) (by decide +kernel)), (am_in 61 (by decide +kernel) (by decide +kernel)), by decide +kernel, by decide +kernel⟩
set_option maxRecDepth 20000 in
theorem am_k_5 : am_miok 5 := ⟨(am_in 679 (by decide +kernel) (by decide +kernel)), (am_in 61 (by decide +kernel) (by decide +kernel)), by decide +kernel, by decide +kernel⟩
set_option maxRecDepth 20000 in
theorem am_k_6 : am_miok 6 := ⟨(am_in 739 (by decide +kernel) (by decide +kernel)), (am_in 61 (by decide +kernel) (by decide +kernel)), by decide +kernel, by decide +kernel⟩
set_option maxRecDepth 20000 in
theorem am_k_7 : am_miok 7 := ⟨(am_in 731 (by decide +kernel) (by decide +kernel)), (am_in 61 (by decide +kernel) (by decide +kernel)), by decide +kernel, by decide +kernel⟩
set_option maxRecDepth 20000 in
theorem am_k_8 : am_miok 8 := ⟨(am_in 767 (by decide +kernel) (by decide +kernel)), (am_in 70 (by decide +kernel) (by decide +kernel)), by decide +kernel, by decide +kernel⟩
set_option maxRecDepth 20000 in
theorem am_k_9 : am_miok 9 := ⟨(am_in 763 (by decide +kernel) (by decide +kernel)), (am_in 70 (by decide +kernel) (by decide +kernel)), by decide +kernel, by decide +kernel⟩
set_option maxRecDepth 20000 in
theorem am_k_10 : am_miok 10 := ⟨(am_in 772 (by decide +kernel) (by decide +kernel)), (am_in 70 (by decide +kernel) (by decide +kernel)), by decide +kernel, by decide +kernel⟩
set_option maxRecDepth 20000 in
theorem am_k_11 : am_miok 11 := ⟨(am_in 790 (by decide +kernel) (by decide +kernel)), (am_in 70 (by decide +kernel) (by decide +kernel)), by decide +kernel, by decide +kernel⟩
set_option maxRecDepth 20000 in
theorem am_k_12 : am_miok 12 := ⟨(am_in 906 (by decide +kernel) (by decide +kernel)), (am_in 70 (by decide +kernel) (by decide +kernel)), by decide +kernel, by decide +kernel⟩
set_option maxRecDepth 20000 in
theorem am_k_13 : am_miok 13 := ⟨(am_in 869 (by decide +kernel) (by decide +kernel)), (am_in 70 (by decide +kernel) (by decide +kernel)), by decide +kernel, by decide +kernel⟩
set_option maxRecDepth 20000 in
theorem am_k_14 : am_miok 14 := ⟨(am_in 882 (by decide +kernel) (by decide +kernel)), (am_in 70 (by decide +kernel) (by decide +kernel)), by decide +kernel, by decide +kernel⟩
set_option maxRecDepth 20000 in
theorem am_k_15 : am_miok 15 := ⟨(am_in 873 (by decide +kernel) (by decide +kernel)), (am_in 70 (by decide +kernel) (by decide +kernel)), by decide +kernel, by decide +kernel⟩
set_option maxRecDepth 20000 in
theorem am_k_16 : am_miok 16 := ⟨(am_in 854 (by decide +kernel) (by decide +kernel)), (am_in 70 (by decide +kernel) (by decide +kernel)), by decide +kernel, by decide +kernel⟩
set_option maxRecDepth 20000 in
theorem am_k_17 : am_miok 17 := ⟨(am_in 858 (by decide +kernel) (by decide +kernel)), (am_in 70 (by decide +kernel) (by decide +kernel)), by decide +kernel, by decide +kernel⟩
set_option maxRecDepth 20000 in
theorem am_k_18 : am_miok 18 := ⟨(am_in 799 (by decide +kernel) (by decide +kernel)), (am_in 70 (by decide +kernel) (by decide +kernel)), by decide +kernel, by decide +kernel⟩
set_option maxRecDepth 20000 in
theorem am_k_19 : am_miok 19 := ⟨(am_in 803 (by decide +kernel) (by decide +kernel)), (am_in 70 (by decide +kernel) (by decide +kernel)), by decide +kernel, by decide +kernel⟩
set_option maxRecDepth 20000 in
theorem am_k_20 : am_miok 20 := ⟨(am_in 820 (by decide +kernel) (by decide +kernel)), (am_in 70 (by decide +kernel) (by decide +kernel)), by decide +kernel, by decide +kernel⟩
set_option maxRecDepth 20000 in
theorem am_k_21 : am_miok 21 := ⟨(am_in 824 (by decide +kernel) (by decide +kernel)), (am_in 70 (by decide +kernel) (by decide +kernel)), by decide +kernel, by decide +kernel⟩
set_option maxRecDepth 20000 in
theorem am_k_22 : am_miok 22 := ⟨(am_in 842 (by decide +kernel) (by decide +kernel)), (am_in 70 (by decide +kernel) (by decide +kernel)), by decide +kernel, by decide +kernel⟩
set_option maxRecDepth 20000 in
theorem am_k_23 : am_miok 23 := ⟨(am_in 828 (by decide +kernel) (by decide +kernel)), (am_in 70 (by decide +kernel) (by decide +kernel)), by decide +kernel, by decide +kernel⟩
set_option maxRecDepth 20000 in
theorem am_k_24 : am_miok 24 := ⟨(am_in 807 (by decide +kernel) (by decide +kernel)), (am_in 70 (by decide +kernel) (by decide +kernel)), by decide +kernel, by decide +kernel⟩
set_option maxRecDepth 20000 in
theorem am_k_25 : am_miok 25 := ⟨(am_in 816 (by decide +kernel) (by decide +kernel)), (am_in 70 (by decide +kernel) (by decide +kernel)), by decide +kernel, by decide +kernel⟩
set_option maxRecDepth 20000 in
theorem am_k_26 : am_miok 26 := ⟨(am_in 837 (by decide +kernel) (by decide +kernel)), (am_in 70 (by decide +kernel) (by decide +kernel)), by decide +kernel, by decide +kernel⟩
set_option maxRecDepth 20000 in
theorem am_k_27 : am_miok 27 := ⟨(am_in 891 (by decide +kernel) (by decide +kernel)), (am_in 70 (by decide +kernel) (by decide +kernel)), by decide +kernel, by decide +kernel⟩
set_option maxRecDepth 20000 in
theorem am_k_28 : am_miok 28 := ⟨(am_in 895 (by decide +kernel) (by decide +kernel)), (am_in 70 (by decide +kernel) (by decide +kernel)), by decide +kernel, by decide +kernel⟩
set_option maxRecDepth 20000 in
theorem am_k_29 : am_miok 29 := ⟨(am_in 898 (by decide +kernel) (by decide +kernel)), (am_in 70 (by decide +kernel) (by decide +kernel)), by decide +kernel, by decide +kernel⟩
set_option maxRecDepth 20000 in
theorem am_k_30 : am_miok 30 := ⟨(am_in 613 (by decide +kernel) (by decide +kernel)), (am_in 63 (by decide +kernel) (by decide +kernel)), by decide +kernel, by decide +kernel⟩
set_option maxRecDepth 20000 in
theorem am_k_31 : am_miok 31 := ⟨(am_in 781 (by decide +kernel) (by decide +kernel)), (am_in 63 (by decide +kernel) (by decide +kernel)), by decide +kernel, by decide +kernel⟩
set_option maxRecDepth 20000 in
theorem am_k_32 : am_miok 32 := ⟨(am_in 554 (by decide +kernel) (by decide +kernel)), (am_in 63 (by decide +kernel) (by decide +kernel)), by decide +kernel, by decide +kernel⟩
set_option maxRecDepth 20000 in
theorem am_k_33 : am_miok 33 := ⟨(am_in 562 (by decide +kernel) (by decide +kernel)), (am_in 63 (by decide +kernel) (by decide +kernel)), by decide +kernel, by decide +kernel⟩
set_option maxRecDepth 20000 in
theorem am_k_34 : am_miok 34 := ⟨(am_in 573 (by decide +kernel) (by decide +kernel)), (am_in 63 (by decide +kernel) (by decide +kernel)), by decide +kernel, by decide +kernel⟩
set_option maxRecDepth 20000 in
theorem am_k_35 : am_miok 35 := ⟨(am_in 566 (by decide +kernel) (by decide +kernel)), (am_in 63 (by decide +kernel) (by decide +kernel)), by decide +kernel, by decide +kernel⟩
set_option maxRecDepth 20000 in
theorem am_k_36 : am_miok 36 := ⟨(am_in 914 (by decide +kernel) (by decide +kernel)), (am_in 63 (by decide +kernel) (by decide +kernel)), by decide +kernel, by decide +kernel⟩
set_option maxRecDepth 20000 in
theorem am_k_37 : am_miok 37 := ⟨(am_in 593 (by decide +kernel) (by decide +kernel)), (am_in 63 (by decide +kernel) (by decide +kernel)), by decide +kernel, by decide +kernel⟩
set_option maxRecDepth 20000 in
theorem am_k_38 : am_miok 38 := ⟨(am_in 926 (by decide +kernel) (by decide +kernel)), (am_in 63 (by decide +kernel) (by decide +kernel)), by decide +kernel, by decide +kernel⟩
set_option maxRecDepth 20000 in
theorem am_k_39 : am_miok 39 := ⟨(am_in 585 (by decide +kernel) (by decide +kernel)), (am_in 62 (by decide +kernel) (by decide +kernel)), by decide +kernel, by decide +kernel⟩
set_option maxRecDepth 20000 in
theorem am_k_40 : am_miok 40 := ⟨(am_in 648 (by decide +kernel) (by decide +kernel)), (am_in 66 (by decide +kernel) (by decide +kernel)), by decide +kernel, by decide +kernel⟩
set_option maxRecDepth 20000 in
theorem am_k_41 : am_miok 41 := ⟨(am_in 651 (by decide +kernel) (by decide +kernel)), (am_in 68 (by decide +kernel) (by decide +kernel)), by decide +kernel, by decide +kernel⟩
set_option maxRecDepth 20000 in
theorem am_k_42 : am_miok 42 := ⟨(am_in 430 (by decide +kernel) (by decide +kernel)), (am_in 60 (by decide +kernel) (by decide +kernel)), by decide +kernel, by decide +kernel⟩
set_option maxRecDepth 20000 in
theorem am_k_43 : am_miok 43 := ⟨(am_in 439 (by decide +kernel) (by decide +kernel)), (am_in 60 (by decide +kernel) (by decide +kernel)), by decide +kernel, by decide +kernel⟩
set_option maxRecDepth 20000 in
theorem am_k_44 : am_miok 44 := ⟨(am_in 558 (by decide +kernel) (by decide +kernel)), (am_in 60 (by decide +kernel) (by decide +kernel)), by decide +kernel, by decide +kernel⟩
set_option maxRecDepth 20000 in
theorem am_k_45 : am_miok 45 := ⟨(am_in 447 (by decide +kernel) (by decide +kernel)), (am_in 60 (by decide +kernel) (by decide +kernel)), by decide +kernel, by decide +kernel⟩
set_option maxRecDepth 20000 in
theorem am_k_46 : am_miok 46 := ⟨(am_in 451 (by decide +kernel) (by decide +kernel)), (am_in 60 (by decide +kernel) (by decide +kernel)), by decide +kernel, by decide +kernel⟩
set_option maxRecDepth 20000 in
theorem am_k_47 : am_miok 47 := ⟨(am_in 545 (by decide +kernel) (by decide +kernel)), (am_in 60 (by decide +kernel) (by decide +kernel)), by decide +kernel, by decide +kernel⟩
set_option maxRecDepth 20000 in
theorem am_k_48 : am_miok 48 := ⟨(am_in 455 (by decide +kernel) (by decide +kernel)), (am_in 60 (by decide +kernel) (by decide +kernel)), by decide +kernel, by decide +kernel⟩
set_option maxRecDepth 20000 in
theorem am_k_49 : am_miok 49 := ⟨(am_in 458 (by decide +kernel) (by decide +kernel)), (am_in 60 (by decide +kernel) (by decide +kernel)), by decide +kernel, by decide +kernel⟩
set_option maxRecDepth 20000 in
theorem am_k_50 : am_miok 50 := ⟨(am_in 462 (by decide +kernel) (by decide +kernel)), (am_in 60 (by decide +kernel) (by decide +kernel)), by decide +kernel, by decide +kernel⟩
set_option maxRecDepth 20000 in
theorem am_k_51 : am_miok 51 := ⟨(am_in 479 (by decide +kernel) (by decide +kernel)), (am_in 60 (by decide +kernel) (by decide +kernel)), by decide +kernel, by decide +kernel⟩
set_option maxRecDepth 20000 in
theorem am_k_52 : am_miok 52 := ⟨(am_in 534 (by decide +kernel) (by decide +kernel)), (am_in 60 (by decide +kernel) (by decide +kernel)), by decide +kernel, by decide +kernel⟩
set_option maxRecDepth 20000 in
theorem am_k_53 : am_miok 53 := ⟨(am_in 465 (by decide +kernel) (by decide +kernel)), (am_in 60 (by decide +kernel) (by decide +kernel)), by decide +kernel, by decide +kernel⟩
set_option maxRecDepth 20000 in
theorem am_k_54 : am_miok 54 := ⟨(am_in 530 (by decide +kernel) (by decide +kernel)), (am_in 60 (by decide +kernel) (by decide +kernel)), by decide +kernel, by decide +kernel⟩
set_option maxRecDepth 20000 in
theorem am_k_55 : am_miok 55 := ⟨(am_in 537 (by decide +kernel) (by decide +kernel)), (am_in 60 (by decide +kernel) (by decide +kernel)), by decide +kernel, by decide +kernel⟩
set_option maxRecDepth 20000 in
theorem am_k_56 : am_miok 56 := ⟨(am_in 541 (by decide +kernel) (by decide +kernel)), (am_in 60 (by decide +kernel) (by decide +kernel)), by decide +kernel, by decide +kernel⟩
set_option maxRecDepth 20000 in
theorem am_k_57 : am_miok 57 := ⟨(am_in 654 (by decide +kernel) (by decide +kernel)), (am_in 69 (by decide +kernel) (by decide +kernel)), by decide +kernel, by decide +kernel⟩
set_option maxRecDepth 20000 in
theorem am_k_58 : am_miok 58 := ⟨(am_in 621 (by decide +kernel) (by decide +kernel)), (am_in 64 (by decide +kernel) (by decide +kernel)), by decide +kernel, by decide +kernel⟩
set_option maxRecDepth 20000 in
theorem am_k_59 : am_miok 59 := ⟨(am_in 637 (by decide +kernel) (by decide +kernel)), (am_in 64 (by decide +kernel) (by decide +kernel)), by decide +kernel, by decide +kernel⟩
set_option maxRecDepth 20000 in
theorem am_k_60 : am_miok 60 := ⟨(am_in 833 (by decide +kernel) (by decide +kernel)), (am_in 64 (by decide +kernel) (by decide +kernel)), by decide +kernel, by decide +kernel⟩
set_option maxRecDepth 20000 in
theorem am_k_61 : am_miok 61 := ⟨(am_in 691 (by decide +kernel) (by decide +kernel)), (am_in 64 (by decide +kernel) (by decide +kernel)), by decide +kernel, by decide +kernel⟩
set_option maxRecDepth 20000 in
theorem am_k_62 : am_miok 62 := ⟨(am_in 696 (by decide +kernel) (by decide +kernel)), (am_in 64 (by decide +kernel) (by decide +kernel)), by decide +kernel, by decide +kernel⟩
set_option maxRecDepth 20000 in
theorem am_k_63 : am_miok 63 := ⟨(am_in 702 (by decide +kernel) (by decide +kernel)), (am_in 64 (by decide +kernel) (by decide +kernel)), by decide +kernel, by decide +kernel⟩
set_option maxRecDepth 20000 in
theorem am_k_64 : am_miok 64 := ⟨(am_in 709 (by decide +kernel) (by decide +kernel)), (am_in 64 (by decide +kernel) (by decide +kernel)), by decide +kernel, by decide +kernel⟩
set_option maxRecDepth 20000 in
theorem am_k_65 : am_miok 65 := ⟨(am_in 723 (by decide +kernel) (by decide +kernel)), (am_in 64 (by decide +kernel) (by decide +kernel)), by decide +kernel, by decide +kernel⟩
set_option maxRecDepth 20000 in
theorem am_k_66 : am_miok 66 := ⟨(am_in 727 (by decide +kernel) (by decide +kernel)), (am_in 64 (by decide +kernel) (by decide +kernel)), by decide +kernel, by decide +kernel⟩
set_option maxRecDepth 20000 in
theorem am_k_67 : am_miok 67 := ⟨(am_in 719 (by decide +kernel) (by decide +kernel)), (am_in 65 (by decide +kernel) (by decide +kernel)), by decide +kernel, by decide +kernel⟩
set_option maxRecDepth 20000 in
theorem am_k_68 : am_miok 68 := ⟨(am_in 629 (by decide +kernel) (by decide +kernel)), (am_in 65 (by decide +kernel) (by decide +kernel)), by decide +kernel, by decide +kernel⟩
set_option maxRecDepth 20000 in
theorem am_k_69 : am_miok 69 := ⟨(am_in 718 (by decide +kernel) (by decide +kernel)), (am_in 67 (by decide +kernel) (by decide +kernel)), by decide +kernel, by decide +kernel⟩
set_option maxRecDepth 20000 in
theorem am_k_70 : am_miok 70 := ⟨(am_in 426 (by decide +kernel) (by decide +kernel)), (am_in 59 (by decide +kernel) (by decide +kernel)), by decide +kernel, by decide +kernel⟩
set_option maxRecDepth 20000 in
theorem am_k_71 : am_miok 71 := ⟨(am_in 435 (by decide +kernel) (by decide +kernel)), (am_in 59 (by decide +kernel) (by decide +kernel)), by decide +kernel, by decide +kernel⟩
set_option maxRecDepth 20000 in
theorem am_k_72 : am_miok 72 := ⟨(am_in 443 (by decide +kernel) (by decide +kernel)), (am_in 59 (by decide +kernel) (by decide +kernel)), by decide +kernel, by decide +kernel⟩
set_option maxRecDepth 20000 in
theorem am_k_73 : am_miok 73 := ⟨(am_in 550 (by decide +kernel) (by decide +kernel)), (am_in 59 (by decide +kernel) (by decide +kernel)), by decide +kernel, by decide +kernel⟩
set_option maxRecDepth 20000 in
theorem am_k_74 : am_miok 74 := ⟨(am_in 597 (by decide +kernel) (by decide +kernel)), (am_in 59 (by decide +kernel) (by decide +kernel)), by decide +kernel, by decide +kernel⟩
set_option maxRecDepth 20000 in
theorem am_k_75 : am_miok 75 := ⟨(am_in 605 (by decide +kernel) (by decide +kernel)), (am_in 59 (by decide +kernel) (by decide +kernel)), by decide +kernel, by decide +kernel⟩
set_option maxRecDepth 20000 in
theorem am_k_76 : am_miok 76 := ⟨(am_in 617 (by decide +kernel) (by decide +kernel)), (am_in 59 (by decide +kernel) (by decide +kernel)), by decide +kernel, by decide +kernel⟩
set_option maxRecDepth 20000 in
theorem am_k_77 : am_miok 77 := ⟨(am_in 662 (by decide +kernel) (by decide +kernel)), (am_in 59 (by decide +kernel) (by decide +kernel)), by decide +kernel, by decide +kernel⟩
set_option maxRecDepth 20000 in
theorem am_k_78 : am_miok 78 := ⟨(am_in 667 (by decide +kernel) (by decide +kernel)), (am_in 59 (by decide +kernel) (by decide +kernel)), by decide +kernel, by decide +kernel⟩
set_option maxRecDepth 20000 in
theorem am_k_79 : am_miok 79 := ⟨(am_in 671 (by decide +kernel) (by decide +kernel)), (am_in 59 (by decide +kernel) (by decide +kernel)), by decide +kernel, by decide +kernel⟩
set_option maxRecDepth 20000 in
theorem am_k_80 : am_miok 80 := ⟨(am_in 687 (by decide +kernel) (by decide +kernel)), (am_in 59 (by decide +kernel) (by decide +kernel)), by decide +kernel, by decide +kernel⟩
set_option maxRecDepth 20000 in
theorem am_k_81 : am_miok 81 := ⟨(am_in 735 (by decide +kernel) (by decide +kernel)), (am_in 59 (by decide +kernel) (by decide +kernel)), by decide +kernel, by decide +kernel⟩
set_option maxRecDepth 20000 in
theorem am_k_82 : am_miok 82 := ⟨(am_in 743 (by decide +kernel) (by decide +kernel)), (am_in 59 (by decide +kernel) (by decide +kernel)), by decide +kernel, by decide +kernel⟩
set_option maxRecDepth 20000 in
theorem am_k_83 : am_miok 83 := ⟨(am_in 747 (by decide +kernel) (by decide +kernel)), (am_in 59 (by decide +kernel) (by decide +kernel)), by decide +kernel, by decide +kernel⟩
set_option maxRecDepth 20000 in
theorem am_k_84 : am_miok 84 := ⟨(am_in 755 (by decide +kernel) (by decide +kernel)), (am_in 59 (by decide +kernel) (by decide +kernel)), by decide +kernel, by decide +kernel⟩
set_option maxRecDepth 20000 in
theorem am_k_85 : am_miok 85 := ⟨(am_in 759 (by decide +kernel) (by decide +kernel)), (am_in 59 (by decide +kernel) (by decide +kernel)), by decide +kernel, by decide +kernel⟩
set_option maxRecDepth 20000 in
theorem am_k_86 : am_miok 86 := ⟨(am_in 777 (by decide +kernel) (by decide +kernel)), (am_in 59 (by decide +kernel) (by decide +kernel)), by decide +kernel, by decide +kernel⟩
set_option maxRecDepth 20000 in
theorem am_k_87 : am_miok 87 := ⟨(am_in 786 (by decide +kernel) (by decide +kernel)), (am_in 59 (by decide +kernel) (by decide +kernel)), by decide +kernel, by decide +kernel⟩
set_option maxRecDepth 20000 in
theorem am_k_88 : am_miok 88 := ⟨(am_in 794 (by decide +kernel) (by decide +kernel)), (am_in 59 (by decide +kernel) (by decide +kernel)), by decide +kernel, by decide +kernel⟩
set_option maxRecDepth 20000 in
theorem am_k_89 : am_miok 89 := ⟨(am_in 846 (by decide +kernel) (by decide +kernel)), (am_in 59 (by decide +kernel) (by decide +kernel)), by decide +kernel, by decide +kernel⟩
set_option maxRecDepth 20000 in
theorem am_k_90 : am_miok 90 := ⟨(am_in 865 (by decide +kernel) (by decide +kernel)), (am_in 59 (by decide +kernel) (by decide +kernel)), by decide +kernel, by decide +kernel⟩
set_option maxRecDepth 20000 in
theorem am_k_91 : am_miok 91 := ⟨(am_in 878 (by decide +kernel) (by decide +kernel)), (am_in 59 (by decide +kernel) (by decide +kernel)), by decide +kernel, by decide +kernel⟩
set_option maxRecDepth 20000 in
theorem am_k_92 : am_miok 92 := ⟨(am_in 887 (by decide +kernel) (by decide +kernel)), (am_in 59 (by decide +kernel) (by decide +kernel)), by decide +kernel, by decide +kernel⟩
set_option maxRecDepth 20000 in
theorem am_k_93 : am_miok 93 := ⟨(am_in 902 (by decide +kernel) (by decide +kernel)), (am_in 59 (by decide +kernel) (by decide +kernel)), by decide +kernel, by decide +kernel⟩
set_option maxRecDepth 20000 in
theorem am_k_94 : am_miok 94 := ⟨(am_in 910 (by decide +kernel) (by decide +kernel)), (am_in 59 (by decide +kernel) (by decide +kernel)), by decide +kernel, by decide +kernel⟩
set_option maxRecDepth 20000 in
theorem am_k_95 : am_miok 95 := ⟨(am_in 918 (by decide +kernel) (by decide +kernel)), (am_in 59 (by decide +kernel) (by decide +kernel)), by decide +kernel, by decide +kernel⟩
set_option maxRecDepth 20000 in
theorem am_k_96 : am_miok 96 := ⟨(am_in 922 (by decide +kernel) (by decide +kernel)), (am_in 59 (by decide +kernel) (by decide +kernel)), by decide +kernel, by decide +kernel⟩
set_option maxRecDepth 20000 in
theorem am_k_97 : am_miok 97 := ⟨(am_in 931 (by decide +kernel) (by decide +kernel)), (am_in 59 (by decide +kernel) (by decide +kernel)), by decide +kernel, by decide +kernel⟩
set_option maxRecDepth 20000 in
theorem am_k_98 : am_miok 98 := ⟨(am_in 935 (by decide +kernel) (by decide +kernel)), (am_in 59 (by decide +kernel) (by decide +kernel)), by decide +kernel, by decide +kernel⟩
set_option maxRecDepth 20000 in
theorem am_k_99 : am_miok 99 := ⟨(am_in 601 (by decide +kernel) (by decide +kernel)), (am_in 59 (by decide +kernel) (by decide +kernel)), by decide +kernel, by decide +kernel⟩
set_option maxRecDepth 20000 in
theorem am_k_100 : am_miok 100 := ⟨(am_in 609 (by decide +kernel) (by decide +kernel)), (am_in 59 (by decide +kernel) (by decide +kernel)), by decide +kernel, by decide +kernel⟩
set_option maxRecDepth 20000 in
theorem am_k_101 : am_miok 101 := ⟨(am_in 577 (by decide +kernel) (by decide +kernel)), (am_in 59 (by decide +kernel) (by decide +kernel)), by decide +kernel, by decide +kernel⟩
set_option maxRecDepth 20000 in
theorem am_k_102 : am_miok 102 := ⟨(am_in 569 (by decide +kernel) (by decide +kernel)), (am_in 59 (by decide +kernel) (by decide +kernel)), by decide +kernel, by decide +kernel⟩
set_option maxRecDepth 20000 in
theorem am_k_103 : am_miok 103 := ⟨(am_in 705 (by decide +kernel) (by decide +kernel)), (am_in 59 (by decide +kernel) (by decide +kernel)), by decide +kernel, by decide +kernel⟩
set_option maxRecDepth 20000 in
theorem am_k_104 : am_miok 104 := ⟨(am_in 1054 (by decide +kernel) (by decide +kernel)), (am_in 71 (by decide +kernel) (by decide +kernel)), by decide +kernel, by decide +kernel⟩
set_option maxRecDepth 20000 in
theorem am_k_105 : am_miok 105 := ⟨(am_in 1127 (by decide +kernel) (by decide +kernel)), (am_in 71 (by decide +kernel) (by decide +kernel)), by decide +kernel, by decide +kernel⟩
set_option maxRecDepth 20000 in
theorem am_k_106 : am_miok 106 := ⟨(am_in 1135 (by decide +kernel) (by decide +kernel)), (am_in 71 (by decide +kernel) (by decide +kernel)), by decide +kernel, by decide +kernel⟩
set_option maxRecDepth 20000 in
theorem am_k_107 : am_miok 107 := ⟨(am_in 1119 (by decide +kernel) (by decide +kernel)), (am_in 71 (by decide +kernel) (by decide +kernel)), by decide +kernel, by decide +kernel⟩
set_option maxRecDepth 20000 in
theorem am_k_108 : am_miok 108 := ⟨(am_in 1051 (by decide +kernel) (by decide +kernel)), (am_in 71 (by decide +kernel) (by decide +kernel)), by decide +kernel, by decide +kernel⟩
set_option maxRecDepth 20000 in
theorem am_k_109 : am_miok 109 := ⟨(am_in 1059 (by decide +kernel) (by decide +kernel)), (am_in 71 (by decide +kernel) (by decide +kernel)), by decide +kernel, by decide +kernel⟩
set_option maxRecDepth 20000 in
theorem am_k_110 : am_miok 110 := ⟨(am_in 1075 (by decide +kernel) (by decide +kernel)), (am_in 71 (by decide +kernel) (by decide +kernel)), by decide +kernel, by decide +kernel⟩
set_option maxRecDepth 20000 in
theorem am_k_111 : am_miok 111 := ⟨(am_in 1099 (by decide +kernel) (by decide +kernel)), (am_in 71 (by decide +kernel) (by decide +kernel)), by decide +kernel, by decide +kernel⟩
set_option maxRecDepth 20000 in
theorem am_k_112 : am_miok 112 := ⟨(am_in 1103 (by decide +kernel) (by decide +kernel)), (am_in 71 (by decide +kernel) (by decide +kernel)), by decide +kernel, by decide +kernel⟩
set_option maxRecDepth 20000 in
theorem am_k_113 : am_miok 113 := ⟨(am_in 1095 (by decide +kernel) (by decide +kernel)), (am_in 71 (by decide +kernel) (by decide +kernel)), by decide +kernel, by decide +kernel⟩
set_option maxRecDepth 20000 in
theorem am_k_114 : am_miok 114 := ⟨(am_in 1107 (by decide +kernel) (by decide +kernel)), (am_in 71 (by decide +kernel) (by decide +kernel)), by decide +kernel, by decide +kernel⟩
set_option maxRecDepth 20000 in
theorem am_k_115 : am_miok 115 := ⟨(am_in 1071 (by decide +kernel) (by decide +kernel)), (am_in 71 (by decide +kernel) (by decide +kernel)), by decide +kernel, by decide +kernel⟩
set_option maxRecDepth 20000 in
theorem am_k_116 : am_miok 116 := ⟨(am_in 1067 (by decide +kernel) (by decide +kernel)), (am_in 71 (by decide +kernel) (by decide +kernel)), by decide +kernel, by decide +kernel⟩
set_option maxRecDepth 20000 in
theorem am_k_117 : am_miok 117 := ⟨(am_in 1063 (by decide +kernel) (by decide +kernel)), (am_in 71 (by decide +kernel) (by decide +kernel)), by decide +kernel, by decide +kernel⟩
set_option maxRecDepth 20000 in
theorem am_k_118 : am_miok 118 := ⟨(am_in 1115 (by decide +kernel) (by decide +kernel)), (am_in 71 (by decide +kernel) (by decide +kernel)), by decide +kernel, by decide +kernel⟩
set_option maxRecDepth 20000 in
theorem am_k_119 : am_miok 119 := ⟨(am_in 1111 (by decide +kernel) (by decide +kernel)), (am_in 71 (by decide +kernel) (by decide +kernel)), by decide +kernel, by decide +kernel⟩
set_option maxRecDepth 20000 in
theorem am_k_120 : am_miok 120 := ⟨(am_in 1123 (by decide +kernel) (by decide +kernel)), (am_in 71 (by decide +kernel) (by decide +kernel)), by decide +kernel, by decide +kernel⟩
set_option maxRecDepth 20000 in
theorem am_k_121 : am_miok 121 := ⟨(am_in 1131 (by decide +kernel) (by decide +kernel)), (am_in 71 (by decide +kernel) (by decide +kernel)), by decide +kernel, by decide +kernel⟩
set_option maxRecDepth 20000 in
theorem am_k_122 : am_miok 122 := ⟨(am_in 1146 (by decide +kernel) (by decide +kernel)), (am_in 71 (by decide +kernel) (by decide +kernel)), by decide +kernel, by decide +kernel⟩
set_option maxRecDepth 20000 in
theorem am_k_123 : am_miok 123 := ⟨(am_in 1143 (by decide +kernel) (by decide +kernel)), (am_in 71 (by decide +kernel) (by decide +kernel)), by decide +kernel, by decide +kernel⟩
set_option maxRecDepth 20000 in
theorem am_k_124 : am_miok 124 := ⟨(am_in 1139 (by decide +kernel) (by decide +kernel)), (am_in 71 (by decide +kernel) (by decide +kernel)), by decide +kernel, by decide +kernel⟩
set_option maxRecDepth 20000 in
theorem am_k_125 : am_miok 125 := ⟨(am_in 1150 (by decide +kernel) (by decide +kernel)), (am_in 71 (by decide +kernel) (by decide +kernel)), by decide +kernel, by decide +kernel⟩
set_option maxRecDepth 20000 in
theorem am_k_126 : am_miok 126 := ⟨(am_in 1154 (by decide +kernel) (by decide +kernel)), (am_in 71 (by decide +kernel) (by decide +kernel)), by decide +kernel, by decide +kernel⟩
set_option maxRecDepth 20000 in
theorem am_k_127 : am_miok 127 := ⟨(am_in 1162 (by decide +kernel) (by decide +kernel)), (am_in 71 (by decide +kernel) (by decide +kernel)), by decide +kernel, by decide +kernel⟩
set_option maxRecDepth 20000 in
theorem am_k_128 : am_miok 128 := ⟨(am_in 1158 (by decide +kernel) (by decide +kernel)), (am_in 71 (by decide +kernel) (by decide +kernel)), by decide +kernel, by decide +kernel⟩
set_option maxRecDepth 20000 in
theorem am_k_129 : am_miok 129 := ⟨(am_in 1182 (by decide +kernel) (by decide +kernel)), (am_in 71 (by decide +kernel) (by decide +kernel)), by decide +kernel, by decide +kernel⟩
set_option maxRecDepth 20000 in
theorem am_k_130 : am_miok 130 := ⟨(am_in 1178 (by decide +kernel) (by decide +kernel)), (am_in 71 (by decide +kernel) (by decide +kernel)), by decide +kernel, by decide +kernel⟩
set_option maxRecDepth 20000 in
theorem am_k_131 : am_miok 131 := ⟨(am_in 1174 (by decide +kernel) (by decide +kernel)), (am_in 71 (by decide +kernel) (by decide +kernel)), by decide +kernel, by decide +kernel⟩
set_option maxRecDepth 20000 in
theorem am_k_132 : am_miok 132 := ⟨(am_in 1170 (by decide +kernel) (by decide +kernel)), (am_in 71 (by decide +kernel) (by decide +kernel)), by decide +kernel, by decide +kernel⟩
set_option maxRecDepth 20000 in
theorem am_k_133 : am_miok 133 := ⟨(am_in 1166 (by decide +kernel) (by decide +kernel)), (am_in 71 (by decide +kernel) (by decide +kernel)), by decide +kernel, by decide +kernel⟩
set_option maxRecDepth 20000 in
theorem am_k_134 : am_miok 134 := ⟨(am_in 1190 (by decide +kernel) (by decide +kernel)), (am_in 71 (by decide +kernel) (by decide +kernel)), by decide +kernel, by decide +kernel⟩
set_option maxRecDepth 20000 in
theorem am_k_135 : am_miok 135 := ⟨(am_in 1186 (by decide +kernel) (by decide +kernel)), (am_in 71 (by decide +kernel) (by decide +kernel)), by decide +kernel, by decide +kernel⟩
set_option maxRecDepth 20000 in
theorem am_k_136 : am_miok 136 := ⟨(am_in 1194 (by decide +kernel) (by decide +kernel)), (am_in 71 (by decide +kernel) (by decide +kernel)), by decide +kernel, by decide +kernel⟩
set_option maxRecDepth 20000 in
theorem am_k_137 : am_miok 137 := ⟨(am_in 1201 (by decide +kernel) (by decide +kernel)), (am_in 71 (by decide +kernel) (by decide +kernel)), by decide +kernel, by decide +kernel⟩
set_option maxRecDepth 20000 in
theorem am_k_138 : am_miok 138 := ⟨(am_in 1198 (by decide +kernel) (by decide +kernel)), (am_in 71 (by decide +kernel) (by decide +kernel)), by decide +kernel, by decide +kernel⟩
set_option maxRecDepth 20000 in
theorem am_k_139 : am_miok 139 := ⟨(am_in 1205 (by decide +kernel) (by decide +kernel)), (am_in 71 (by decide +kernel) (by decide +kernel)), by decide +kernel, by decide +kernel⟩
set_option maxRecDepth 20000 in
theorem am_k_140 : am_miok 140 := ⟨(am_in 1213 (by decide +kernel) (by decide +kernel)), (am_in 71 (by decide +kernel) (by decide +kernel)), by decide +kernel, by decide +kernel⟩
set_option maxRecDepth 20000 in
theorem am_k_141 : am_miok 141 := ⟨(am_in 1221 (by decide +kernel) (by decide +kernel)), (am_in 71 (by decide +kernel) (by decide +kernel)), by decide +kernel, by decide +kernel⟩
set_option maxRecDepth 20000 in
theorem am_k_142 : am_miok 142 := ⟨(am_in 1217 (by decide +kernel) (by decide +kernel)), (am_in 71 (by decide +kernel) (by decide +kernel)), by decide +kernel, by decide +kernel⟩
set_option maxRecDepth 20000 in
theorem am_k_143 : am_miok 143 := ⟨(am_in 1209 (by decide +kernel) (by decide +kernel)), (am_in 71 (by decide +kernel) (by decide +kernel)), by decide +kernel, by decide +kernel⟩
set_option maxRecDepth 20000 in
theorem am_k_144 : am_miok 144 := ⟨(am_in 1225 (by decide +kernel) (by decide +kernel)), (am_in 71 (by decide +kernel) (by decide +kernel)), by decide +kernel, by decide +kernel⟩
set_option maxRecDepth 20000 in
theorem am_k_145 : am_miok 145 := ⟨(am_in 1230 (by decide +kernel) (by decide +kernel)), (am_in 71 (by decide +kernel) (by decide +kernel)), by decide +kernel, by decide +kernel⟩
set_option maxRecDepth 20000 in
theorem am_k_146 : am_miok 146 := ⟨(am_in 1238 (by decide +kernel) (by decide +kernel)), (am_in 71 (by decide +kernel) (by decide +kernel)), by decide +kernel, by decide +kernel⟩
set_option maxRecDepth 20000 in
theorem am_k_147 : am_miok 147 := ⟨(am_in 1242 (by decide +kernel) (by decide +kernel)), (am_in 71 (by decide +kernel) (by decide +kernel)), by decide +kernel, by decide +kernel⟩
set_option maxRecDepth 20000 in
theorem am_k_148 : am_miok 148 := ⟨(am_in 1234 (by decide +kernel) (by decide +kernel)), (am_in 71 (by decide +kernel) (by decide +kernel)), by decide +kernel, by decide +kernel⟩
set_option maxRecDepth 20000 in
theorem am_k_149 : am_miok 149 := ⟨(am_in 1250 (by decide +kernel) (by decide +kernel)), (am_in 71 (by decide +kernel) (by decide +kernel)), by decide +kernel, by decide +kernel⟩
set_option maxRecDepth 20000 in
theorem am_k_150 : am_miok 150 := ⟨(am_in 1254 (by decide +kernel) (by decide +kernel)), (am_in 71 (by decide +kernel) (by decide +kernel)), by decide +kernel, by decide +kernel⟩
set_option maxRecDepth 20000 in
theorem am_k_151 : am_miok 151 := ⟨(am_in 1246 (by decide +kernel) (by decide +kernel)), (am_in 71 (by decide +kernel) (by decide +kernel)), by decide +kernel, by decide +kernel⟩
set_option maxRecDepth 20000 in
theorem am_k_152 : am_miok 152 := ⟨(am_in 1262 (by decide +kernel) (by decide +kernel)), (am_in 71 (by decide +kernel) (by decide +kernel)), by decide +kernel, by decide +kernel⟩
set_option maxRecDepth 20000 in
theorem am_k_153 : am_miok 153 := ⟨(am_in 1258 (by decide +kernel) (by decide +kernel)), (am_in 71 (by decide +kernel) (by decide +kernel)), by decide +kernel, by decide +kernel⟩
set_option maxRecDepth 20000 in
theorem am_k_154 : am_miok 154 := ⟨(am_in 1266 (by decide +kernel) (by decide +kernel)), (am_in 71 (by decide +kernel) (by decide +kernel)), by decide +kernel, by decide +kernel⟩
set_option maxRecDepth 20000 in
theorem am_k_155 : am_miok 155 := ⟨(am_in 1274 (by decide +kernel) (by decide +kernel)), (am_in 71 (by decide +kernel) (by decide +kernel)), by decide +kernel, by decide +kernel⟩
set_option maxRecDepth 20000 in
theorem am_k_156 : am_miok 156 := ⟨(am_in 1270 (by decide +kernel) (by decide +kernel)), (am_in 71 (by decide +kernel) (by decide +kernel)), by decide +kernel, by decide +kernel⟩
set_option maxRecDepth 20000 in
theorem am_k_157 : am_miok 157 := ⟨(am_in 1278 (by decide +kernel) (by decide +kernel)), (am_in 71 (by decide +kernel) (by decide +kernel)), by decide +kernel, by decide +kernel⟩
set_option maxRecDepth 20000 in
theorem am_k_158 : am_miok 158 := ⟨(am_in 1282 (by decide +kernel) (by decide +kernel)), (am_in 71 (by decide +kernel) (by decide +kernel)), by decide +kernel, by decide +kernel⟩
set_option maxRecDepth 20000 in
theorem am_k_159 : am_miok 159 := ⟨(am_in 1286 (by decide +kernel) (by decide +kernel)), (am_in 71 (by decide +kernel) (by decide +kernel)), by decide +kernel, by decide +kernel⟩
set_option maxRecDepth 20000 in
theorem am_k_160 : am_miok 160 := ⟨(am_in 1290 (by decide +kernel) (by decide +kernel)), (am_in 71 (by decide +kernel) (by decide +kernel)), by decide +kernel, by decide +kernel⟩
set_option maxRecDepth 20000 in
theorem am_k_161 : am_miok 161 := ⟨(am_in 1294 (by decide +kernel) (by decide +kernel)), (am_in 71 (by decide +kernel) (by decide +kernel)), by decide +kernel, by decide +kernel⟩
set_option maxRecDepth 20000 in
theorem am_k_162 : am_miok 162 := ⟨(am_in 1298 (by decide +kernel) (by decide +kernel)), (am_in 71 (by decide +kernel) (by decide +kernel)), by decide +kernel, by decide +kernel⟩
