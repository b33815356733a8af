theorem flX0_9 : ax_fl RX0 9 0 1 := ⟨_, rfl, by decide, rfl, ax_tbl_of 293 (by decide +kernel) rfl⟩
theorem flX0_15 : ax_fl RX0 15 0 2 := ⟨_, rfl, by decide, rfl, ax_tbl_of 294 (by decide +kernel) rfl⟩
theorem flX0_18 : ax_fl RX0 18 0 3 := ⟨_, rfl, by decide, rfl, ax_tbl_of 295 (by decide +kernel) rfl⟩
theorem flX0_21 : ax_fl RX0 21 0 4 := ⟨_, rfl, by decide, rfl, ax_tbl_of 296 (by decide +kernel) rfl⟩
theorem flX0_24 : ax_fl RX0 24 0 0 := ⟨_, rfl, by decide, rfl, ax_tbl_of 292 (by decide +kernel) rfl⟩
theorem flX0_28 : ax_fl RX0 28 0 8 := ⟨_, rfl, by decide, rfl, ax_tbl_of 304 (by decide +kernel) rfl⟩
theorem flX0_32 : ax_fl RX0 32 0 5 := ⟨_, rfl, by decide, rfl, ax_tbl_of 298 (by decide +kernel) rfl⟩
theorem flX0_36 : ax_fl RX0 36 0 6 := ⟨_, rfl, by decide, rfl, ax_tbl_of 300 (by decide +kernel) rfl⟩
theorem flX0_40 : ax_fl RX0 40 0 7 := ⟨_, rfl, by decide, rfl, ax_tbl_of 302 (by decide +kernel) rfl⟩
theorem flX0_46 : ax_fl RX0 46 1 13 := ⟨_, rfl, by decide, rfl, ax_tbl_of 92 (by decide +kernel) rfl⟩
theorem flX0_68 : ax_fl RX0 68 1 14 := ⟨_, rfl, by decide, rfl, ax_tbl_of 100 (by decide +kernel) rfl⟩
theorem flX0_71 : ax_fl RX0 71 1 8 := ⟨_, rfl, by decide, rfl, ax_tbl_of 69 (by decide +kernel) rfl⟩
theorem flX0_74 : ax_fl RX0 74 1 9 := ⟨_, rfl, by decide, rfl, ax_tbl_of 75 (by decide +kernel) rfl⟩
theorem flX1_9 : ax_fl RX1 9 1 0 := ⟨_, rfl, by decide, rfl, ax_tbl_of 38 (by decide +kernel) rfl⟩
theorem flX1_15 : ax_fl RX1 15 1 1 := ⟨_, rfl, by decide, rfl, ax_tbl_of 41 (by decide +kernel) rfl⟩
theorem flX1_18 : ax_fl RX1 18 1 2 := ⟨_, rfl, by decide, rfl, ax_tbl_of 45 (by decide +kernel) rfl⟩
theorem flX1_21 : ax_fl RX1 21 1 3 := ⟨_, rfl, by decide, rfl, ax_tbl_of 49 (by decide +kernel) rfl⟩
theorem flX1_24 : ax_fl RX1 24 1 4 := ⟨_, rfl, by decide, rfl, ax_tbl_of 52 (by decide +kernel) rfl⟩
theorem flX1_27 : ax_fl RX1 27 1 5 := ⟨_, rfl, by decide, rfl, ax_tbl_of 57 (by decide +kernel) rfl⟩
theorem flX1_30 : ax_fl RX1 30 1 6 := ⟨_, rfl, by decide, rfl, ax_tbl_of 62 (by decide +kernel) rfl⟩
theorem flX1_33 : ax_fl RX1 33 1 7 := ⟨_, rfl, by decide, rfl, ax_tbl_of 65 (by decide +kernel) rfl⟩
theorem flX1_36 : ax_fl RX1 36 1 8 := ⟨_, rfl, by decide, rfl, ax_tbl_of 68 (by decide +kernel) rfl⟩
theorem flX1_39 : ax_fl RX1 39 1 9 := ⟨_, rfl, by decide, rfl, ax_tbl_of 74 (by decide +kernel) rfl⟩
theorem flX1_42 : ax_fl RX1 42 1 10 := ⟨_, rfl, by decide, rfl, ax_tbl_of 80 (by decide +kernel) rfl⟩
theorem flX1_45 : ax_fl RX1 45 1 11 := ⟨_, rfl, by decide, rfl, ax_tbl_of 84 (by decide +kernel) rfl⟩
theorem flX1_48 : ax_fl RX1 48 1 16 := ⟨_, rfl, by decide, rfl, ax_tbl_of 108 (by decide +kernel) rfl⟩
theorem flX1_52 : ax_fl RX1 52 1 12 := ⟨_, rfl, by decide, rfl, ax_tbl_of 88 (by decide +kernel) rfl⟩
theorem flX1_55 : ax_fl RX1 55 1 13 := ⟨_, rfl, by decide, rfl, ax_tbl_of 91 (by decide +kernel) rfl⟩
theorem flX1_58 : ax_fl RX1 58 1 14 := ⟨_, rfl, by decide, rfl, ax_tbl_of 99 (by decide +kernel) rfl⟩
theorem flX1_61 : ax_fl RX1 61 1 15 := ⟨_, rfl, by decide, rfl, ax_tbl_of 105 (by decide +kernel) rfl⟩
theorem flX1_64 : ax_fl RX1 64 1 17 := ⟨_, rfl, by decide, rfl, ax_tbl_of 113 (by decide +kernel) rfl⟩
theorem flX1_67 : ax_fl RX1 67 1 18 := ⟨_, rfl, by decide, rfl, ax_tbl_of 116 (by decide +kernel) rfl⟩
theorem flX2_11 : ax_fl RX2 11 2 0 := ⟨_, rfl, by decide, rfl, ax_tbl_of 217 (by decide +kernel) rfl⟩
theorem flX2_15 : ax_fl RX2 15 2 1 := ⟨_, rfl, by decide, rfl, ax_tbl_of 218 (by decide +kernel) rfl⟩
theorem flX2_18 : ax_fl RX2 18 2 2 := ⟨_, rfl, by decide, rfl, ax_tbl_of 219 (by decide +kernel) rfl⟩
theorem flX2_26 : ax_fl RX2 26 2 3 := ⟨_, rfl, by decide, rfl, ax_tbl_of 220 (by decide +kernel) rfl⟩
theorem flX2_38 : ax_fl RX2 38 2 4 := ⟨_, rfl, by decide, rfl, ax_tbl_of 223 (by decide +kernel) rfl⟩
theorem flX3_12 : ax_fl RX3 12 3 0 := ⟨_, rfl, by decide, rfl, ax_tbl_of 167 (by decide +kernel) rfl⟩
theorem flX3_18 : ax_fl RX3 18 3 3 := ⟨_, rfl, by decide, rfl, ax_tbl_of 173 (by decide +kernel) rfl⟩
theorem flX3_22 : ax_fl RX3 22 3 4 := ⟨_, rfl, by decide, rfl, ax_tbl_of 175 (by decide +kernel) rfl⟩
theorem flX3_32 : ax_fl RX3 32 3 5 := ⟨_, rfl, by decide, rfl, ax_tbl_of 176 (by decide +kernel) rfl⟩
theorem flX3_35 : ax_fl RX3 35 3 6 := ⟨_, rfl, by decide, rfl, ax_tbl_of 177 (by decide +kernel) rfl⟩
theorem flX3_38 : ax_fl RX3 38 3 1 := ⟨_, rfl, by decide, rfl, ax_tbl_of 169 (by decide +kernel) rfl⟩
theorem flX3_41 : ax_fl RX3 41 3 2 := ⟨_, rfl, by decide, rfl, ax_tbl_of 171 (by decide +kernel) rfl⟩
theorem flX3_44 : ax_fl RX3 44 3 10 := ⟨_, rfl, by decide, rfl, ax_tbl_of 181 (by decide +kernel) rfl⟩
theorem flX3_48 : ax_fl RX3 48 3 11 := ⟨_, rfl, by decide, rfl, ax_tbl_of 182 (by decide +kernel) rfl⟩
theorem flX3_51 : ax_fl RX3 51 3 12 := ⟨_, rfl, by decide, rfl, ax_tbl_of 183 (by decide +kernel) rfl⟩
theorem flX3_60 : ax_fl RX3 60 3 7 := ⟨_, rfl, by decide, rfl, ax_tbl_of 178 (by decide +kernel) rfl⟩
theorem flX3_66 : ax_fl RX3 66 3 9 := ⟨_, rfl, by decide, rfl, ax_tbl_of 180 (by decide +kernel) rfl⟩
theorem flX3_98 : ax_fl RX3 98 1 16 := ⟨_, rfl, by decide, rfl, ax_tbl_of 110 (by decide +kernel) rfl⟩
theorem flX3_104 : ax_fl RX3 104 1 17 := ⟨_, rfl, by decide, rfl, ax_tbl_of 114 (by decide +kernel) rfl⟩
theorem flX3_108 : ax_fl RX3 108 1 18 := ⟨_, rfl, by decide, rfl, ax_tbl_of 117 (by decide +kernel) rfl⟩
theorem flX3_111 : ax_fl RX3 111 1 12 := ⟨_, rfl, by decide, rfl, ax_tbl_of 90 (by decide +kernel) rfl⟩
theorem flX3_114 : ax_fl RX3 114 1 0 := ⟨_, rfl, by decide, rfl, ax_tbl_of 40 (by decide +kernel) rfl⟩
theorem flX3_121 : ax_fl RX3 121 1 1 := ⟨_, rfl, by decide, rfl, ax_tbl_of 43 (by decide +kernel) rfl⟩
theorem flX3_124 : ax_fl RX3 124 1 2 := ⟨_, rfl, by decide, rfl, ax_tbl_of 46 (by decide +kernel) rfl⟩
theorem flX3_127 : ax_fl RX3 127 1 13 := ⟨_, rfl, by decide, rfl, ax_tbl_of 97 (by decide +kernel) rfl⟩
theorem flX3_130 : ax_fl RX3 130 1 3 := ⟨_, rfl, by decide, rfl, ax_tbl_of 51 (by decide +kernel) rfl⟩
theorem flX3_133 : ax_fl RX3 133 1 4 := ⟨_, rfl, by decide, rfl, ax_tbl_of 54 (by decide +kernel) rfl⟩
theorem flX3_136 : ax_fl RX3 136 1 5 := ⟨_, rfl, by decide, rfl, ax_tbl_of 59 (by decide +kernel) rfl⟩
theorem flX3_139 : ax_fl RX3 139 1 6 := ⟨_, rfl, by decide, rfl, ax_tbl_of 63 (by decide +kernel) rfl⟩
theorem flX3_142 : ax_fl RX3 142 1 7 := ⟨_, rfl, by decide, rfl, ax_tbl_of 66 (by decide +kernel) rfl⟩
theorem flX3_145 : ax_fl RX3 145 1 15 := ⟨_, rfl, by decide, rfl, ax_tbl_of 106 (by decide +kernel) rfl⟩
theorem flX3_148 : ax_fl RX3 148 1 14 := ⟨_, rfl, by decide, rfl, ax_tbl_of 102 (by decide +kernel) rfl⟩
theorem flX3_154 : ax_fl RX3 154 1 8 := ⟨_, rfl, by decide, rfl, ax_tbl_of 72 (by decide +kernel) rfl⟩
theorem flX3_157 : ax_fl RX3 157 1 9 := ⟨_, rfl, by decide, rfl, ax_tbl_of 78 (by decide +kernel) rfl⟩
theorem flX3_160 : ax_fl RX3 160 1 10 := ⟨_, rfl, by decide, rfl, ax_tbl_of 82 (by decide +kernel) rfl⟩
theorem flX3_163 : ax_fl RX3 163 1 11 := ⟨_, rfl, by decide, rfl, ax_tbl_of 86 (by decide +kernel) rfl⟩
theorem flX3_181 : ax_fl RX3 181 3 8 := ⟨_, rfl, by decide, rfl, ax_tbl_of 179 (by decide +kernel) rfl⟩
theorem flX4_9 : ax_fl RX4 9 4 3 := ⟨_, rfl, by decide, rfl, ax_tbl_of 374 (by decide +kernel) rfl⟩
theorem flX4_15 : ax_fl RX4 15 4 4 := ⟨_, rfl, by decide, rfl, ax_tbl_of 375 (by decide +kernel) rfl⟩
theorem flX4_18 : ax_fl RX4 18 4 0 := ⟨_, rfl, by decide, rfl, ax_tbl_of 371 (by decide +kernel) rfl⟩
theorem flX4_22 : ax_fl RX4 22 4 1 := ⟨_, rfl, by decide, rfl, ax_tbl_of 372 (by decide +kernel) rfl⟩
theorem flX4_31 : ax_fl RX4 31 4 2 := ⟨_, rfl, by decide, rfl, ax_tbl_of 373 (by decide +kernel) rfl⟩
theorem flX4_42 : ax_fl RX4 42 1 10 := ⟨_, rfl, by decide, rfl, ax_tbl_of 81 (by decide +kernel) rfl⟩
theorem flX4_47 : ax_fl RX4 47 1 11 := ⟨_, rfl, by decide, rfl, ax_tbl_of 85 (by decide +kernel) rfl⟩
theorem flX4_50 : ax_fl RX4 50 1 16 := ⟨_, rfl, by decide, rfl, ax_tbl_of 109 (by decide +kernel) rfl⟩
theorem flX4_80 : ax_fl RX4 80 1 1 := ⟨_, rfl, by decide, rfl, ax_tbl_of 42 (by decide +kernel) rfl⟩
theorem flX4_133 : ax_fl RX4 133 5 5 := ⟨_, rfl, by decide, rfl, ax_tbl_of 250 (by decide +kernel) rfl⟩
theorem flX4_139 : ax_fl RX4 139 1 14 := ⟨_, rfl, by decide, rfl, ax_tbl_of 103 (by decide +kernel) rfl⟩
theorem flX5_9 : ax_fl RX5 9 5 1 := ⟨_, rfl, by decide, rfl, ax_tbl_of 242 (by decide +kernel) rfl⟩
theorem flX5_15 : ax_fl RX5 15 5 2 := ⟨_, rfl, by decide, rfl, ax_tbl_of 243 (by decide +kernel) rfl⟩
theorem flX5_18 : ax_fl RX5 18 5 3 := ⟨_, rfl, by decide, rfl, ax_tbl_of 244 (by decide +kernel) rfl⟩
theorem flX5_21 : ax_fl RX5 21 5 4 := ⟨_, rfl, by decide, rfl, ax_tbl_of 246 (by decide +kernel) rfl⟩
theorem flX5_24 : ax_fl RX5 24 5 0 := ⟨_, rfl, by decide, rfl, ax_tbl_of 241 (by decide +kernel) rfl⟩
theorem flX5_28 : ax_fl RX5 28 5 5 := ⟨_, rfl, by decide, rfl, ax_tbl_of 248 (by decide +kernel) rfl⟩
theorem flX5_42 : ax_fl RX5 42 5 6 := ⟨_, rfl, by decide, rfl, ax_tbl_of 251 (by decide +kernel) rfl⟩
theorem flX5_55 : ax_fl RX5 55 1 13 := ⟨_, rfl, by decide, rfl, ax_tbl_of 93 (by decide +kernel) rfl⟩
theorem flX5_59 : ax_fl RX5 59 1 14 := ⟨_, rfl, by decide, rfl, ax_tbl_of 101 (by decide +kernel) rfl⟩
theorem flX5_62 : ax_fl RX5 62 1 9 := ⟨_, rfl, by decide, rfl, ax_tbl_of 76 (by decide +kernel) rfl⟩
theorem flX5_65 : ax_fl RX5 65 1 8 := ⟨_, rfl, by decide, rfl, ax_tbl_of 70 (by decide +kernel) rfl⟩
theorem flX5_85 : ax_fl RX5 85 1 4 := ⟨_, rfl, by decide, rfl, ax_tbl_of 55 (by decide +kernel) rfl⟩
theorem flX5_92 : ax_fl RX5 92 1 5 := ⟨_, rfl, by decide, rfl, ax_tbl_of 60 (by decide +kernel) rfl⟩
theorem flX5_95 : ax_fl RX5 95 1 16 := ⟨_, rfl, by decide, rfl, ax_tbl_of 112 (by decide +kernel) rfl⟩
theorem flX6_9 : ax_fl RX6 9 6 1 := ⟨_, rfl, by decide, rfl, ax_tbl_of 338 (by decide +kernel) rfl⟩
theorem flX6_15 : ax_fl RX6 15 6 2 := ⟨_, rfl, by decide, rfl, ax_tbl_of 339 (by decide +kernel) rfl⟩
theorem flX6_18 : ax_fl RX6 18 6 3 := ⟨_, rfl, by decide, rfl, ax_tbl_of 340 (by decide +kernel) rfl⟩
theorem flX6_21 : ax_fl RX6 21 6 4 := ⟨_, rfl, by decide, rfl, ax_tbl_of 341 (by decide +kernel) rfl⟩
theorem flX6_24 : ax_fl RX6 24 6 5 := ⟨_, rfl, by decide, rfl, ax_tbl_of 342 (by decide +kernel) rfl⟩
theorem flX6_27 : ax_fl RX6 27 6 6 := ⟨_, rfl, by decide, rfl, ax_tbl_of 343 (by decide +kernel) rfl⟩
theorem flX6_30 : ax_fl RX6 30 6 7 := ⟨_, rfl, by decide, rfl, ax_tbl_of 344 (by decide +kernel) rfl⟩
theorem flX6_33 : ax_fl RX6 33 6 0 := ⟨_, rfl, by decide, rfl, ax_tbl_of 337 (by decide +kernel) rfl⟩
theorem flX6_37 : ax_fl RX6 37 1 14 := ⟨_, rfl, by decide, rfl, ax_tbl_of 98 (by decide +kernel) rfl⟩
theorem flX6_54 : ax_fl RX6 54 1 13 := ⟨_, rfl, by decide, rfl, ax_tbl_of 94 (by decide +kernel) rfl⟩
theorem flX6_57 : ax_fl RX6 57 1 9 := ⟨_, rfl, by decide, rfl, ax_tbl_of 77 (by decide +kernel) rfl⟩
theorem flX6_60 : ax_fl RX6 60 1 8 := ⟨_, rfl, by decide, rfl, ax_tbl_of 71 (by decide +kernel) rfl⟩
theorem flX6_86 : ax_fl RX6 86 6 8 := ⟨_, rfl, by decide, rfl, ax_tbl_of 345 (by decide +kernel) rfl⟩
theorem flX6_89 : ax_fl RX6 89 6 9 := ⟨_, rfl, by decide, rfl, ax_tbl_of 346 (by decide +kernel) rfl⟩
theorem flX6_92 : ax_fl RX6 92 1 5 := ⟨_, rfl, by decide, rfl, ax_tbl_of 58 (by decide +kernel) rfl⟩
theorem flX6_95 : ax_fl RX6 95 1 2 := ⟨_, rfl, by decide, rfl, ax_tbl_of 47 (by decide +kernel) rfl⟩
theorem flX6_98 : ax_fl RX6 98 1 4 := ⟨_, rfl, by decide, rfl, ax_tbl_of 53 (by decide +kernel) rfl⟩
theorem flX6_101 : ax_fl RX6 101 6 10 := ⟨_, rfl, by decide, rfl, ax_tbl_of 347 (by decide +kernel) rfl⟩
theorem flX7_9 : ax_fl RX7 9 7 1 := ⟨_, rfl, by decide, rfl, ax_tbl_of 274 (by decide +kernel) rfl⟩
theorem flX7_15 : ax_fl RX7 15 7 2 := ⟨_, rfl, by decide, rfl, ax_tbl_of 275 (by decide +kernel) rfl⟩
theorem flX7_18 : ax_fl RX7 18 7 3 := ⟨_, rfl, by decide, rfl, ax_tbl_of 276 (by decide +kernel) rfl⟩
theorem flX7_21 : ax_fl RX7 21 7 0 := ⟨_, rfl, by decide, rfl, ax_tbl_of 273 (by decide +kernel) rfl⟩
theorem flX7_41 : ax_fl RX7 41 1 13 := ⟨_, rfl, by decide, rfl, ax_tbl_of 95 (by decide +kernel) rfl⟩
theorem flX8_9 : ax_fl RX8 9 8 0 := ⟨_, rfl, by decide, rfl, ax_tbl_of 387 (by decide +kernel) rfl⟩
theorem flX8_16 : ax_fl RX8 16 8 2 := ⟨_, rfl, by decide, rfl, ax_tbl_of 389 (by decide +kernel) rfl⟩
theorem flX8_25 : ax_fl RX8 25 8 3 := ⟨_, rfl, by decide, rfl, ax_tbl_of 390 (by decide +kernel) rfl⟩
theorem flX8_32 : ax_fl RX8 32 8 4 := ⟨_, rfl, by decide, rfl, ax_tbl_of 391 (by decide +kernel) rfl⟩
theorem flX8_41 : ax_fl RX8 41 8 5 := ⟨_, rfl, by decide, rfl, ax_tbl_of 392 (by decide +kernel) rfl⟩
theorem flX8_48 : ax_fl RX8 48 8 6 := ⟨_, rfl, by decide, rfl, ax_tbl_of 393 (by decide +kernel) rfl⟩
theorem flX8_55 : ax_fl RX8 55 8 7 := ⟨_, rfl, by decide, rfl, ax_tbl_of 394 (by decide +kernel) rfl⟩
theorem flX8_64 : ax_fl RX8 64 8 8 := ⟨_, rfl, by decide, rfl, ax_tbl_of 395 (by decide +kernel) rfl⟩
theorem flX8_68 : ax_fl RX8 68 8 1 := ⟨_, rfl, by decide, rfl, ax_tbl_of 388 (by decide +kernel) rfl⟩
theorem flX8_80 : ax_fl RX8 80 3 0 := ⟨_, rfl, by decide, rfl, ax_tbl_of 168 (by decide +kernel) rfl⟩
theorem flX8_89 : ax_fl RX8 89 2 4 := ⟨_, rfl, by decide, rfl, ax_tbl_of 222 (by decide +kernel) rfl⟩
theorem flX8_96 : ax_fl RX8 96 3 1 := ⟨_, rfl, by decide, rfl, ax_tbl_of 170 (by decide +kernel) rfl⟩
theorem flX8_99 : ax_fl RX8 99 3 2 := ⟨_, rfl, by decide, rfl, ax_tbl_of 172 (by decide +kernel) rfl⟩
theorem flX8_102 : ax_fl RX8 102 3 3 := ⟨_, rfl, by decide, rfl, ax_tbl_of 174 (by decide +kernel) rfl⟩
theorem flX8_105 : ax_fl RX8 105 1 0 := ⟨_, rfl, by decide, rfl, ax_tbl_of 39 (by decide +kernel) rfl⟩
theorem flX8_108 : ax_fl RX8 108 1 12 := ⟨_, rfl, by decide, rfl, ax_tbl_of 89 (by decide +kernel) rfl⟩
theorem flX8_115 : ax_fl RX8 115 1 3 := ⟨_, rfl, by decide, rfl, ax_tbl_of 50 (by decide +kernel) rfl⟩
theorem flX8_118 : ax_fl RX8 118 1 13 := ⟨_, rfl, by decide, rfl, ax_tbl_of 96 (by decide +kernel) rfl⟩
theorem flX8_121 : ax_fl RX8 121 5 5 := ⟨_, rfl, by decide, rfl, ax_tbl_of 249 (by decide +kernel) rfl⟩
theorem flX8_124 : ax_fl RX8 124 0 8 := ⟨_, rfl, by decide, rfl, ax_tbl_of 305 (by decide +kernel) rfl⟩
theorem flX8_128 : ax_fl RX8 128 1 16 := ⟨_, rfl, by decide, rfl, ax_tbl_of 111 (by decide +kernel) rfl⟩
theorem flX8_137 : ax_fl RX8 137 1 1 := ⟨_, rfl, by decide, rfl, ax_tbl_of 44 (by decide +kernel) rfl⟩
theorem flX8_140 : ax_fl RX8 140 1 2 := ⟨_, rfl, by decide, rfl, ax_tbl_of 48 (by decide +kernel) rfl⟩
theorem flX8_146 : ax_fl RX8 146 1 10 := ⟨_, rfl, by decide, rfl, ax_tbl_of 83 (by decide +kernel) rfl⟩
theorem flX8_149 : ax_fl RX8 149 1 11 := ⟨_, rfl, by decide, rfl, ax_tbl_of 87 (by decide +kernel) rfl⟩
theorem flX8_155 : ax_fl RX8 155 1 15 := ⟨_, rfl, by decide, rfl, ax_tbl_of 107 (by decide +kernel) rfl⟩
theorem flX8_161 : ax_fl RX8 161 1 17 := ⟨_, rfl, by decide, rfl, ax_tbl_of 115 (by decide +kernel) rfl⟩
theorem flX8_194 : ax_fl RX8 194 1 9 := ⟨_, rfl, by decide, rfl, ax_tbl_of 79 (by decide +kernel) rfl⟩
theorem flX8_197 : ax_fl RX8 197 1 14 := ⟨_, rfl, by decide, rfl, ax_tbl_of 104 (by decide +kernel) rfl⟩
theorem flX8_203 : ax_fl RX8 203 1 8 := ⟨_, rfl, by decide, rfl, ax_tbl_of 73 (by decide +kernel) rfl⟩
theorem flX8_222 : ax_fl RX8 222 5 3 := ⟨_, rfl, by decide, rfl, ax_tbl_of 245 (by decide +kernel) rfl⟩
theorem flX8_227 : ax_fl RX8 227 5 4 := ⟨_, rfl, by decide, rfl, ax_tbl_of 247 (by decide +kernel) rfl⟩
theorem flX8_262 : ax_fl RX8 262 0 7 := ⟨_, rfl, by decide, rfl, ax_tbl_of 303 (by decide +kernel) rfl⟩
theorem flX8_266 : ax_fl RX8 266 0 6 := ⟨_, rfl, by decide, rfl, ax_tbl_of 301 (by decide +kernel) rfl⟩
theorem flX8_269 : ax_fl RX8 269 0 5 := ⟨_, rfl, by decide, rfl, ax_tbl_of 299 (by decide +kernel) rfl⟩
theorem flX8_272 : ax_fl RX8 272 0 4 := ⟨_, rfl, by decide, rfl, ax_tbl_of 297 (by decide +kernel) rfl⟩
theorem flX8_311 : ax_fl RX8 311 1 18 := ⟨_, rfl, by decide, rfl, ax_tbl_of 118 (by decide +kernel) rfl⟩
theorem flX8_318 : ax_fl RX8 318 2 3 := ⟨_, rfl, by decide, rfl, ax_tbl_of 221 (by decide +kernel) rfl⟩
theorem flX9_7 : ax_fl RX9 7 9 1 := ⟨_, rfl, by decide, rfl, ax_tbl_of 1215 (by decide +kernel) rfl⟩
theorem flX9_13 : ax_fl RX9 13 9 3 := ⟨_, rfl, by decide, rfl, ax_tbl_of 1217 (by decide +kernel) rfl⟩
theorem flX9_16 : ax_fl RX9 16 9 4 := ⟨_, rfl, by decide, rfl, ax_tbl_of 1218 (by decide +kernel) rfl⟩
theorem flX9_20 : ax_fl RX9 20 9 5 := ⟨_, rfl, by decide, rfl, ax_tbl_of 1219 (by decide +kernel) rfl⟩
theorem flX9_23 : ax_fl RX9 23 9 6 := ⟨_, rfl, by decide, rfl, ax_tbl_of 1220 (by decide +kernel) rfl⟩
theorem flX9_26 : ax_fl RX9 26 9 7 := ⟨_, rfl, by decide, rfl, ax_tbl_of 1221 (by decide +kernel) rfl⟩
theorem flX9_29 : ax_fl RX9 29 9 8 := ⟨_, rfl, by decide, rfl, ax_tbl_of 1222 (by decide +kernel) rfl⟩
theorem flX9_32 : ax_fl RX9 32 9 9 := ⟨_, rfl, by decide, rfl, ax_tbl_of 1223 (by decide +kernel) rfl⟩
theorem flX9_35 : ax_fl RX9 35 9 10 := ⟨_, rfl, by decide, rfl, ax_tbl_of 1224 (by decide +kernel) rfl⟩
theorem flX9_38 : ax_fl RX9 38 9 11 := ⟨_, rfl, by decide, rfl, ax_tbl_of 1225 (by decide +kernel) rfl⟩
theorem flX9_41 : ax_fl RX9 41 9 12 := ⟨_, rfl, by decide, rfl, ax_tbl_of 1226 (by decide +kernel) rfl⟩
theorem flX9_44 : ax_fl RX9 44 9 13 := ⟨_, rfl, by decide, rfl, ax_tbl_of 1227 (by decide +kernel) rfl⟩
theorem flX9_47 : ax_fl RX9 47 9 14 := ⟨_, rfl, by decide, rfl, ax_tbl_of 1228 (by decide +kernel) rfl⟩
theorem flX9_50 : ax_fl RX9 50 9 15 := ⟨_, rfl, by decide, rfl, ax_tbl_of 1229 (by decide +kernel) rfl⟩
theorem flX9_53 : ax_fl RX9 53 9 16 := ⟨_, rfl, by decide, rfl, ax_tbl_of 1230 (by decide +kernel) rfl⟩
theorem flX9_56 : ax_fl RX9 56 9 17 := ⟨_, rfl, by decide, rfl, ax_tbl_of 1231 (by decide +kernel) rfl⟩
theorem flX9_59 : ax_fl RX9 59 9 27 := ⟨_, rfl, by decide, rfl, ax_tbl_of 1241 (by decide +kernel) rfl⟩
theorem flX9_63 : ax_fl RX9 63 9 28 := ⟨_, rfl, by decide, rfl, ax_tbl_of 1242 (by decide +kernel) rfl⟩
theorem flX9_66 : ax_fl RX9 66 9 29 := ⟨_, rfl, by decide, rfl, ax_tbl_of 1243 (by decide +kernel) rfl⟩
theorem flX9_69 : ax_fl RX9 69 9 32 := ⟨_, rfl, by decide, rfl, ax_tbl_of 1246 (by decide +kernel) rfl⟩
theorem flX9_73 : ax_fl RX9 73 9 33 := ⟨_, rfl, by decide, rfl, ax_tbl_of 1247 (by decide +kernel) rfl⟩
theorem flX9_76 : ax_fl RX9 76 9 34 := ⟨_, rfl, by decide, rfl, ax_tbl_of 1248 (by decide +kernel) rfl⟩
theorem flX9_79 : ax_fl RX9 79 9 36 := ⟨_, rfl, by decide, rfl, ax_tbl_of 1250 (by decide +kernel) rfl⟩
theorem flX9_82 : ax_fl RX9 82 9 38 := ⟨_, rfl, by decide, rfl, ax_tbl_of 1252 (by decide +kernel) rfl⟩
theorem flX9_85 : ax_fl RX9 85 9 39 := ⟨_, rfl, by decide, rfl, ax_tbl_of 1253 (by decide +kernel) rfl⟩
theorem flX9_88 : ax_fl RX9 88 9 40 := ⟨_, rfl, by decide, rfl, ax_tbl_of 1254 (by decide +kernel) rfl⟩
theorem flX9_91 : ax_fl RX9 91 9 45 := ⟨_, rfl, by decide, rfl, ax_tbl_of 1259 (by decide +kernel) rfl⟩
theorem flX9_103 : ax_fl RX9 103 9 0 := ⟨_, rfl, by decide, rfl, ax_tbl_of 1214 (by decide +kernel) rfl⟩
theorem flX9_106 : ax_fl RX9 106 9 2 := ⟨_, rfl, by decide, rfl, ax_tbl_of 1216 (by decide +kernel) rfl⟩
theorem flX9_109 : ax_fl RX9 109 9 20 := ⟨_, rfl, by decide, rfl, ax_tbl_of 1234 (by decide +kernel) rfl⟩
theorem flX9_112 : ax_fl RX9 112 9 19 := ⟨_, rfl, by decide, rfl, ax_tbl_of 1233 (by decide +kernel) rfl⟩
theorem flX9_119 : ax_fl RX9 119 9 21 := ⟨_, rfl, by decide, rfl, ax_tbl_of 1235 (by decide +kernel) rfl⟩
theorem flX9_122 : ax_fl RX9 122 9 22 := ⟨_, rfl, by decide, rfl, ax_tbl_of 1236 (by decide +kernel) rfl⟩
theorem flX9_132 : ax_fl RX9 132 9 23 := ⟨_, rfl, by decide, rfl, ax_tbl_of 1237 (by decide +kernel) rfl⟩
theorem flX9_153 : ax_fl RX9 153 9 24 := ⟨_, rfl, by decide, rfl, ax_tbl_of 1238 (by decide +kernel) rfl⟩
theorem flX9_156 : ax_fl RX9 156 9 25 := ⟨_, rfl, by decide, rfl, ax_tbl_of 1239 (by decide +kernel) rfl⟩
theorem flX9_211 : ax_fl RX9 211 9 18 := ⟨_, rfl, by decide, rfl, ax_tbl_of 1232 (by decide +kernel) rfl⟩
theorem flX9_220 : ax_fl RX9 220 9 26 := ⟨_, rfl, by decide, rfl, ax_tbl_of 1240 (by decide +kernel) rfl⟩
theorem flX9_223 : ax_fl RX9 223 9 30 := ⟨_, rfl, by decide, rfl, ax_tbl_of 1244 (by decide +kernel) rfl⟩
theorem flX9_226 : ax_fl RX9 226 9 31 := ⟨_, rfl, by decide, rfl, ax_tbl_of 1245 (by decide +kernel) rfl⟩
theorem flX9_303 : ax_fl RX9 303 9 35 := ⟨_, rfl, by decide, rfl, ax_tbl_of 1249 (by decide +kernel) rfl⟩
theorem flX9_322 : ax_fl RX9 322 9 37 := ⟨_, rfl, by decide, rfl, ax_tbl_of 1251 (by decide +kernel) rfl⟩
theorem flX9_340 : ax_fl RX9 340 9 41 := ⟨_, rfl, by decide, rfl, ax_tbl_of 1255 (by decide +kernel) rfl⟩
theorem flX9_343 : ax_fl RX9 343 9 43 := ⟨_, rfl, by decide, rfl, ax_tbl_of 1257 (by decide +kernel) rfl⟩
theorem flX9_347 : ax_fl RX9 347 9 42 := ⟨_, rfl, by decide, rfl, ax_tbl_of 1256 (by decide +kernel) rfl⟩
theorem flX9_384 : ax_fl RX9 384 9 44 := ⟨_, rfl, by decide, rfl, ax_tbl_of 1258 (by decide +kernel) rfl⟩
theorem ki_0_0 : ax_kR 0 0 := fun _ _ _ => rfl
theorem ki_0_1 : ax_kR 0 1 := fun _ _ _ => rfl
theorem ki_0_2 : ax_kR 0 2 := fun _ _ _ => rfl
theorem ki_0_3 : ax_kR 0 3 := fun _ _ _ => rfl
theorem ki_0_4 : ax_kR 0 4 := fun _ _ _ => rfl
theorem ki_0_5 : ax_kI 0 5 := fun _ _ _ => rfl
theorem ki_0_6 : ax_kL 0 6 := fun _ _ _ => rfl
theorem ki_0_7 : ax_kL 0 7 := fun _ _ _ => rfl
theorem ki_0_8 : ax_kI 0 8 := fun _ _ _ => rfl
theorem ki_1_0 : ax_kR 1 0 := fun _ _ _ => rfl
theorem ki_1_1 : ax_kR 1 1 := fun _ _ _ => rfl
theorem ki_1_2 : ax_kR 1 2 := fun _ _ _ => rfl
theorem ki_1_3 : ax_kR 1 3 := fun _ _ _ => rfl
theorem ki_1_4 : ax_kR 1 4 := fun _ _ _ => rfl
theorem ki_1_5 : ax_kR 1 5 := fun _ _ _ => rfl
theorem ki_1_6 : ax_kR 1 6 := fun _ _ _ => rfl
theorem ki_1_7 : ax_kR 1 7 := fun _ _ _ => rfl
theorem ki_1_8 : ax_kR 1 8 := fun _ _ _ => rfl
theorem ki_1_9 : ax_kR 1 9 := fun _ _ _ => rfl
theorem ki_1_10 : ax_kR 1 10 := fun _ _ _ => rfl
theorem ki_1_11 : ax_kR 1 11 := fun _ _ _ => rfl
theorem ki_1_12 : ax_kI 1 12 := fun _ _ _ => rfl
theorem ki_1_13 : ax_kI 1 13 := fun _ _ _ => rfl
theorem ki_1_14 : ax_kI 1 14 := fun _ _ _ => rfl
theorem ki_1_15 : ax_kI 1 15 := fun _ _ _ => rfl
theorem ki_1_16 : ax_kI 1 16 := fun _ _ _ => rfl
theorem ki_1_17 : ax_kI 1 17 := fun _ _ _ => rfl
theorem ki_1_18 : ax_kI 1 18 := fun _ _ _ => rfl
theorem ki_2_0 : ax_kR 2 0 := fun _ _ _ => rfl
theorem ki_2_1 : ax_kR 2 1 := fun _ _ _ => rfl
theorem ki_2_2 : ax_kI 2 2 := fun _ _ _ => rfl
theorem ki_2_3 : ax_kI 2 3 := fun _ _ _ => rfl
theorem ki_2_4 : ax_kI 2 4 := fun _ _ _ => rfl
theorem ki_3_0 : ax_kR 3 0 := fun _ _ _ => rfl
theorem ki_3_1 : ax_kI 3 1 := fun _ _ _ => rfl
theorem ki_3_2 : ax_kI 3 2 := fun _ _ _ => rfl
theorem ki_3_3 : ax_kI 3 3 := fun _ _ _ => rfl
theorem ki_3_4 : ax_kR 3 4 := fun _ _ _ => rfl
theorem ki_3_5 : ax_kI 3 5 := fun _ _ _ => rfl
theorem ki_3_6 : ax_kI 3 6 := fun _ _ _ => rfl
theorem ki_3_7 : ax_kI 3 7 := fun _ _ _ => rfl
theorem ki_3_8 : ax_kI 3 8 := fun _ _ _ => rfl
theorem ki_3_9 : ax_kI 3 9 := fun _ _ _ => rfl
theorem ki_3_10 : ax_kI 3 10 := fun _ _ _ => rfl
theorem ki_3_11 : ax_kI 3 11 := fun _ _ _ => rfl
theorem ki_3_12 : ax_kI 3 12 := fun _ _ _ => rfl
theorem ki_4_0 : ax_kR 4 0 := fun _ _ _ => rfl
theorem ki_4_1 : ax_kR 4 1 := fun _ _ _ => rfl
theorem ki_4_2 : ax_kR 4 2 := fun _ _ _ => rfl
theorem ki_4_3 : ax_kR 4 3 := fun _ _ _ => rfl
theorem ki_4_4 : ax_kR 4 4 := fun _ _ _ => rfl
theorem ki_5_0 : ax_kR 5 0 := fun _ _ _ => rfl
theorem ki_5_1 : ax_kR 5 1 := fun _ _ _ => rfl
theorem ki_5_2 : ax_kR 5 2 := fun _ _ _ => rfl
theorem ki_5_3 : ax_kR 5 3 := fun _ _ _ => rfl
theorem ki_5_4 : ax_kR 5 4 := fun _ _ _ => rfl
theorem ki_5_5 : ax_kI 5 5 := fun _ _ _ => rfl
theorem ki_5_6 : ax_kI 5 6 := fun _ _ _ => rfl
theorem ki_6_0 : ax_kR 6 0 := fun _ _ _ => rfl
theorem ki_6_1 : ax_kR 6 1 := fun _ _ _ => rfl
theorem ki_6_2 : ax_kR 6 2 := fun _ _ _ => rfl
theorem ki_6_3 : ax_kR 6 3 := fun _ _ _ => rfl
theorem ki_6_4 : ax_kR 6 4 := fun _ _ _ => rfl
theorem ki_6_5 : ax_kR 6 5 := fun _ _ _ => rfl
theorem ki_6_6 : ax_kR 6 6 := fun _ _ _ => rfl
theorem ki_6_7 : ax_kR 6 7 := fun _ _ _ => rfl
theorem ki_6_8 : ax_kI 6 8 := fun _ _ _ => rfl
theorem ki_6_9 : ax_kI 6 9 := fun _ _ _ => rfl
theorem ki_6_10 : ax_kI 6 10 := fun _ _ _ => rfl
theorem ki_7_0 : ax_kR 7 0 := fun _ _ _ => rfl
theorem ki_7_1 : ax_kR 7 1 := fun _ _ _ => rfl
theorem ki_7_2 : ax_kR 7 2 := fun _ _ _ => rfl
theorem ki_7_3 : ax_kR 7 3 := fun _ _ _ => rfl
theorem ki_8_0 : ax_kR 8 0 := fun _ _ _ => rfl
theorem ki_8_1 : ax_kI 8 1 := fun _ _ _ => rfl
theorem ki_8_2 : ax_kR 8 2 := fun _ _ _ => rfl
theorem ki_8_3 : ax_kR 8 3 := fun _ _ _ => rfl
theorem ki_8_4 : ax_kR 8 4 := fun _ _ _ => rfl
theorem ki_8_5 : ax_kR 8 5 := fun _ _ _ => rfl
theorem ki_8_6 : ax_kR 8 6 := fun _ _ _ => rfl
theorem ki_8_7 : ax_kR 8 7 := fun _ _ _ => rfl
theorem ki_8_8 : ax_kR 8 8 := fun _ _ _ => rfl
theorem ki_9_0 : ax_kI 9 0 := fun _ _ _ => rfl
theorem ki_9_1 : ax_kR 9 1 := fun _ _ _ => rfl
theorem ki_9_2 : ax_kI 9 2 := fun _ _ _ => rfl
theorem ki_9_3 : ax_kR 9 3 := fun _ _ _ => rfl
theorem ki_9_4 : ax_kR 9 4 := fun _ _ _ => rfl
theorem ki_9_5 : ax_kR 9 5 := fun _ _ _ => rfl
theorem ki_9_6 : ax_kR 9 6 := fun _ _ _ => rfl
theorem ki_9_7 : ax_kR 9 7 := fun _ _ _ => rfl
theorem ki_9_8 : ax_kR 9 8 := fun _ _ _ => rfl
theorem ki_9_9 : ax_kR 9 9 := fun _ _ _ => rfl
theorem ki_9_10 : ax_kR 9 10 := fun _ _ _ => rfl
theorem ki_9_11 : ax_kR 9 11 := fun _ _ _ => rfl
theorem ki_9_12 : ax_kR 9 12 := fun _ _ _ => rfl
theorem ki_9_13 : ax_kR 9 13 := fun _ _ _ => rfl
theorem ki_9_14 : ax_kR 9 14 := fun _ _ _ => rfl
theorem ki_9_15 : ax_kR 9 15 := fun _ _ _ => rfl
theorem ki_9_16 : ax_kR 9 16 := fun _ _ _ => rfl
theorem ki_9_17 : ax_kR 9 17 := fun _ _ _ => rfl
theorem ki_9_18 : ax_kI 9 18 := fun _ _ _ => rfl
theorem ki_9_19 : ax_kI 9 19 := fun _ _ _ => rfl
theorem ki_9_20 : ax_kI 9 20 := fun _ _ _ => rfl
theorem ki_9_21 : ax_kI 9 21 := fun _ _ _ => rfl
theorem ki_9_22 : ax_kI 9 22 := fun _ _ _ => rfl
theorem ki_9_23 : ax_kI 9 23 := fun _ _ _ => rfl
theorem ki_9_24 : ax_kI 9 24 := fun _ _ _ => rfl
theorem ki_9_25 : ax_kI 9 25 := fun _ _ _ => rfl
theorem ki_9_26 : ax_kI 9 26 := fun _ _ _ => rfl
theorem ki_9_27 : ax_kI 9 27 := fun _ _ _ => rfl
theorem ki_9_28 : ax_kR 9 28 := fun _ _ _ => rfl
theorem ki_9_29 : ax_kR 9 29 := fun _ _ _ => rfl
theorem ki_9_30 : ax_kI 9 30 := fun _ _ _ => rfl
theorem ki_9_31 : ax_kI 9 31 := fun _ _ _ => rfl
theorem ki_9_32 : ax_kR 9 32 := fun _ _ _ => rfl
theorem ki_9_33 : ax_kR 9 33 := fun _ _ _ => rfl
theorem ki_9_34 : ax_kR 9 34 := fun _ _ _ => rfl
theorem ki_9_35 : ax_kI 9 35 := fun _ _ _ => rfl
theorem ki_9_36 : ax_kR 9 36 := fun _ _ _ => rfl
theorem ki_9_37 : ax_kI 9 37 := fun _ _ _ => rfl
theorem ki_9_38 : ax_kR 9 38 := fun _ _ _ => rfl
theorem ki_9_39 : ax_kR 9 39 := fun _ _ _ => rfl
theorem ki_9_40 : ax_kR 9 40 := fun _ _ _ => rfl
theorem ki_9_41 : ax_kI 9 41 := fun _ _ _ => rfl
theorem ki_9_42 : ax_kL 9 42 := fun _ _ _ => rfl
theorem ki_9_43 : ax_kL 9 43 := fun _ _ _ => rfl
theorem ki_9_44 : ax_kI 9 44 := fun _ _ _ => rfl
theorem ki_9_45 : ax_kR 9 45 := fun _ _ _ => rfl
theorem nf_0_5 : ax_nf 0 5 := ⟨_, rfl, rfl⟩
theorem nf_0_6 : ax_nf 0 6 := ⟨_, rfl, rfl⟩
theorem nf_0_7 : ax_nf 0 7 := ⟨_, rfl, rfl⟩
theorem nf_0_8 : ax_nf 0 8 := ⟨_, rfl, rfl⟩
theorem nf_1_12 : ax_nf 1 12 := ⟨_, rfl, rfl⟩
theorem nf_1_13 : ax_nf 1 13 := ⟨_, rfl, rfl⟩
theorem nf_1_14 : ax_nf 1 14 := ⟨_, rfl, rfl⟩
theorem nf_1_15 : ax_nf 1 15 := ⟨_, rfl, rfl⟩
theorem nf_1_16 : ax_nf 1 16 := ⟨_, rfl, rfl⟩
theorem nf_1_17 : ax_nf 1 17 := ⟨_, rfl, rfl⟩
theorem nf_1_18 : ax_nf 1 18 := ⟨_, rfl, rfl⟩
theorem nf_2_2 : ax_nf 2 2 := ⟨_, rfl, rfl⟩
theorem nf_2_3 : ax_nf 2 3 := ⟨_, rfl, rfl⟩
theorem nf_2_4 : ax_nf 2 4 := ⟨_, rfl, rfl⟩
theorem nf_3_1 : ax_nf 3 1 := ⟨_, rfl, rfl⟩
theorem nf_3_2 : ax_nf 3 2 := ⟨_, rfl, rfl⟩
theorem nf_3_3 : ax_nf 3 3 := ⟨_, rfl, rfl⟩
theorem nf_3_5 : ax_nf 3 5 := ⟨_, rfl, rfl⟩
theorem nf_3_6 : ax_nf 3 6 := ⟨_, rfl, rfl⟩
theorem nf_3_7 : ax_nf 3 7 := ⟨_, rfl, rfl⟩
theorem nf_3_8 : ax_nf 3 8 := ⟨_, rfl, rfl⟩
theorem nf_3_9 : ax_nf 3 9 := ⟨_, rfl, rfl⟩
theorem nf_3_10 : ax_nf 3 10 := ⟨_, rfl, rfl⟩
theorem nf_3_11 : ax_nf 3 11 := ⟨_, rfl, rfl⟩
theorem nf_3_12 : ax_nf 3 12 := ⟨_, rfl, rfl⟩
theorem nf_5_5 : ax_nf 5 5 := ⟨_, rfl, rfl⟩
theorem nf_5_6 : ax_nf 5 6 := ⟨_, rfl, rfl⟩
theorem nf_6_8 : ax_nf 6 8 := ⟨_, rfl, rfl⟩
theorem nf_6_9 : ax_nf 6 9 := ⟨_, rfl, rfl⟩
theorem nf_6_10 : ax_nf 6 10 := ⟨_, rfl, rfl⟩
theorem nf_8_1 : ax_nf 8 1 := ⟨_, rfl, rfl⟩
theorem nf_9_0 : ax_nf 9 0 := ⟨_, rfl, rfl⟩
theorem nf_9_2 : ax_nf 9 2 := ⟨_, rfl, rfl⟩
theorem nf_9_18 : ax_nf 9 18 := ⟨_, rfl, rfl⟩
theorem nf_9_19 : ax_nf 9 19 := ⟨_, rfl, rfl⟩
theorem nf_9_20 : ax_nf 9 20 := ⟨_, rfl, rfl⟩
theorem nf_9_21 : ax_nf 9 21 := ⟨_, rfl, rfl⟩
theorem nf_9_22 : ax_nf 9 22 := ⟨_, rfl, rfl⟩
theorem nf_9_23 : ax_nf 9 23 := ⟨_, rfl, rfl⟩
theorem nf_9_24 : ax_nf 9 24 := ⟨_, rfl, rfl⟩
theorem nf_9_25 : ax_nf 9 25 := ⟨_, rfl, rfl⟩
theorem nf_9_26 : ax_nf 9 26 := ⟨_, rfl, rfl⟩
theorem nf_9_27 : ax_nf 9 27 := ⟨_, rfl, rfl⟩
theorem nf_9_30 : ax_nf 9 30 := ⟨_, rfl, rfl⟩
theorem nf_9_31 : ax_nf 9 31 := ⟨_, rfl, rfl⟩
theorem nf_9_35 : ax_nf 9 35 := ⟨_, rfl, rfl⟩
theorem nf_9_37 : ax_nf 9 37 := ⟨_, rfl, rfl⟩
theorem nf_9_41 : ax_nf 9 41 := ⟨_, rfl, rfl⟩
theorem nf_9_42 : ax_nf 9 42 := ⟨_, rfl, rfl⟩
theorem nf_9_43 : ax_nf 9 43 := ⟨_, rfl, rfl⟩
theorem nf_9_44 : ax_nf 9 44 := ⟨_, rfl, rfl⟩
theorem sS_0 : ax_S 0 = (0, 8) := rfl
theorem kk_0 : 0 < ax_K0 := Nat.le_of_ble_eq_true rfl
theorem sS_1 : ax_S 1 = (1, 700) := rfl
theorem kk_1 : 1 < ax_K0 := Nat.le_of_ble_eq_true rfl
theorem sS_2 : ax_S 2 = (0, 1) := rfl
theorem kk_2 : 2 < ax_K0 := Nat.le_of_ble_eq_true rfl
theorem sS_3 : ax_S 3 = (1, 4) := rfl
theorem kk_3 : 3 < ax_K0 := Nat.le_of_ble_eq_true rfl
theorem sS_4 : ax_S 4 = (1, 4) := rfl
theorem kk_4 : 4 < ax_K0 := Nat.le_of_ble_eq_true rfl
theorem sS_5 : ax_S 5 = (1, 4) := rfl
theorem kk_5 : 5 < ax_K0 := Nat.le_of_ble_eq_true rfl
theorem sS_6 : ax_S 6 = (1, 10) := rfl
theorem kk_6 : 6 < ax_K0 := Nat.le_of_ble_eq_true rfl
theorem sS_7 : ax_S 7 = (1, 10) := rfl
theorem kk_7 : 7 < ax_K0 := Nat.le_of_ble_eq_true rfl
theorem sS_8 : ax_S 8 = (1, 10) := rfl
theorem kk_8 : 8 < ax_K0 := Nat.le_of_ble_eq_true rfl
theorem sS_9 : ax_S 9 = (1, 10) := rfl
theorem kk_9 : 9 < ax_K0 := Nat.le_of_ble_eq_true rfl
theorem sS_10 : ax_S 10 = (1, 10) := rfl
theorem kk_10 : 10 < ax_K0 := Nat.le_of_ble_eq_true rfl
theorem sS_11 : ax_S 11 = (1, 24) := rfl
theorem kk_11 : 11 < ax_K0 := Nat.le_of_ble_eq_true rfl
theorem sS_12 : ax_S 12 = (1, 24) := rfl
theorem kk_12 : 12 < ax_K0 := Nat.le_of_ble_eq_true rfl
theorem sS_13 : ax_S 13 = (1, 24) := rfl
theorem kk_13 : 13 < ax_K0 := Nat.le_of_ble_eq_true rfl
theorem sS_14 : ax_S 14 = (1, 24) := rfl
theorem kk_14 : 14 < ax_K0 := Nat.le_of_ble_eq_true rfl
theorem sS_15 : ax_S 15 = (0, 3) := rfl
theorem kk_15 : 15 < ax_K0 := Nat.le_of_ble_eq_true rfl
theorem sS_16 : ax_S 16 = (0, 1) := rfl
theorem kk_16 : 16 < ax_K0 := Nat.le_of_ble_eq_true rfl
theorem sS_17 : ax_S 17 = (1, 4) := rfl
theorem kk_17 : 17 < ax_K0 := Nat.le_of_ble_eq_true rfl
theorem sS_18 : ax_S 18 = (1, 4) := rfl
theorem kk_18 : 18 < ax_K0 := Nat.le_of_ble_eq_true rfl
theorem sS_19 : ax_S 19 = (1, 4) := rfl
theorem kk_19 : 19 < ax_K0 := Nat.le_of_ble_eq_true rfl
theorem sS_20 : ax_S 20 = (1, 10) := rfl
theorem kk_20 : 20 < ax_K0 := Nat.le_of_ble_eq_true rfl
theorem sS_21 : ax_S 21 = (1, 10) := rfl
theorem kk_21 : 21 < ax_K0 := Nat.le_of_ble_eq_true rfl
theorem sS_22 : ax_S 22 = (1, 10) := rfl
theorem kk_22 : 22 < ax_K0 := Nat.le_of_ble_eq_true rfl
theorem sS_23 : ax_S 23 = (1, 10) := rfl
theorem kk_23 : 23 < ax_K0 := Nat.le_of_ble_eq_true rfl
theorem sS_24 : ax_S 24 = (1, 10) := rfl
theorem kk_24 : 24 < ax_K0 := Nat.le_of_ble_eq_true rfl
theorem sS_25 : ax_S 25 = (1, 24) := rfl
theorem kk_25 : 25 < ax_K0 := Nat.le_of_ble_eq_true rfl
theorem sS_26 : ax_S 26 = (1, 24) := rfl
theorem kk_26 : 26 < ax_K0 := Nat.le_of_ble_eq_true rfl
theorem sS_27 : ax_S 27 = (1, 24) := rfl
theorem kk_27 : 27 < ax_K0 := Nat.le_of_ble_eq_true rfl
theorem sS_28 : ax_S 28 = (1, 24) := rfl
theorem kk_28 : 28 < ax_K0 := Nat.le_of_ble_eq_true rfl
theorem sS_29 : ax_S 29 = (0, 2) := rfl
theorem kk_29 : 29 < ax_K0 := Nat.le_of_ble_eq_true rfl
theorem sS_30 : ax_S 30 = (1, 1180) := rfl
theorem kk_30 : 30 < ax_K0 := Nat.le_of_ble_eq_true rfl
theorem sS_31 : ax_S 31 = (1, 59) := rfl
theorem kk_31 : 31 < ax_K0 := Nat.le_of_ble_eq_true rfl
theorem sS_32 : ax_S 32 = (0, 5) := rfl
theorem kk_32 : 32 < ax_K0 := Nat.le_of_ble_eq_true rfl
theorem sS_33 : ax_S 33 = (1, 24) := rfl
theorem kk_33 : 33 < ax_K0 := Nat.le_of_ble_eq_true rfl
theorem sS_34 : ax_S 34 = (1, 24) := rfl
theorem kk_34 : 34 < ax_K0 := Nat.le_of_ble_eq_true rfl
theorem sS_35 : ax_S 35 = (1, 10) := rfl
theorem kk_35 : 35 < ax_K0 := Nat.le_of_ble_eq_true rfl
theorem sS_36 : ax_S 36 = (1, 10) := rfl
theorem kk_36 : 36 < ax_K0 := Nat.le_of_ble_eq_true rfl
theorem sS_37 : ax_S 37 = (0, 7) := rfl
theorem kk_37 : 37 < ax_K0 := Nat.le_of_ble_eq_true rfl
theorem sS_38 : ax_S 38 = (1, 24) := rfl
theorem kk_38 : 38 < ax_K0 := Nat.le_of_ble_eq_true rfl
theorem sS_39 : ax_S 39 = (1, 10) := rfl
theorem kk_39 : 39 < ax_K0 := Nat.le_of_ble_eq_true rfl
theorem sS_40 : ax_S 40 = (1, 10) := rfl
theorem kk_40 : 40 < ax_K0 := Nat.le_of_ble_eq_true rfl
theorem sS_41 : ax_S 41 = (0, 0) := rfl
theorem kk_41 : 41 < ax_K0 := Nat.le_of_ble_eq_true rfl
theorem sS_42 : ax_S 42 = (1, 10) := rfl
theorem kk_42 : 42 < ax_K0 := Nat.le_of_ble_eq_true rfl
theorem sS_43 : ax_S 43 = (1, 100) := rfl
theorem kk_43 : 43 < ax_K0 := Nat.le_of_ble_eq_true rfl
theorem sS_44 : ax_S 44 = (1, 10) := rfl
theorem kk_44 : 44 < ax_K0 := Nat.le_of_ble_eq_true rfl
theorem sS_45 : ax_S 45 = (1, 10) := rfl
theorem kk_45 : 45 < ax_K0 := Nat.le_of_ble_eq_true rfl
theorem sS_46 : ax_S 46 = (0, 4) := rfl
theorem kk_46 : 46 < ax_K0 := Nat.le_of_ble_eq_true rfl
theorem sS_47 : ax_S 47 = (1, 24) := rfl
theorem kk_47 : 47 < ax_K0 := Nat.le_of_ble_eq_true rfl
theorem sS_48 : ax_S 48 = (1, 4) := rfl
theorem kk_48 : 48 < ax_K0 := Nat.le_of_ble_eq_true rfl
theorem sS_49 : ax_S 49 = (0, 6) := rfl
theorem kk_49 : 49 < ax_K0 := Nat.le_of_ble_eq_true rfl
theorem sS_50 : ax_S 50 = (1, 24) := rfl
theorem kk_50 : 50 < ax_K0 := Nat.le_of_ble_eq_true rfl
theorem sS_51 : ax_S 51 = (1, 24) := rfl
theorem kk_51 : 51 < ax_K0 := Nat.le_of_ble_eq_true rfl
theorem sS_52 : ax_S 52 = (1, 24) := rfl
theorem kk_52 : 52 < ax_K0 := Nat.le_of_ble_eq_true rfl
theorem sS_53 : ax_S 53 = (1, 10) := rfl
theorem kk_53 : 53 < ax_K0 := Nat.le_of_ble_eq_true rfl
theorem sS_54 : ax_S 54 = (1, 10) := rfl
theorem kk_54 : 54 < ax_K0 := Nat.le_of_ble_eq_true rfl
theorem sS_55 : ax_S 55 = (1, 10) := rfl
theorem kk_55 : 55 < ax_K0 := Nat.le_of_ble_eq_true rfl
theorem sS_56 : ax_S 56 = (1, 11) := rfl
theorem kk_56 : 56 < ax_K0 := Nat.le_of_ble_eq_true rfl
theorem sS_57 : ax_S 57 = (0, 9) := rfl
theorem kk_57 : 57 < ax_K0 := Nat.le_of_ble_eq_true rfl
theorem sS_58 : ax_S 58 = (1, 700) := rfl
theorem kk_58 : 58 < ax_K0 := Nat.le_of_ble_eq_true rfl
theorem sS_59 : ax_S 59 = (1, 12) := rfl
theorem kk_59 : 59 < ax_K0 := Nat.le_of_ble_eq_true rfl
theorem sS_60 : ax_S 60 = (3, 7) := rfl
theorem kk_60 : 60 < ax_K0 := Nat.le_of_ble_eq_true rfl
theorem sS_61 : ax_S 61 = (1, 8) := rfl
theorem kk_61 : 61 < ax_K0 := Nat.le_of_ble_eq_true rfl
theorem sS_62 : ax_S 62 = (1, 8) := rfl
theorem kk_62 : 62 < ax_K0 := Nat.le_of_ble_eq_true rfl
theorem sS_63 : ax_S 63 = (1, 8) := rfl
theorem kk_63 : 63 < ax_K0 := Nat.le_of_ble_eq_true rfl
theorem sS_64 : ax_S 64 = (1, 20) := rfl
theorem kk_64 : 64 < ax_K0 := Nat.le_of_ble_eq_true rfl
theorem sS_65 : ax_S 65 = (1, 20) := rfl
theorem kk_65 : 65 < ax_K0 := Nat.le_of_ble_eq_true rfl
theorem sS_66 : ax_S 66 = (1, 20) := rfl
theorem kk_66 : 66 < ax_K0 := Nat.le_of_ble_eq_true rfl
theorem sS_67 : ax_S 67 = (1, 20) := rfl
theorem kk_67 : 67 < ax_K0 := Nat.le_of_ble_eq_true rfl
theorem sS_68 : ax_S 68 = (1, 20) := rfl
theorem kk_68 : 68 < ax_K0 := Nat.le_of_ble_eq_true rfl
theorem sS_69 : ax_S 69 = (3, 20) := rfl
theorem kk_69 : 69 < ax_K0 := Nat.le_of_ble_eq_true rfl
theorem sS_70 : ax_S 70 = (1, 48) := rfl
theorem kk_70 : 70 < ax_K0 := Nat.le_of_ble_eq_true rfl
theorem sS_71 : ax_S 71 = (1, 48) := rfl
theorem kk_71 : 71 < ax_K0 := Nat.le_of_ble_eq_true rfl
theorem sS_72 : ax_S 72 = (1, 48) := rfl
theorem kk_72 : 72 < ax_K0 := Nat.le_of_ble_eq_true rfl
theorem sS_73 : ax_S 73 = (1, 48) := rfl
theorem kk_73 : 73 < ax_K0 := Nat.le_of_ble_eq_true rfl
theorem sS_74 : ax_S 74 = (1, 68) := rfl
theorem kk_74 : 74 < ax_K0 := Nat.le_of_ble_eq_true rfl
theorem sS_75 : ax_S 75 = (1, 1428) := rfl
theorem kk_75 : 75 < ax_K0 := Nat.le_of_ble_eq_true rfl
theorem sS_76 : ax_S 76 = (2, 10) := rfl
theorem kk_76 : 76 < ax_K0 := Nat.le_of_ble_eq_true rfl
theorem sS_77 : ax_S 77 = (2, 10) := rfl
theorem kk_77 : 77 < ax_K0 := Nat.le_of_ble_eq_true rfl
theorem sS_78 : ax_S 78 = (2, 10) := rfl
theorem kk_78 : 78 < ax_K0 := Nat.le_of_ble_eq_true rfl
theorem sS_79 : ax_S 79 = (1, 10) := rfl
theorem kk_79 : 79 < ax_K0 := Nat.le_of_ble_eq_true rfl
theorem sS_80 : ax_S 80 = (1, 10) := rfl
theorem kk_80 : 80 < ax_K0 := Nat.le_of_ble_eq_true rfl
theorem sS_81 : ax_S 81 = (1, 10) := rfl
theorem kk_81 : 81 < ax_K0 := Nat.le_of_ble_eq_true rfl
theorem sS_82 : ax_S 82 = (1, 10) := rfl
theorem kk_82 : 82 < ax_K0 := Nat.le_of_ble_eq_true rfl
theorem sS_83 : ax_S 83 = (1, 24) := rfl
theorem kk_83 : 83 < ax_K0 := Nat.le_of_ble_eq_true rfl
theorem rr_0_0 : ax_R 0 0 = some 1 := rfl
theorem rr_0_2 : ax_R 0 2 = some 2 := rfl
theorem rr_0_3 : ax_R 0 3 = some 15 := rfl
theorem rr_0_4 : ax_R 0 4 = some 29 := rfl
theorem rr_0_5 : ax_R 0 5 = some 32 := rfl
theorem rr_0_6 : ax_R 0 6 = some 37 := rfl
theorem rr_0_7 : ax_R 0 7 = some 41 := rfl
theorem rr_0_8 : ax_R 0 8 = some 46 := rfl
theorem rr_2_0 : ax_R 2 0 = some 3 := rfl
theorem rr_2_1 : ax_R 2 1 = some 4 := rfl
theorem rr_2_2 : ax_R 2 2 = some 5 := rfl
theorem rr_2_3 : ax_R 2 3 = some 6 := rfl
theorem rr_2_4 : ax_R 2 4 = some 7 := rfl
theorem rr_2_5 : ax_R 2 5 = some 8 := rfl
theorem rr_2_6 : ax_R 2 6 = some 9 := rfl
theorem rr_2_7 : ax_R 2 7 = some 10 := rfl
theorem rr_2_8 : ax_R 2 8 = some 11 := rfl
theorem rr_2_9 : ax_R 2 9 = some 12 := rfl
theorem rr_2_10 : ax_R 2 10 = some 13 := rfl
theorem rr_2_11 : ax_R 2 11 = some 14 := rfl
theorem rr_15_0 : ax_R 15 0 = some 16 := rfl
theorem rr_15_4 : ax_R 15 4 = some 1 := rfl
theorem rr_16_0 : ax_R 16 0 = some 17 := rfl
theorem rr_16_1 : ax_R 16 1 = some 18 := rfl
theorem rr_16_2 : ax_R 16 2 = some 19 := rfl
theorem rr_16_3 : ax_R 16 3 = some 20 := rfl
theorem rr_16_4 : ax_R 16 4 = some 21 := rfl
theorem rr_16_5 : ax_R 16 5 = some 22 := rfl
theorem rr_16_6 : ax_R 16 6 = some 23 := rfl
theorem rr_16_7 : ax_R 16 7 = some 24 := rfl
theorem rr_16_8 : ax_R 16 8 = some 25 := rfl
theorem rr_16_9 : ax_R 16 9 = some 26 := rfl
theorem rr_16_10 : ax_R 16 10 = some 27 := rfl
theorem rr_16_11 : ax_R 16 11 = some 28 := rfl
theorem rr_29_0 : ax_R 29 0 = some 30 := rfl
theorem rr_29_1 : ax_R 29 1 = some 31 := rfl
theorem rr_32_0 : ax_R 32 0 = some 2 := rfl
theorem rr_32_1 : ax_R 32 1 = some 33 := rfl
theorem rr_32_2 : ax_R 32 2 = some 34 := rfl
theorem rr_32_3 : ax_R 32 3 = some 35 := rfl
theorem rr_32_4 : ax_R 32 4 = some 36 := rfl
theorem rr_37_0 : ax_R 37 0 = some 2 := rfl
theorem rr_37_1 : ax_R 37 1 = some 38 := rfl
theorem rr_37_2 : ax_R 37 2 = some 39 := rfl
theorem rr_37_3 : ax_R 37 3 = some 40 := rfl
theorem rr_41_0 : ax_R 41 0 = some 2 := rfl
theorem rr_41_1 : ax_R 41 1 = some 42 := rfl
theorem rr_41_2 : ax_R 41 2 = some 43 := rfl
theorem rr_41_3 : ax_R 41 3 = some 44 := rfl
theorem rr_41_4 : ax_R 41 4 = some 45 := rfl
theorem rr_46_0 : ax_R 46 0 = some 2 := rfl
theorem rr_46_1 : ax_R 46 1 = some 32 := rfl
theorem rr_46_2 : ax_R 46 2 = some 49 := rfl
theorem rr_46_3 : ax_R 46 3 = some 47 := rfl
theorem rr_46_4 : ax_R 46 4 = some 48 := rfl
theorem rr_49_0 : ax_R 49 0 = some 2 := rfl
theorem rr_49_1 : ax_R 49 1 = some 50 := rfl
theorem rr_49_2 : ax_R 49 2 = some 51 := rfl
theorem rr_49_3 : ax_R 49 3 = some 52 := rfl
theorem rr_49_4 : ax_R 49 4 = some 53 := rfl
theorem rr_49_5 : ax_R 49 5 = some 54 := rfl
theorem rr_49_6 : ax_R 49 6 = some 55 := rfl
theorem rr_49_7 : ax_R 49 7 = some 56 := rfl
theorem rr_57_1 : ax_R 57 1 = some 58 := rfl
theorem rr_57_3 : ax_R 57 3 = some 59 := rfl
theorem rr_57_4 : ax_R 57 4 = some 60 := rfl
theorem rr_57_5 : ax_R 57 5 = some 61 := rfl
theorem rr_57_6 : ax_R 57 6 = some 62 := rfl
theorem rr_57_7 : ax_R 57 7 = some 63 := rfl
theorem rr_57_8 : ax_R 57 8 = some 64 := rfl
theorem rr_57_9 : ax_R 57 9 = some 65 := rfl
theorem rr_57_10 : ax_R 57 10 = some 66 := rfl
theorem rr_57_11 : ax_R 57 11 = some 67 := rfl
theorem rr_57_12 : ax_R 57 12 = some 68 := rfl
theorem rr_57_13 : ax_R 57 13 = some 69 := rfl
theorem rr_57_14 : ax_R 57 14 = some 70 := rfl
theorem rr_57_15 : ax_R 57 15 = some 71 := rfl
theorem rr_57_16 : ax_R 57 16 = some 72 := rfl
theorem rr_57_17 : ax_R 57 17 = some 73 := rfl
theorem rr_57_28 : ax_R 57 28 = some 74 := rfl
theorem rr_57_29 : ax_R 57 29 = some 75 := rfl
theorem rr_57_32 : ax_R 57 32 = some 76 := rfl
theorem rr_57_33 : ax_R 57 33 = some 77 := rfl
theorem rr_57_34 : ax_R 57 34 = some 78 := rfl
theorem rr_57_36 : ax_R 57 36 = some 79 := rfl
theorem rr_57_38 : ax_R 57 38 = some 80 := rfl
theorem rr_57_39 : ax_R 57 39 = some 81 := rfl
theorem rr_57_40 : ax_R 57 40 = some 82 := rfl
theorem rr_57_45 : ax_R 57 45 = some 83 := rfl
theorem ctJ6_265 : Cond.constant RJ6 265 (1431655765) ∈ ax_tbl := ax_tbl_of 934 (by decide +kernel) rfl
theorem ctJ6_266 : Cond.constant RJ6 266 (858993459) ∈ ax_tbl := ax_tbl_of 935 (by decide +kernel) rfl
theorem ctJ6_267 : Cond.constant RJ6 267 (252645135) ∈ ax_tbl := ax_tbl_of 936 (by decide +kernel) rfl
theorem ctX1_83 : Cond.constant RX1 83 (-2147483648) ∈ ax_tbl := ax_tbl_of 662 (by decide +kernel) rfl
theorem ctX3_107 : Cond.constant RX3 107 (99999) ∈ ax_tbl := ax_tbl_of 522 (by decide +kernel) rfl
theorem ctX3_174 : Cond.constant RX3 174 (542713316) ∈ ax_tbl := ax_tbl_of 492 (by decide +kernel) rfl
theorem ctX3_175 : Cond.constant RX3 175 (545311904) ∈ ax_tbl := ax_tbl_of 493 (by decide +kernel) rfl
theorem ctX3_176 : Cond.constant RX3 176 (404360448) ∈ ax_tbl := ax_tbl_of 494 (by decide +kernel) rfl
theorem ctX3_177 : Cond.constant RX3 177 (214417408) ∈ ax_tbl := ax_tbl_of 495 (by decide +kernel) rfl
theorem ctX3_178 : Cond.constant RX3 178 (538583040) ∈ ax_tbl := ax_tbl_of 496 (by decide +kernel) rfl
theorem ctX3_179 : Cond.constant RX3 179 (649255936) ∈ ax_tbl := ax_tbl_of 497 (by decide +kernel) rfl
theorem ctX3_180 : Cond.constant RX3 180 (642945024) ∈ ax_tbl := ax_tbl_of 498 (by decide +kernel) rfl
theorem ctX3_196 : Cond.constant RX3 196 (100000) ∈ ax_tbl := ax_tbl_of 456 (by decide +kernel) rfl
theorem ctX4_142 : Cond.constant RX4 142 (1103515245) ∈ ax_tbl := ax_tbl_of 1032 (by decide +kernel) rfl
theorem ctX4_143 : Cond.constant RX4 143 (2147483647) ∈ ax_tbl := ax_tbl_of 1033 (by decide +kernel) rfl
theorem ctX9_141 : Cond.constant RX9 141 (99999) ∈ ax_tbl := ax_tbl_of 1442 (by decide +kernel) rfl
theorem ctX9_387 : Cond.constant RX9 387 (1103515245) ∈ ax_tbl := ax_tbl_of 1810 (by decide +kernel) rfl
theorem ctX9_388 : Cond.constant RX9 388 (2147483647) ∈ ax_tbl := ax_tbl_of 1811 (by decide +kernel) rfl
theorem clX8_214 : Cond.constantLong RX8 214 (-1) ∈ ax_tbl := ax_tbl_of 632 (by decide +kernel) rfl
theorem clX8_220 : Cond.constantLong RX8 220 (-2) ∈ ax_tbl := ax_tbl_of 664 (by decide +kernel) rfl
theorem clX8_225 : Cond.constantLong RX8 225 (-9223372036854775808) ∈ ax_tbl := ax_tbl_of 669 (by decide +kernel) rfl
theorem clX9_275 : Cond.constantLong RX9 275 (64) ∈ ax_tbl := ax_tbl_of 1620 (by decide +kernel) rfl
theorem clX9_284 : Cond.constantLong RX9 284 (-64) ∈ ax_tbl := ax_tbl_of 1615 (by decide +kernel) rfl
theorem clX9_313 : Cond.constantLong RX9 313 (-1) ∈ ax_tbl := ax_tbl_of 1594 (by decide +kernel) rfl
theorem clX9_315 : Cond.constantLong RX9 315 (-2) ∈ ax_tbl := ax_tbl_of 1629 (by decide +kernel) rfl
theorem clX9_317 : Cond.constantLong RX9 317 (-9223372036854775808) ∈ ax_tbl := ax_tbl_of 1634 (by decide +kernel) rfl
theorem clX9_335 : Cond.constantLong RX9 335 (63) ∈ ax_tbl := ax_tbl_of 1687 (by decide +kernel) rfl
theorem ccbipush_m64 : (Int8.ofInt (-64)).toInt32 = -64 := by decide
theorem ccbipush_m2 : (Int8.ofInt (-2)).toInt32 = -2 := by decide
theorem ccbipush_6 : (Int8.ofInt (6)).toInt32 = 6 := by decide
theorem ccbipush_7 : (Int8.ofInt (7)).toInt32 = 7 := by decide
theorem ccbipush_8 : (Int8.ofInt (8)).toInt32 = 8 := by decide
theorem ccbipush_9 : (Int8.ofInt (9)).toInt32 = 9 := by decide
theorem ccbipush_10 : (Int8.ofInt (10)).toInt32 = 10 := by decide
theorem ccbipush_12 : (Int8.ofInt (12)).toInt32 = 12 := by decide
theorem ccbipush_16 : (Int8.ofInt (16)).toInt32 = 16 := by decide
theorem ccbipush_19 : (Int8.ofInt (19)).toInt32 = 19 := by decide
theorem ccbipush_20 : (Int8.ofInt (20)).toInt32 = 20 := by decide
theorem ccbipush_24 : (Int8.ofInt (24)).toInt32 = 24 := by decide
theorem ccbipush_30 : (Int8.ofInt (30)).toInt32 = 30 := by decide
theorem ccbipush_32 : (Int8.ofInt (32)).toInt32 = 32 := by decide
theorem ccbipush_40 : (Int8.ofInt (40)).toInt32 = 40 := by decide
theorem ccbipush_43 : (Int8.ofInt (43)).toInt32 = 43 := by decide
theorem ccbipush_48 : (Int8.ofInt (48)).toInt32 = 48 := by decide
theorem ccbipush_57 : (Int8.ofInt (57)).toInt32 = 57 := by decide
theorem ccbipush_59 : (Int8.ofInt (59)).toInt32 = 59 := by decide
theorem ccbipush_63 : (Int8.ofInt (63)).toInt32 = 63 := by decide
theorem ccbipush_64 : (Int8.ofInt (64)).toInt32 = 64 := by decide
theorem ccbipush_67 : (Int8.ofInt (67)).toInt32 = 67 := by decide
theorem ccbipush_68 : (Int8.ofInt (68)).toInt32 = 68 := by decide
theorem ccbipush_97 : (Int8.ofInt (97)).toInt32 = 97 := by decide
theorem ccbipush_99 : (Int8.ofInt (99)).toInt32 = 99 := by decide
theorem ccbipush_100 : (Int8.ofInt (100)).toInt32 = 100 := by decide
theorem ccbipush_122 : (Int8.ofInt (122)).toInt32 = 122 := by decide
theorem cciconst_m1 : Int32.ofInt (-1) = -1 := by decide
theorem cciconst_0 : Int32.ofInt (0) = 0 := by decide
theorem cciconst_1 : Int32.ofInt (1) = 1 := by decide
theorem cciconst_2 : Int32.ofInt (2) = 2 := by decide
theorem cciconst_3 : Int32.ofInt (3) = 3 := by decide
theorem cciconst_4 : Int32.ofInt (4) = 4 := by decide
theorem cciconst_5 : Int32.ofInt (5) = 5 := by decide
theorem ccsipush_m3000 : (Int16.ofInt (-3000)).toInt32 = -3000 := by decide
theorem ccsipush_m2000 : (Int16.ofInt (-2000)).toInt32 = -2000 := by decide
theorem ccsipush_m999 : (Int16.ofInt (-999)).toInt32 = -999 := by decide
theorem ccsipush_200 : (Int16.ofInt (200)).toInt32 = 200 := by decide
theorem ccsipush_255 : (Int16.ofInt (255)).toInt32 = 255 := by decide
theorem ccsipush_680 : (Int16.ofInt (680)).toInt32 = 680 := by decide
theorem ccsipush_700 : (Int16.ofInt (700)).toInt32 = 700 := by decide
theorem ccsipush_999 : (Int16.ofInt (999)).toInt32 = 999 := by decide
theorem ccsipush_1292 : (Int16.ofInt (1292)).toInt32 = 1292 := by decide
theorem ccsipush_1998 : (Int16.ofInt (1998)).toInt32 = 1998 := by decide
theorem ccsipush_4096 : (Int16.ofInt (4096)).toInt32 = 4096 := by decide
theorem ccsipush_9998 : (Int16.ofInt (9998)).toInt32 = 9998 := by decide
theorem ccsipush_9999 : (Int16.ofInt (9999)).toInt32 = 9999 := by decide
theorem ccsipush_10000 : (Int16.ofInt (10000)).toInt32 = 10000 := by decide
theorem ccsipush_12345 : (Int16.ofInt (12345)).toInt32 = 12345 := by decide
abbrev mJ6_bitCount_0f7a4 : ax_Mi := (yJ6_bitCount_0f7a4, cJ6_bitCount_0f7a4, 1, (some .int))
theorem hhJ6_bitCount_0f7a4 : ax_hd mJ6_bitCount_0f7a4 1 := ⟨by decide +kernel, Nat.le_of_ble_eq_true rfl, ax_tbl_of 933 (by decide +kernel) rfl, ax_tbl_of 23 (by decide +kernel) rfl⟩
abbrev mJ7_fill_53178 : ax_Mi := (yJ7_fill_53178, cJ7_fill_53178, 4, none)
theorem hhJ7_fill_53178 : ax_hd mJ7_fill_53178 2 := ⟨by decide +kernel, Nat.le_of_ble_eq_true rfl, ax_tbl_of 652 (by decide +kernel) rfl, ax_tbl_of 22 (by decide +kernel) rfl⟩
abbrev mJ9_floorDiv_7cf53 : ax_Mi := (yJ9_floorDiv_7cf53, cJ9_floorDiv_7cf53, 3, (some .int))
theorem hhJ9_floorDiv_7cf53 : ax_hd mJ9_floorDiv_7cf53 2 := ⟨by decide +kernel, Nat.le_of_ble_eq_true rfl, ax_tbl_of 747 (by decide +kernel) rfl, ax_tbl_of 11 (by decide +kernel) rfl⟩
abbrev mJ9_floorMod_7cf53 : ax_Mi := (yJ9_floorMod_7cf53, cJ9_floorMod_7cf53, 3, (some .int))
theorem hhJ9_floorMod_7cf53 : ax_hd mJ9_floorMod_7cf53 2 := ⟨by decide +kernel, Nat.le_of_ble_eq_true rfl, ax_tbl_of 1019 (by decide +kernel) rfl, ax_tbl_of 11 (by decide +kernel) rfl⟩
abbrev mX0_fewestBreaks : ax_Mi := (yX0_fewestBreaks, cX0_fewestBreaks, 5, (some .int))
theorem hhX0_fewestBreaks : ax_hd mX0_fewestBreaks 0 := ⟨by decide +kernel, Nat.le_of_ble_eq_true rfl, ax_tbl_of 926 (by decide +kernel) rfl, ax_tbl_of 7 (by decide +kernel) rfl⟩
abbrev mX0_follow : ax_Mi := (yX0_follow, cX0_follow, 11, none)
theorem hhX0_follow : ax_hd mX0_follow 6 := ⟨by decide +kernel, Nat.le_of_ble_eq_true rfl, ax_tbl_of 798 (by decide +kernel) rfl, ax_tbl_of 7 (by decide +kernel) rfl⟩
abbrev mX0_hasLoop : ax_Mi := (yX0_hasLoop, cX0_hasLoop, 6, (some .boolean))
theorem hhX0_hasLoop : ax_hd mX0_hasLoop 1 := ⟨by decide +kernel, Nat.le_of_ble_eq_true rfl, ax_tbl_of 940 (by decide +kernel) rfl, ax_tbl_of 7 (by decide +kernel) rfl⟩
abbrev mX0_linkCells : ax_Mi := (yX0_linkCells, cX0_linkCells, 4, none)
theorem hhX0_linkCells : ax_hd mX0_linkCells 0 := ⟨by decide +kernel, Nat.le_of_ble_eq_true rfl, ax_tbl_of 792 (by decide +kernel) rfl, ax_tbl_of 7 (by decide +kernel) rfl⟩
abbrev mX0_look : ax_Mi := (yX0_look, cX0_look, 2, none)
theorem hhX0_look : ax_hd mX0_look 0 := ⟨by decide +kernel, Nat.le_of_ble_eq_true rfl, ax_tbl_of 788 (by decide +kernel) rfl, ax_tbl_of 7 (by decide +kernel) rfl⟩
abbrev mX0_reduce : ax_Mi := (yX0_reduce, cX0_reduce, 8, none)
theorem hhX0_reduce : ax_hd mX0_reduce 0 := ⟨by decide +kernel, Nat.le_of_ble_eq_true rfl, ax_tbl_of 809 (by decide +kernel) rfl, ax_tbl_of 7 (by decide +kernel) rfl⟩
abbrev mX0_weigh : ax_Mi := (yX0_weigh, cX0_weigh, 8, none)
theorem hhX0_weigh : ax_hd mX0_weigh 3 := ⟨by decide +kernel, Nat.le_of_ble_eq_true rfl, ax_tbl_of 804 (by decide +kernel) rfl, ax_tbl_of 7 (by decide +kernel) rfl⟩
abbrev mX1_clear : ax_Mi := (yX1_clear, cX1_clear, 1, none)
theorem hhX1_clear : ax_hd mX1_clear 0 := ⟨by decide +kernel, Nat.le_of_ble_eq_true rfl, ax_tbl_of 437 (by decide +kernel) rfl, ax_tbl_of 2 (by decide +kernel) rfl⟩
abbrev mX1_delayOf : ax_Mi := (yX1_delayOf, cX1_delayOf, 2, (some .int))
theorem hhX1_delayOf : ax_hd mX1_delayOf 1 := ⟨by decide +kernel, Nat.le_of_ble_eq_true rfl, ax_tbl_of 644 (by decide +kernel) rfl, ax_tbl_of 2 (by decide +kernel) rfl⟩
abbrev mX1_eventKey : ax_Mi := (yX1_eventKey, cX1_eventKey, 6, (some .int))
theorem hhX1_eventKey : ax_hd mX1_eventKey 1 := ⟨by decide +kernel, Nat.le_of_ble_eq_true rfl, ax_tbl_of 1004 (by decide +kernel) rfl, ax_tbl_of 2 (by decide +kernel) rfl⟩
abbrev mX1_gapOf : ax_Mi := (yX1_gapOf, cX1_gapOf, 5, (some .int))
theorem hhX1_gapOf : ax_hd mX1_gapOf 1 := ⟨by decide +kernel, Nat.le_of_ble_eq_true rfl, ax_tbl_of 731 (by decide +kernel) rfl, ax_tbl_of 2 (by decide +kernel) rfl⟩
abbrev mX1_gather : ax_Mi := (yX1_gather, cX1_gather, 5, none)
theorem hhX1_gather : ax_hd mX1_gather 3 := ⟨by decide +kernel, Nat.le_of_ble_eq_true rfl, ax_tbl_of 661 (by decide +kernel) rfl, ax_tbl_of 2 (by decide +kernel) rfl⟩
abbrev mX1_greatestMove : ax_Mi := (yX1_greatestMove, cX1_greatestMove, 4, (some .int))
theorem hhX1_greatestMove : ax_hd mX1_greatestMove 1 := ⟨by decide +kernel, Nat.le_of_ble_eq_true rfl, ax_tbl_of 610 (by decide +kernel) rfl, ax_tbl_of 2 (by decide +kernel) rfl⟩
abbrev mX1_hasCell : ax_Mi := (yX1_hasCell, cX1_hasCell, 2, (some .boolean))
theorem hhX1_hasCell : ax_hd mX1_hasCell 1 := ⟨by decide +kernel, Nat.le_of_ble_eq_true rfl, ax_tbl_of 587 (by decide +kernel) rfl, ax_tbl_of 2 (by decide +kernel) rfl⟩
abbrev mX1_hasPath : ax_Mi := (yX1_hasPath, cX1_hasPath, 2, (some .boolean))
theorem hhX1_hasPath : ax_hd mX1_hasPath 1 := ⟨by decide +kernel, Nat.le_of_ble_eq_true rfl, ax_tbl_of 579 (by decide +kernel) rfl, ax_tbl_of 2 (by decide +kernel) rfl⟩
abbrev mX1_hasPhase : ax_Mi := (yX1_hasPhase, cX1_hasPhase, 2, (some .boolean))
theorem hhX1_hasPhase : ax_hd mX1_hasPhase 1 := ⟨by decide +kernel, Nat.le_of_ble_eq_true rfl, ax_tbl_of 571 (by decide +kernel) rfl, ax_tbl_of 2 (by decide +kernel) rfl⟩
abbrev mX1_isFlop : ax_Mi := (yX1_isFlop, cX1_isFlop, 2, (some .boolean))
theorem hhX1_isFlop : ax_hd mX1_isFlop 1 := ⟨by decide +kernel, Nat.le_of_ble_eq_true rfl, ax_tbl_of 591 (by decide +kernel) rfl, ax_tbl_of 2 (by decide +kernel) rfl⟩
abbrev mX1_keyOf : ax_Mi := (yX1_keyOf, cX1_keyOf, 5, (some .int))
theorem hhX1_keyOf : ax_hd mX1_keyOf 1 := ⟨by decide +kernel, Nat.le_of_ble_eq_true rfl, ax_tbl_of 1008 (by decide +kernel) rfl, ax_tbl_of 2 (by decide +kernel) rfl⟩
abbrev mX1_latches : ax_Mi := (yX1_latches, cX1_latches, 1, (some .int))
theorem hhX1_latches : ax_hd mX1_latches 0 := ⟨by decide +kernel, Nat.le_of_ble_eq_true rfl, ax_tbl_of 930 (by decide +kernel) rfl, ax_tbl_of 2 (by decide +kernel) rfl⟩
abbrev mX1_leastMove : ax_Mi := (yX1_leastMove, cX1_leastMove, 4, (some .int))
theorem hhX1_leastMove : ax_hd mX1_leastMove 1 := ⟨by decide +kernel, Nat.le_of_ble_eq_true rfl, ax_tbl_of 603 (by decide +kernel) rfl, ax_tbl_of 2 (by decide +kernel) rfl⟩
abbrev mX1_leavesBy : ax_Mi := (yX1_leavesBy, cX1_leavesBy, 3, (some .int))
theorem hhX1_leavesBy : ax_hd mX1_leavesBy 2 := ⟨by decide +kernel, Nat.le_of_ble_eq_true rfl, ax_tbl_of 656 (by decide +kernel) rfl, ax_tbl_of 2 (by decide +kernel) rfl⟩
abbrev mX1_limitOf : ax_Mi := (yX1_limitOf, cX1_limitOf, 4, (some .int))
theorem hhX1_limitOf : ax_hd mX1_limitOf 2 := ⟨by decide +kernel, Nat.le_of_ble_eq_true rfl, ax_tbl_of 685 (by decide +kernel) rfl, ax_tbl_of 2 (by decide +kernel) rfl⟩
abbrev mX1_moveWork : ax_Mi := (yX1_moveWork, cX1_moveWork, 5, none)
theorem hhX1_moveWork : ax_hd mX1_moveWork 2 := ⟨by decide +kernel, Nat.le_of_ble_eq_true rfl, ax_tbl_of 615 (by decide +kernel) rfl, ax_tbl_of 2 (by decide +kernel) rfl⟩
abbrev mX1_openAt : ax_Mi := (yX1_openAt, cX1_openAt, 5, (some .int))
theorem hhX1_openAt : ax_hd mX1_openAt 1 := ⟨by decide +kernel, Nat.le_of_ble_eq_true rfl, ax_tbl_of 1016 (by decide +kernel) rfl, ax_tbl_of 2 (by decide +kernel) rfl⟩
abbrev mX1_padOf : ax_Mi := (yX1_padOf, cX1_padOf, 2, (some .int))
theorem hhX1_padOf : ax_hd mX1_padOf 1 := ⟨by decide +kernel, Nat.le_of_ble_eq_true rfl, ax_tbl_of 739 (by decide +kernel) rfl, ax_tbl_of 2 (by decide +kernel) rfl⟩
abbrev mX1_pathBetween : ax_Mi := (yX1_pathBetween, cX1_pathBetween, 4, (some .int))
theorem hhX1_pathBetween : ax_hd mX1_pathBetween 2 := ⟨by decide +kernel, Nat.le_of_ble_eq_true rfl, ax_tbl_of 513 (by decide +kernel) rfl, ax_tbl_of 2 (by decide +kernel) rfl⟩
abbrev mX1_readFrom : ax_Mi := (yX1_readFrom, cX1_readFrom, 4, none)
theorem hhX1_readFrom : ax_hd mX1_readFrom 2 := ⟨by decide +kernel, Nat.le_of_ble_eq_true rfl, ax_tbl_of 1058 (by decide +kernel) rfl, ax_tbl_of 2 (by decide +kernel) rfl⟩
abbrev mX1_roomBy : ax_Mi := (yX1_roomBy, cX1_roomBy, 3, (some .int))
theorem hhX1_roomBy : ax_hd mX1_roomBy 2 := ⟨by decide +kernel, Nat.le_of_ble_eq_true rfl, ax_tbl_of 681 (by decide +kernel) rfl, ax_tbl_of 2 (by decide +kernel) rfl⟩
abbrev mX1_shiftOf : ax_Mi := (yX1_shiftOf, cX1_shiftOf, 3, (some .int))
theorem hhX1_shiftOf : ax_hd mX1_shiftOf 1 := ⟨by decide +kernel, Nat.le_of_ble_eq_true rfl, ax_tbl_of 623 (by decide +kernel) rfl, ax_tbl_of 2 (by decide +kernel) rfl⟩
abbrev mX1_takeAllOf : ax_Mi := (yX1_takeAllOf, cX1_takeAllOf, 2, none)
theorem hhX1_takeAllOf : ax_hd mX1_takeAllOf 1 := ⟨by decide +kernel, Nat.le_of_ble_eq_true rfl, ax_tbl_of 526 (by decide +kernel) rfl, ax_tbl_of 2 (by decide +kernel) rfl⟩
abbrev mX1_weighPaths : ax_Mi := (yX1_weighPaths, cX1_weighPaths, 3, none)
theorem hhX1_weighPaths : ax_hd mX1_weighPaths 1 := ⟨by decide +kernel, Nat.le_of_ble_eq_true rfl, ax_tbl_of 640 (by decide +kernel) rfl, ax_tbl_of 2 (by decide +kernel) rfl⟩
abbrev mX1_writeTo : ax_Mi := (yX1_writeTo, cX1_writeTo, 4, none)
theorem hhX1_writeTo : ax_hd mX1_writeTo 2 := ⟨by decide +kernel, Nat.le_of_ble_eq_true rfl, ax_tbl_of 562 (by decide +kernel) rfl, ax_tbl_of 2 (by decide +kernel) rfl⟩
abbrev mX2_forgetAll : ax_Mi := (yX2_forgetAll, cX2_forgetAll, 1, none)
theorem hhX2_forgetAll : ax_hd mX2_forgetAll 0 := ⟨by decide +kernel, Nat.le_of_ble_eq_true rfl, ax_tbl_of 533 (by decide +kernel) rfl, ax_tbl_of 4 (by decide +kernel) rfl⟩
abbrev mX2_keepImage : ax_Mi := (yX2_keepImage, cX2_keepImage, 2, none)
theorem hhX2_keepImage : ax_hd mX2_keepImage 1 := ⟨by decide +kernel, Nat.le_of_ble_eq_true rfl, ax_tbl_of 1066 (by decide +kernel) rfl, ax_tbl_of 4 (by decide +kernel) rfl⟩
abbrev mX2_pop : ax_Mi := (yX2_pop, cX2_pop, 2, none)
theorem hhX2_pop : ax_hd mX2_pop 1 := ⟨by decide +kernel, Nat.le_of_ble_eq_true rfl, ax_tbl_of 1054 (by decide +kernel) rfl, ax_tbl_of 4 (by decide +kernel) rfl⟩
abbrev mX2_push : ax_Mi := (yX2_push, cX2_push, 2, none)
theorem hhX2_push : ax_hd mX2_push 1 := ⟨by decide +kernel, Nat.le_of_ble_eq_true rfl, ax_tbl_of 558 (by decide +kernel) rfl, ax_tbl_of 4 (by decide +kernel) rfl⟩
abbrev mX2_restoreImage : ax_Mi := (yX2_restoreImage, cX2_restoreImage, 2, none)
theorem hhX2_restoreImage : ax_hd mX2_restoreImage 1 := ⟨by decide +kernel, Nat.le_of_ble_eq_true rfl, ax_tbl_of 1074 (by decide +kernel) rfl, ax_tbl_of 4 (by decide +kernel) rfl⟩
abbrev mX3_isDigit : ax_Mi := (yX3_isDigit, cX3_isDigit, 1, (some .boolean))
theorem hhX3_isDigit : ax_hd mX3_isDigit 1 := ⟨by decide +kernel, Nat.le_of_ble_eq_true rfl, ax_tbl_of 451 (by decide +kernel) rfl, ax_tbl_of 3 (by decide +kernel) rfl⟩
abbrev mX3_isLetter : ax_Mi := (yX3_isLetter, cX3_isLetter, 1, (some .boolean))
theorem hhX3_isLetter : ax_hd mX3_isLetter 1 := ⟨by decide +kernel, Nat.le_of_ble_eq_true rfl, ax_tbl_of 444 (by decide +kernel) rfl, ax_tbl_of 3 (by decide +kernel) rfl⟩
abbrev mX3_isOfLanguage : ax_Mi := (yX3_isOfLanguage, cX3_isOfLanguage, 1, (some .boolean))
theorem hhX3_isOfLanguage : ax_hd mX3_isOfLanguage 1 := ⟨by decide +kernel, Nat.le_of_ble_eq_true rfl, ax_tbl_of 491 (by decide +kernel) rfl, ax_tbl_of 3 (by decide +kernel) rfl⟩
abbrev mX3_read : ax_Mi := (yX3_read, cX3_read, 3, (some .boolean))
theorem hhX3_read : ax_hd mX3_read 1 := ⟨by decide +kernel, Nat.le_of_ble_eq_true rfl, ax_tbl_of 430 (by decide +kernel) rfl, ax_tbl_of 3 (by decide +kernel) rfl⟩
abbrev mX3_readCell : ax_Mi := (yX3_readCell, cX3_readCell, 8, none)
theorem hhX3_readCell : ax_hd mX3_readCell 1 := ⟨by decide +kernel, Nat.le_of_ble_eq_true rfl, ax_tbl_of 505 (by decide +kernel) rfl, ax_tbl_of 3 (by decide +kernel) rfl⟩
abbrev mX3_readDigits : ax_Mi := (yX3_readDigits, cX3_readDigits, 1, none)
theorem hhX3_readDigits : ax_hd mX3_readDigits 0 := ⟨by decide +kernel, Nat.le_of_ble_eq_true rfl, ax_tbl_of 455 (by decide +kernel) rfl, ax_tbl_of 3 (by decide +kernel) rfl⟩
abbrev mX3_readLine : ax_Mi := (yX3_readLine, cX3_readLine, 1, none)
theorem hhX3_readLine : ax_hd mX3_readLine 0 := ⟨by decide +kernel, Nat.le_of_ble_eq_true rfl, ax_tbl_of 460 (by decide +kernel) rfl, ax_tbl_of 3 (by decide +kernel) rfl⟩
abbrev mX3_readName : ax_Mi := (yX3_readName, cX3_readName, 3, (some .int))
theorem hhX3_readName : ax_hd mX3_readName 2 := ⟨by decide +kernel, Nat.le_of_ble_eq_true rfl, ax_tbl_of 488 (by decide +kernel) rfl, ax_tbl_of 3 (by decide +kernel) rfl⟩
abbrev mX3_readNumber : ax_Mi := (yX3_readNumber, cX3_readNumber, 3, (some .int))
theorem hhX3_readNumber : ax_hd mX3_readNumber 2 := ⟨by decide +kernel, Nat.le_of_ble_eq_true rfl, ax_tbl_of 476 (by decide +kernel) rfl, ax_tbl_of 3 (by decide +kernel) rfl⟩
abbrev mX3_readPath : ax_Mi := (yX3_readPath, cX3_readPath, 6, none)
theorem hhX3_readPath : ax_hd mX3_readPath 0 := ⟨by decide +kernel, Nat.le_of_ble_eq_true rfl, ax_tbl_of 509 (by decide +kernel) rfl, ax_tbl_of 3 (by decide +kernel) rfl⟩
abbrev mX3_readPeriod : ax_Mi := (yX3_readPeriod, cX3_readPeriod, 1, none)
theorem hhX3_readPeriod : ax_hd mX3_readPeriod 0 := ⟨by decide +kernel, Nat.le_of_ble_eq_true rfl, ax_tbl_of 464 (by decide +kernel) rfl, ax_tbl_of 3 (by decide +kernel) rfl⟩
abbrev mX3_readPhase : ax_Mi := (yX3_readPhase, cX3_readPhase, 5, none)
theorem hhX3_readPhase : ax_hd mX3_readPhase 0 := ⟨by decide +kernel, Nat.le_of_ble_eq_true rfl, ax_tbl_of 484 (by decide +kernel) rfl, ax_tbl_of 3 (by decide +kernel) rfl⟩
abbrev mX3_readSeed : ax_Mi := (yX3_readSeed, cX3_readSeed, 1, none)
theorem hhX3_readSeed : ax_hd mX3_readSeed 0 := ⟨by decide +kernel, Nat.le_of_ble_eq_true rfl, ax_tbl_of 521 (by decide +kernel) rfl, ax_tbl_of 3 (by decide +kernel) rfl⟩
abbrev mX3_readSkew : ax_Mi := (yX3_readSkew, cX3_readSkew, 1, none)
theorem hhX3_readSkew : ax_hd mX3_readSkew 0 := ⟨by decide +kernel, Nat.le_of_ble_eq_true rfl, ax_tbl_of 517 (by decide +kernel) rfl, ax_tbl_of 3 (by decide +kernel) rfl⟩
abbrev mX3_readStop : ax_Mi := (yX3_readStop, cX3_readStop, 1, none)
theorem hhX3_readStop : ax_hd mX3_readStop 0 := ⟨by decide +kernel, Nat.le_of_ble_eq_true rfl, ax_tbl_of 480 (by decide +kernel) rfl, ax_tbl_of 3 (by decide +kernel) rfl⟩
abbrev mX3_readToken : ax_Mi := (yX3_readToken, cX3_readToken, 1, none)
theorem hhX3_readToken : ax_hd mX3_readToken 0 := ⟨by decide +kernel, Nat.le_of_ble_eq_true rfl, ax_tbl_of 441 (by decide +kernel) rfl, ax_tbl_of 3 (by decide +kernel) rfl⟩
abbrev mX3_readWord : ax_Mi := (yX3_readWord, cX3_readWord, 2, none)
theorem hhX3_readWord : ax_hd mX3_readWord 0 := ⟨by decide +kernel, Nat.le_of_ble_eq_true rfl, ax_tbl_of 448 (by decide +kernel) rfl, ax_tbl_of 3 (by decide +kernel) rfl⟩
abbrev mX3_refuse : ax_Mi := (yX3_refuse, cX3_refuse, 2, none)
theorem hhX3_refuse : ax_hd mX3_refuse 1 := ⟨by decide +kernel, Nat.le_of_ble_eq_true rfl, ax_tbl_of 472 (by decide +kernel) rfl, ax_tbl_of 3 (by decide +kernel) rfl⟩
abbrev mX3_refuseIf : ax_Mi := (yX3_refuseIf, cX3_refuseIf, 3, none)
theorem hhX3_refuseIf : ax_hd mX3_refuseIf 2 := ⟨by decide +kernel, Nat.le_of_ble_eq_true rfl, ax_tbl_of 468 (by decide +kernel) rfl, ax_tbl_of 3 (by decide +kernel) rfl⟩
abbrev mX4_bestMoving : ax_Mi := (yX4_bestMoving, cX4_bestMoving, 8, (some .int))
theorem hhX4_bestMoving : ax_hd mX4_bestMoving 1 := ⟨by decide +kernel, Nat.le_of_ble_eq_true rfl, ax_tbl_of 948 (by decide +kernel) rfl, ax_tbl_of 8 (by decide +kernel) rfl⟩
abbrev mX4_bestOpening : ax_Mi := (yX4_bestOpening, cX4_bestOpening, 8, (some .int))
theorem hhX4_bestOpening : ax_hd mX4_bestOpening 2 := ⟨by decide +kernel, Nat.le_of_ble_eq_true rfl, ax_tbl_of 894 (by decide +kernel) rfl, ax_tbl_of 8 (by decide +kernel) rfl⟩
abbrev mX4_byChance : ax_Mi := (yX4_byChance, cX4_byChance, 7, (some .int))
theorem hhX4_byChance : ax_hd mX4_byChance 3 := ⟨by decide +kernel, Nat.le_of_ble_eq_true rfl, ax_tbl_of 1027 (by decide +kernel) rfl, ax_tbl_of 8 (by decide +kernel) rfl⟩
abbrev mX4_drawDelays : ax_Mi := (yX4_drawDelays, cX4_drawDelays, 5, (some .int))
theorem hhX4_drawDelays : ax_hd mX4_drawDelays 1 := ⟨by decide +kernel, Nat.le_of_ble_eq_true rfl, ax_tbl_of 1031 (by decide +kernel) rfl, ax_tbl_of 8 (by decide +kernel) rfl⟩
abbrev mX4_drawnIsForever : ax_Mi := (yX4_drawnIsForever, cX4_drawnIsForever, 1, (some .boolean))
theorem hhX4_drawnIsForever : ax_hd mX4_drawnIsForever 0 := ⟨by decide +kernel, Nat.le_of_ble_eq_true rfl, ax_tbl_of 1045 (by decide +kernel) rfl, ax_tbl_of 8 (by decide +kernel) rfl⟩
abbrev mX4_drawnIsGood : ax_Mi := (yX4_drawnIsGood, cX4_drawnIsGood, 1, (some .boolean))
theorem hhX4_drawnIsGood : ax_hd mX4_drawnIsGood 0 := ⟨by decide +kernel, Nat.le_of_ble_eq_true rfl, ax_tbl_of 1041 (by decide +kernel) rfl, ax_tbl_of 8 (by decide +kernel) rfl⟩
abbrev mX4_gainOf : ax_Mi := (yX4_gainOf, cX4_gainOf, 5, (some .int))
theorem hhX4_gainOf : ax_hd mX4_gainOf 1 := ⟨by decide +kernel, Nat.le_of_ble_eq_true rfl, ax_tbl_of 917 (by decide +kernel) rfl, ax_tbl_of 8 (by decide +kernel) rfl⟩
abbrev mX4_isGoodAt : ax_Mi := (yX4_isGoodAt, cX4_isGoodAt, 2, (some .boolean))
theorem hhX4_isGoodAt : ax_hd mX4_isGoodAt 1 := ⟨by decide +kernel, Nat.le_of_ble_eq_true rfl, ax_tbl_of 905 (by decide +kernel) rfl, ax_tbl_of 8 (by decide +kernel) rfl⟩
abbrev mX4_moveNearZero : ax_Mi := (yX4_moveNearZero, cX4_moveNearZero, 10, (some .int))
theorem hhX4_moveNearZero : ax_hd mX4_moveNearZero 2 := ⟨by decide +kernel, Nat.le_of_ble_eq_true rfl, ax_tbl_of 952 (by decide +kernel) rfl, ax_tbl_of 8 (by decide +kernel) rfl⟩
abbrev mX4_periodByFullShifts : ax_Mi := (yX4_periodByFullShifts, cX4_periodByFullShifts, 2, (some .int))
theorem hhX4_periodByFullShifts : ax_hd mX4_periodByFullShifts 0 := ⟨by decide +kernel, Nat.le_of_ble_eq_true rfl, ax_tbl_of 898 (by decide +kernel) rfl, ax_tbl_of 8 (by decide +kernel) rfl⟩
abbrev mX4_periodFrom : ax_Mi := (yX4_periodFrom, cX4_periodFrom, 2, (some .int))
theorem hhX4_periodFrom : ax_hd mX4_periodFrom 1 := ⟨by decide +kernel, Nat.le_of_ble_eq_true rfl, ax_tbl_of 1037 (by decide +kernel) rfl, ax_tbl_of 8 (by decide +kernel) rfl⟩
abbrev mX4_shortestPeriod : ax_Mi := (yX4_shortestPeriod, cX4_shortestPeriod, 1, (some .int))
theorem hhX4_shortestPeriod : ax_hd mX4_shortestPeriod 0 := ⟨by decide +kernel, Nat.le_of_ble_eq_true rfl, ax_tbl_of 821 (by decide +kernel) rfl, ax_tbl_of 8 (by decide +kernel) rfl⟩
abbrev mX4_slowestDelay : ax_Mi := (yX4_slowestDelay, cX4_slowestDelay, 6, (some .int))
theorem hhX4_slowestDelay : ax_hd mX4_slowestDelay 1 := ⟨by decide +kernel, Nat.le_of_ble_eq_true rfl, ax_tbl_of 875 (by decide +kernel) rfl, ax_tbl_of 8 (by decide +kernel) rfl⟩
abbrev mX5_borrowing : ax_Mi := (yX5_borrowing, cX5_borrowing, 3, (some .int))
theorem hhX5_borrowing : ax_hd mX5_borrowing 0 := ⟨by decide +kernel, Nat.le_of_ble_eq_true rfl, ax_tbl_of 714 (by decide +kernel) rfl, ax_tbl_of 5 (by decide +kernel) rfl⟩
abbrev mX5_chained : ax_Mi := (yX5_chained, cX5_chained, 7, (some .int))
theorem hhX5_chained : ax_hd mX5_chained 2 := ⟨by decide +kernel, Nat.le_of_ble_eq_true rfl, ax_tbl_of 705 (by decide +kernel) rfl, ax_tbl_of 5 (by decide +kernel) rfl⟩
abbrev mX5_comesBy : ax_Mi := (yX5_comesBy, cX5_comesBy, 2, (some .int))
theorem hhX5_comesBy : ax_hd mX5_comesBy 1 := ⟨by decide +kernel, Nat.le_of_ble_eq_true rfl, ax_tbl_of 697 (by decide +kernel) rfl, ax_tbl_of 5 (by decide +kernel) rfl⟩
abbrev mX5_isForever : ax_Mi := (yX5_isForever, cX5_isForever, 1, (some .boolean))
theorem hhX5_isForever : ax_hd mX5_isForever 0 := ⟨by decide +kernel, Nat.le_of_ble_eq_true rfl, ax_tbl_of 636 (by decide +kernel) rfl, ax_tbl_of 5 (by decide +kernel) rfl⟩
abbrev mX5_latestPath : ax_Mi := (yX5_latestPath, cX5_latestPath, 3, (some .int))
theorem hhX5_latestPath : ax_hd mX5_latestPath 1 := ⟨by decide +kernel, Nat.le_of_ble_eq_true rfl, ax_tbl_of 693 (by decide +kernel) rfl, ax_tbl_of 5 (by decide +kernel) rfl⟩
abbrev mX5_narrowest : ax_Mi := (yX5_narrowest, cX5_narrowest, 4, (some .int))
theorem hhX5_narrowest : ax_hd mX5_narrowest 1 := ⟨by decide +kernel, Nat.le_of_ble_eq_true rfl, ax_tbl_of 968 (by decide +kernel) rfl, ax_tbl_of 5 (by decide +kernel) rfl⟩
abbrev mX5_pathByRoom : ax_Mi := (yX5_pathByRoom, cX5_pathByRoom, 5, (some .int))
theorem hhX5_pathByRoom : ax_hd mX5_pathByRoom 1 := ⟨by decide +kernel, Nat.le_of_ble_eq_true rfl, ax_tbl_of 995 (by decide +kernel) rfl, ax_tbl_of 5 (by decide +kernel) rfl⟩
abbrev mX5_possibleFlops : ax_Mi := (yX5_possibleFlops, cX5_possibleFlops, 4, (some .int))
theorem hhX5_possibleFlops : ax_hd mX5_possibleFlops 0 := ⟨by decide +kernel, Nat.le_of_ble_eq_true rfl, ax_tbl_of 979 (by decide +kernel) rfl, ax_tbl_of 5 (by decide +kernel) rfl⟩
abbrev mX5_roomBy : ax_Mi := (yX5_roomBy, cX5_roomBy, 2, (some .int))
theorem hhX5_roomBy : ax_hd mX5_roomBy 1 := ⟨by decide +kernel, Nat.le_of_ble_eq_true rfl, ax_tbl_of 987 (by decide +kernel) rfl, ax_tbl_of 5 (by decide +kernel) rfl⟩
abbrev mX5_roomOf : ax_Mi := (yX5_roomOf, cX5_roomOf, 2, (some .int))
theorem hhX5_roomOf : ax_hd mX5_roomOf 1 := ⟨by decide +kernel, Nat.le_of_ble_eq_true rfl, ax_tbl_of 677 (by decide +kernel) rfl, ax_tbl_of 5 (by decide +kernel) rfl⟩
abbrev mX5_settle : ax_Mi := (yX5_settle, cX5_settle, 6, (some .boolean))
theorem hhX5_settle : ax_hd mX5_settle 0 := ⟨by decide +kernel, Nat.le_of_ble_eq_true rfl, ax_tbl_of 649 (by decide +kernel) rfl, ax_tbl_of 5 (by decide +kernel) rfl⟩
abbrev mX5_unmet : ax_Mi := (yX5_unmet, cX5_unmet, 3, (some .int))
theorem hhX5_unmet : ax_hd mX5_unmet 0 := ⟨by decide +kernel, Nat.le_of_ble_eq_true rfl, ax_tbl_of 718 (by decide +kernel) rfl, ax_tbl_of 5 (by decide +kernel) rfl⟩
abbrev mX6_addToCut : ax_Mi := (yX6_addToCut, cX6_addToCut, 2, (some .int))
theorem hhX6_addToCut : ax_hd mX6_addToCut 1 := ⟨by decide +kernel, Nat.le_of_ble_eq_true rfl, ax_tbl_of 857 (by decide +kernel) rfl, ax_tbl_of 9 (by decide +kernel) rfl⟩
abbrev mX6_begin : ax_Mi := (yX6_begin, cX6_begin, 3, (some .boolean))
theorem hhX6_begin : ax_hd mX6_begin 1 := ⟨by decide +kernel, Nat.le_of_ble_eq_true rfl, ax_tbl_of 839 (by decide +kernel) rfl, ax_tbl_of 9 (by decide +kernel) rfl⟩
abbrev mX6_beyond : ax_Mi := (yX6_beyond, cX6_beyond, 2, (some .int))
theorem hhX6_beyond : ax_hd mX6_beyond 1 := ⟨by decide +kernel, Nat.le_of_ble_eq_true rfl, ax_tbl_of 884 (by decide +kernel) rfl, ax_tbl_of 9 (by decide +kernel) rfl⟩
abbrev mX6_cutAt : ax_Mi := (yX6_cutAt, cX6_cutAt, 4, none)
theorem hhX6_cutAt : ax_hd mX6_cutAt 1 := ⟨by decide +kernel, Nat.le_of_ble_eq_true rfl, ax_tbl_of 853 (by decide +kernel) rfl, ax_tbl_of 9 (by decide +kernel) rfl⟩
abbrev mX6_cutHas : ax_Mi := (yX6_cutHas, cX6_cutHas, 3, (some .boolean))
theorem hhX6_cutHas : ax_hd mX6_cutHas 1 := ⟨by decide +kernel, Nat.le_of_ble_eq_true rfl, ax_tbl_of 880 (by decide +kernel) rfl, ax_tbl_of 9 (by decide +kernel) rfl⟩
abbrev mX6_cutLoop : ax_Mi := (yX6_cutLoop, cX6_cutLoop, 4, none)
theorem hhX6_cutLoop : ax_hd mX6_cutLoop 1 := ⟨by decide +kernel, Nat.le_of_ble_eq_true rfl, ax_tbl_of 861 (by decide +kernel) rfl, ax_tbl_of 9 (by decide +kernel) rfl⟩
abbrev mX6_cutSlope : ax_Mi := (yX6_cutSlope, cX6_cutSlope, 4, (some .int))
theorem hhX6_cutSlope : ax_hd mX6_cutSlope 1 := ⟨by decide +kernel, Nat.le_of_ble_eq_true rfl, ax_tbl_of 960 (by decide +kernel) rfl, ax_tbl_of 9 (by decide +kernel) rfl⟩
abbrev mX6_cutSpan : ax_Mi := (yX6_cutSpan, cX6_cutSpan, 3, (some .int))
theorem hhX6_cutSpan : ax_hd mX6_cutSpan 0 := ⟨by decide +kernel, Nat.le_of_ble_eq_true rfl, ax_tbl_of 865 (by decide +kernel) rfl, ax_tbl_of 9 (by decide +kernel) rfl⟩
abbrev mX6_endCut : ax_Mi := (yX6_endCut, cX6_endCut, 2, none)
theorem hhX6_endCut : ax_hd mX6_endCut 1 := ⟨by decide +kernel, Nat.le_of_ble_eq_true rfl, ax_tbl_of 849 (by decide +kernel) rfl, ax_tbl_of 9 (by decide +kernel) rfl⟩
abbrev mX6_firstGood : ax_Mi := (yX6_firstGood, cX6_firstGood, 5, (some .int))
theorem hhX6_firstGood : ax_hd mX6_firstGood 2 := ⟨by decide +kernel, Nat.le_of_ble_eq_true rfl, ax_tbl_of 831 (by decide +kernel) rfl, ax_tbl_of 9 (by decide +kernel) rfl⟩
abbrev mX6_forgetCut : ax_Mi := (yX6_forgetCut, cX6_forgetCut, 1, none)
theorem hhX6_forgetCut : ax_hd mX6_forgetCut 0 := ⟨by decide +kernel, Nat.le_of_ble_eq_true rfl, ax_tbl_of 845 (by decide +kernel) rfl, ax_tbl_of 9 (by decide +kernel) rfl⟩
abbrev mX6_holds : ax_Mi := (yX6_holds, cX6_holds, 7, (some .boolean))
theorem hhX6_holds : ax_hd mX6_holds 1 := ⟨by decide +kernel, Nat.le_of_ble_eq_true rfl, ax_tbl_of 835 (by decide +kernel) rfl, ax_tbl_of 9 (by decide +kernel) rfl⟩
abbrev mX6_load : ax_Mi := (yX6_load, cX6_load, 2, none)
theorem hhX6_load : ax_hd mX6_load 0 := ⟨by decide +kernel, Nat.le_of_ble_eq_true rfl, ax_tbl_of 825 (by decide +kernel) rfl, ax_tbl_of 9 (by decide +kernel) rfl⟩
abbrev mX7_firstUnmet : ax_Mi := (yX7_firstUnmet, cX7_firstUnmet, 4, (some .int))
theorem hhX7_firstUnmet : ax_hd mX7_firstUnmet 1 := ⟨by decide +kernel, Nat.le_of_ble_eq_true rfl, ax_tbl_of 779 (by decide +kernel) rfl, ax_tbl_of 6 (by decide +kernel) rfl⟩
abbrev mX7_leavesAt : ax_Mi := (yX7_leavesAt, cX7_leavesAt, 4, (some .int))
theorem hhX7_leavesAt : ax_hd mX7_leavesAt 2 := ⟨by decide +kernel, Nat.le_of_ble_eq_true rfl, ax_tbl_of 759 (by decide +kernel) rfl, ax_tbl_of 6 (by decide +kernel) rfl⟩
abbrev mX7_rest : ax_Mi := (yX7_rest, cX7_rest, 1, none)
theorem hhX7_rest : ax_hd mX7_rest 0 := ⟨by decide +kernel, Nat.le_of_ble_eq_true rfl, ax_tbl_of 763 (by decide +kernel) rfl, ax_tbl_of 6 (by decide +kernel) rfl⟩
abbrev mX7_step : ax_Mi := (yX7_step, cX7_step, 4, (some .boolean))
theorem hhX7_step : ax_hd mX7_step 0 := ⟨by decide +kernel, Nat.le_of_ble_eq_true rfl, ax_tbl_of 769 (by decide +kernel) rfl, ax_tbl_of 6 (by decide +kernel) rfl⟩
abbrev mX8_back : ax_Mi := (yX8_back, cX8_back, 1, (some .int))
theorem hhX8_back : ax_hd mX8_back 0 := ⟨by decide +kernel, Nat.le_of_ble_eq_true rfl, ax_tbl_of 1070 (by decide +kernel) rfl, ax_tbl_of 1 (by decide +kernel) rfl⟩
abbrev mX8_beginChange : ax_Mi := (yX8_beginChange, cX8_beginChange, 1, none)
theorem hhX8_beginChange : ax_hd mX8_beginChange 0 := ⟨by decide +kernel, Nat.le_of_ble_eq_true rfl, ax_tbl_of 554 (by decide +kernel) rfl, ax_tbl_of 1 (by decide +kernel) rfl⟩
abbrev mX8_bestMove : ax_Mi := (yX8_bestMove, cX8_bestMove, 2, (some .int))
theorem hhX8_bestMove : ax_hd mX8_bestMove 1 := ⟨by decide +kernel, Nat.le_of_ble_eq_true rfl, ax_tbl_of 944 (by decide +kernel) rfl, ax_tbl_of 1 (by decide +kernel) rfl⟩
abbrev mX8_bestOpens : ax_Mi := (yX8_bestOpens, cX8_bestOpens, 2, (some .int))
theorem hhX8_bestOpens : ax_hd mX8_bestOpens 1 := ⟨by decide +kernel, Nat.le_of_ble_eq_true rfl, ax_tbl_of 890 (by decide +kernel) rfl, ax_tbl_of 1 (by decide +kernel) rfl⟩
abbrev mX8_bestTwo : ax_Mi := (yX8_bestTwo, cX8_bestTwo, 3, (some .int))
theorem hhX8_bestTwo : ax_hd mX8_bestTwo 2 := ⟨by decide +kernel, Nat.le_of_ble_eq_true rfl, ax_tbl_of 909 (by decide +kernel) rfl, ax_tbl_of 1 (by decide +kernel) rfl⟩
abbrev mX8_breaks : ax_Mi := (yX8_breaks, cX8_breaks, 1, (some .int))
theorem hhX8_breaks : ax_hd mX8_breaks 0 := ⟨by decide +kernel, Nat.le_of_ble_eq_true rfl, ax_tbl_of 922 (by decide +kernel) rfl, ax_tbl_of 1 (by decide +kernel) rfl⟩
abbrev mX8_chain : ax_Mi := (yX8_chain, cX8_chain, 3, (some .int))
theorem hhX8_chain : ax_hd mX8_chain 2 := ⟨by decide +kernel, Nat.le_of_ble_eq_true rfl, ax_tbl_of 701 (by decide +kernel) rfl, ax_tbl_of 1 (by decide +kernel) rfl⟩
abbrev mX8_chance : ax_Mi := (yX8_chance, cX8_chance, 4, (some .int))
theorem hhX8_chance : ax_hd mX8_chance 3 := ⟨by decide +kernel, Nat.le_of_ble_eq_true rfl, ax_tbl_of 1023 (by decide +kernel) rfl, ax_tbl_of 1 (by decide +kernel) rfl⟩
abbrev mX8_comes : ax_Mi := (yX8_comes, cX8_comes, 2, (some .long))
theorem hhX8_comes : ax_hd mX8_comes 1 := ⟨by decide +kernel, Nat.le_of_ble_eq_true rfl, ax_tbl_of 668 (by decide +kernel) rfl, ax_tbl_of 1 (by decide +kernel) rfl⟩
abbrev mX8_count : ax_Mi := (yX8_count, cX8_count, 2, (some .int))
theorem hhX8_count : ax_hd mX8_count 1 := ⟨by decide +kernel, Nat.le_of_ble_eq_true rfl, ax_tbl_of 1078 (by decide +kernel) rfl, ax_tbl_of 1 (by decide +kernel) rfl⟩
abbrev mX8_delay : ax_Mi := (yX8_delay, cX8_delay, 4, (some .boolean))
theorem hhX8_delay : ax_hd mX8_delay 3 := ⟨by decide +kernel, Nat.le_of_ble_eq_true rfl, ax_tbl_of 575 (by decide +kernel) rfl, ax_tbl_of 1 (by decide +kernel) rfl⟩
abbrev mX8_event : ax_Mi := (yX8_event, cX8_event, 4, (some .int))
theorem hhX8_event : ax_hd mX8_event 2 := ⟨by decide +kernel, Nat.le_of_ble_eq_true rfl, ax_tbl_of 1000 (by decide +kernel) rfl, ax_tbl_of 1 (by decide +kernel) rfl⟩
abbrev mX8_fails : ax_Mi := (yX8_fails, cX8_fails, 2, (some .int))
theorem hhX8_fails : ax_hd mX8_fails 1 := ⟨by decide +kernel, Nat.le_of_ble_eq_true rfl, ax_tbl_of 775 (by decide +kernel) rfl, ax_tbl_of 1 (by decide +kernel) rfl⟩
abbrev mX8_fault : ax_Mi := (yX8_fault, cX8_fault, 2, (some .int))
theorem hhX8_fault : ax_hd mX8_fault 1 := ⟨by decide +kernel, Nat.le_of_ble_eq_true rfl, ax_tbl_of 541 (by decide +kernel) rfl, ax_tbl_of 1 (by decide +kernel) rfl⟩
abbrev mX8_feed : ax_Mi := (yX8_feed, cX8_feed, 6, (some .int))
theorem hhX8_feed : ax_hd mX8_feed 5 := ⟨by decide +kernel, Nat.le_of_ble_eq_true rfl, ax_tbl_of 418 (by decide +kernel) rfl, ax_tbl_of 1 (by decide +kernel) rfl⟩
abbrev mX8_find : ax_Mi := (yX8_find, cX8_find, 4, (some .int))
theorem hhX8_find : ax_hd mX8_find 3 := ⟨by decide +kernel, Nat.le_of_ble_eq_true rfl, ax_tbl_of 501 (by decide +kernel) rfl, ax_tbl_of 1 (by decide +kernel) rfl⟩
abbrev mX8_flop : ax_Mi := (yX8_flop, cX8_flop, 2, (some .int))
theorem hhX8_flop : ax_hd mX8_flop 1 := ⟨by decide +kernel, Nat.le_of_ble_eq_true rfl, ax_tbl_of 583 (by decide +kernel) rfl, ax_tbl_of 1 (by decide +kernel) rfl⟩
abbrev mX8_flops : ax_Mi := (yX8_flops, cX8_flops, 1, (some .int))
theorem hhX8_flops : ax_hd mX8_flops 0 := ⟨by decide +kernel, Nat.le_of_ble_eq_true rfl, ax_tbl_of 975 (by decide +kernel) rfl, ax_tbl_of 1 (by decide +kernel) rfl⟩
abbrev mX8_forgetAnswers : ax_Mi := (yX8_forgetAnswers, cX8_forgetAnswers, 1, none)
theorem hhX8_forgetAnswers : ax_hd mX8_forgetAnswers 0 := ⟨by decide +kernel, Nat.le_of_ble_eq_true rfl, ax_tbl_of 537 (by decide +kernel) rfl, ax_tbl_of 1 (by decide +kernel) rfl⟩
abbrev mX8_from : ax_Mi := (yX8_from, cX8_from, 3, (some .int))
theorem hhX8_from : ax_hd mX8_from 1 := ⟨by decide +kernel, Nat.le_of_ble_eq_true rfl, ax_tbl_of 689 (by decide +kernel) rfl, ax_tbl_of 1 (by decide +kernel) rfl⟩
abbrev mX8_gain : ax_Mi := (yX8_gain, cX8_gain, 2, (some .int))
theorem hhX8_gain : ax_hd mX8_gain 1 := ⟨by decide +kernel, Nat.le_of_ble_eq_true rfl, ax_tbl_of 913 (by decide +kernel) rfl, ax_tbl_of 1 (by decide +kernel) rfl⟩
abbrev mX8_gap : ax_Mi := (yX8_gap, cX8_gap, 2, (some .long))
theorem hhX8_gap : ax_hd mX8_gap 1 := ⟨by decide +kernel, Nat.le_of_ble_eq_true rfl, ax_tbl_of 727 (by decide +kernel) rfl, ax_tbl_of 1 (by decide +kernel) rfl⟩
abbrev mX8_good : ax_Mi := (yX8_good, cX8_good, 1, (some .int))
theorem hhX8_good : ax_hd mX8_good 0 := ⟨by decide +kernel, Nat.le_of_ble_eq_true rfl, ax_tbl_of 723 (by decide +kernel) rfl, ax_tbl_of 1 (by decide +kernel) rfl⟩
abbrev mX8_keep : ax_Mi := (yX8_keep, cX8_keep, 1, (some .int))
theorem hhX8_keep : ax_hd mX8_keep 0 := ⟨by decide +kernel, Nat.le_of_ble_eq_true rfl, ax_tbl_of 1062 (by decide +kernel) rfl, ax_tbl_of 1 (by decide +kernel) rfl⟩
abbrev mX8_leastPeriod : ax_Mi := (yX8_leastPeriod, cX8_leastPeriod, 2, (some .int))
theorem hhX8_leastPeriod : ax_hd mX8_leastPeriod 0 := ⟨by decide +kernel, Nat.le_of_ble_eq_true rfl, ax_tbl_of 817 (by decide +kernel) rfl, ax_tbl_of 1 (by decide +kernel) rfl⟩
abbrev mX8_leastWidth : ax_Mi := (yX8_leastWidth, cX8_leastWidth, 2, (some .int))
theorem hhX8_leastWidth : ax_hd mX8_leastWidth 1 := ⟨by decide +kernel, Nat.le_of_ble_eq_true rfl, ax_tbl_of 964 (by decide +kernel) rfl, ax_tbl_of 1 (by decide +kernel) rfl⟩
abbrev mX8_leaves : ax_Mi := (yX8_leaves, cX8_leaves, 2, (some .long))
theorem hhX8_leaves : ax_hd mX8_leaves 1 := ⟨by decide +kernel, Nat.le_of_ble_eq_true rfl, ax_tbl_of 631 (by decide +kernel) rfl, ax_tbl_of 1 (by decide +kernel) rfl⟩
abbrev mX8_loop : ax_Mi := (yX8_loop, cX8_loop, 2, (some .int))
theorem hhX8_loop : ax_hd mX8_loop 1 := ⟨by decide +kernel, Nat.le_of_ble_eq_true rfl, ax_tbl_of 813 (by decide +kernel) rfl, ax_tbl_of 1 (by decide +kernel) rfl⟩
abbrev mX8_move : ax_Mi := (yX8_move, cX8_move, 3, (some .boolean))
theorem hhX8_move : ax_hd mX8_move 2 := ⟨by decide +kernel, Nat.le_of_ble_eq_true rfl, ax_tbl_of 599 (by decide +kernel) rfl, ax_tbl_of 1 (by decide +kernel) rfl⟩
abbrev mX8_named : ax_Mi := (yX8_named, cX8_named, 3, (some .int))
theorem hhX8_named : ax_hd mX8_named 2 := ⟨by decide +kernel, Nat.le_of_ble_eq_true rfl, ax_tbl_of 545 (by decide +kernel) rfl, ax_tbl_of 1 (by decide +kernel) rfl⟩
abbrev mX8_near : ax_Mi := (yX8_near, cX8_near, 2, (some .long))
theorem hhX8_near : ax_hd mX8_near 1 := ⟨by decide +kernel, Nat.le_of_ble_eq_true rfl, ax_tbl_of 983 (by decide +kernel) rfl, ax_tbl_of 1 (by decide +kernel) rfl⟩
abbrev mX8_nearest : ax_Mi := (yX8_nearest, cX8_nearest, 2, (some .int))
theorem hhX8_nearest : ax_hd mX8_nearest 1 := ⟨by decide +kernel, Nat.le_of_ble_eq_true rfl, ax_tbl_of 991 (by decide +kernel) rfl, ax_tbl_of 1 (by decide +kernel) rfl⟩
abbrev mX8_open : ax_Mi := (yX8_open, cX8_open, 2, (some .int))
theorem hhX8_open : ax_hd mX8_open 1 := ⟨by decide +kernel, Nat.le_of_ble_eq_true rfl, ax_tbl_of 1012 (by decide +kernel) rfl, ax_tbl_of 1 (by decide +kernel) rfl⟩
abbrev mX8_opens : ax_Mi := (yX8_opens, cX8_opens, 3, (some .int))
theorem hhX8_opens : ax_hd mX8_opens 2 := ⟨by decide +kernel, Nat.le_of_ble_eq_true rfl, ax_tbl_of 627 (by decide +kernel) rfl, ax_tbl_of 1 (by decide +kernel) rfl⟩
abbrev mX8_pad : ax_Mi := (yX8_pad, cX8_pad, 2, (some .int))
theorem hhX8_pad : ax_hd mX8_pad 1 := ⟨by decide +kernel, Nat.le_of_ble_eq_true rfl, ax_tbl_of 735 (by decide +kernel) rfl, ax_tbl_of 1 (by decide +kernel) rfl⟩
abbrev mX8_pads : ax_Mi := (yX8_pads, cX8_pads, 3, (some .int))
theorem hhX8_pads : ax_hd mX8_pads 0 := ⟨by decide +kernel, Nat.le_of_ble_eq_true rfl, ax_tbl_of 751 (by decide +kernel) rfl, ax_tbl_of 1 (by decide +kernel) rfl⟩
abbrev mX8_path : ax_Mi := (yX8_path, cX8_path, 3, (some .int))
theorem hhX8_path : ax_hd mX8_path 2 := ⟨by decide +kernel, Nat.le_of_ble_eq_true rfl, ax_tbl_of 619 (by decide +kernel) rfl, ax_tbl_of 1 (by decide +kernel) rfl⟩
abbrev mX8_period : ax_Mi := (yX8_period, cX8_period, 3, (some .int))
theorem hhX8_period : ax_hd mX8_period 1 := ⟨by decide +kernel, Nat.le_of_ble_eq_true rfl, ax_tbl_of 550 (by decide +kernel) rfl, ax_tbl_of 1 (by decide +kernel) rfl⟩
abbrev mX8_phase : ax_Mi := (yX8_phase, cX8_phase, 4, (some .boolean))
theorem hhX8_phase : ax_hd mX8_phase 3 := ⟨by decide +kernel, Nat.le_of_ble_eq_true rfl, ax_tbl_of 567 (by decide +kernel) rfl, ax_tbl_of 1 (by decide +kernel) rfl⟩
abbrev mX8_putFour : ax_Mi := (yX8_putFour, cX8_putFour, 3, none)
theorem hhX8_putFour : ax_hd mX8_putFour 1 := ⟨by decide +kernel, Nat.le_of_ble_eq_true rfl, ax_tbl_of 422 (by decide +kernel) rfl, ax_tbl_of 1 (by decide +kernel) rfl⟩
abbrev mX8_ratio : ax_Mi := (yX8_ratio, cX8_ratio, 2, (some .long))
theorem hhX8_ratio : ax_hd mX8_ratio 1 := ⟨by decide +kernel, Nat.le_of_ble_eq_true rfl, ax_tbl_of 784 (by decide +kernel) rfl, ax_tbl_of 1 (by decide +kernel) rfl⟩
abbrev mX8_room : ax_Mi := (yX8_room, cX8_room, 2, (some .long))
theorem hhX8_room : ax_hd mX8_room 1 := ⟨by decide +kernel, Nat.le_of_ble_eq_true rfl, ax_tbl_of 673 (by decide +kernel) rfl, ax_tbl_of 1 (by decide +kernel) rfl⟩
abbrev mX8_roundedUp : ax_Mi := (yX8_roundedUp, cX8_roundedUp, 2, (some .int))
theorem hhX8_roundedUp : ax_hd mX8_roundedUp 2 := ⟨by decide +kernel, Nat.le_of_ble_eq_true rfl, ax_tbl_of 743 (by decide +kernel) rfl, ax_tbl_of 1 (by decide +kernel) rfl⟩
abbrev mX8_skew : ax_Mi := (yX8_skew, cX8_skew, 3, (some .int))
theorem hhX8_skew : ax_hd mX8_skew 1 := ⟨by decide +kernel, Nat.le_of_ble_eq_true rfl, ax_tbl_of 595 (by decide +kernel) rfl, ax_tbl_of 1 (by decide +kernel) rfl⟩
abbrev mX8_slower : ax_Mi := (yX8_slower, cX8_slower, 2, (some .int))
theorem hhX8_slower : ax_hd mX8_slower 1 := ⟨by decide +kernel, Nat.le_of_ble_eq_true rfl, ax_tbl_of 871 (by decide +kernel) rfl, ax_tbl_of 1 (by decide +kernel) rfl⟩
abbrev mX8_text : ax_Mi := (yX8_text, cX8_text, 2, (some .int))
theorem hhX8_text : ax_hd mX8_text 1 := ⟨by decide +kernel, Nat.le_of_ble_eq_true rfl, ax_tbl_of 426 (by decide +kernel) rfl, ax_tbl_of 1 (by decide +kernel) rfl⟩
abbrev mX8_undo : ax_Mi := (yX8_undo, cX8_undo, 1, (some .int))
theorem hhX8_undo : ax_hd mX8_undo 0 := ⟨by decide +kernel, Nat.le_of_ble_eq_true rfl, ax_tbl_of 1050 (by decide +kernel) rfl, ax_tbl_of 1 (by decide +kernel) rfl⟩
abbrev mX8_wave : ax_Mi := (yX8_wave, cX8_wave, 3, (some .long))
theorem hhX8_wave : ax_hd mX8_wave 2 := ⟨by decide +kernel, Nat.le_of_ble_eq_true rfl, ax_tbl_of 755 (by decide +kernel) rfl, ax_tbl_of 1 (by decide +kernel) rfl⟩
abbrev mX8_which : ax_Mi := (yX8_which, cX8_which, 2, (some .int))
theorem hhX8_which : ax_hd mX8_which 1 := ⟨by decide +kernel, Nat.le_of_ble_eq_true rfl, ax_tbl_of 710 (by decide +kernel) rfl, ax_tbl_of 1 (by decide +kernel) rfl⟩
abbrev mX9_back : ax_Mi := (yX9_back, cX9_back, 1, (some .int))
theorem hhX9_back : ax_hd mX9_back 0 := ⟨by decide +kernel, Nat.le_of_ble_eq_true rfl, ax_tbl_of 1517 (by decide +kernel) rfl, ax_tbl_of 10 (by decide +kernel) rfl⟩
abbrev mX9_begins : ax_Mi := (yX9_begins, cX9_begins, 2, none)
theorem hhX9_begins : ax_hd mX9_begins 0 := ⟨by decide +kernel, Nat.le_of_ble_eq_true rfl, ax_tbl_of 1201 (by decide +kernel) rfl, ax_tbl_of 10 (by decide +kernel) rfl⟩
abbrev mX9_bestMove : ax_Mi := (yX9_bestMove, cX9_bestMove, 7, (some .int))
theorem hhX9_bestMove : ax_hd mX9_bestMove 1 := ⟨by decide +kernel, Nat.le_of_ble_eq_true rfl, ax_tbl_of 1754 (by decide +kernel) rfl, ax_tbl_of 10 (by decide +kernel) rfl⟩
abbrev mX9_bestOpens : ax_Mi := (yX9_bestOpens, cX9_bestOpens, 7, (some .int))
theorem hhX9_bestOpens : ax_hd mX9_bestOpens 1 := ⟨by decide +kernel, Nat.le_of_ble_eq_true rfl, ax_tbl_of 1742 (by decide +kernel) rfl, ax_tbl_of 10 (by decide +kernel) rfl⟩
abbrev mX9_bestTwo : ax_Mi := (yX9_bestTwo, cX9_bestTwo, 9, (some .int))
theorem hhX9_bestTwo : ax_hd mX9_bestTwo 2 := ⟨by decide +kernel, Nat.le_of_ble_eq_true rfl, ax_tbl_of 1746 (by decide +kernel) rfl, ax_tbl_of 10 (by decide +kernel) rfl⟩
abbrev mX9_bits : ax_Mi := (yX9_bits, cX9_bits, 3, (some .int))
theorem hhX9_bits : ax_hd mX9_bits 1 := ⟨by decide +kernel, Nat.le_of_ble_eq_true rfl, ax_tbl_of 1761 (by decide +kernel) rfl, ax_tbl_of 10 (by decide +kernel) rfl⟩
abbrev mX9_breaks : ax_Mi := (yX9_breaks, cX9_breaks, 4, (some .int))
theorem hhX9_breaks : ax_hd mX9_breaks 0 := ⟨by decide +kernel, Nat.le_of_ble_eq_true rfl, ax_tbl_of 1758 (by decide +kernel) rfl, ax_tbl_of 10 (by decide +kernel) rfl⟩
abbrev mX9_canMove : ax_Mi := (yX9_canMove, cX9_canMove, 5, (some .boolean))
theorem hhX9_canMove : ax_hd mX9_canMove 2 := ⟨by decide +kernel, Nat.le_of_ble_eq_true rfl, ax_tbl_of 1541 (by decide +kernel) rfl, ax_tbl_of 10 (by decide +kernel) rfl⟩
abbrev mX9_cell : ax_Mi := (yX9_cell, cX9_cell, 3, (some .int))
theorem hhX9_cell : ax_hd mX9_cell 2 := ⟨by decide +kernel, Nat.le_of_ble_eq_true rfl, ax_tbl_of 1573 (by decide +kernel) rfl, ax_tbl_of 10 (by decide +kernel) rfl⟩
abbrev mX9_cells : ax_Mi := (yX9_cells, cX9_cells, 1, (some .int))
theorem hhX9_cells : ax_hd mX9_cells 0 := ⟨by decide +kernel, Nat.le_of_ble_eq_true rfl, ax_tbl_of 1209 (by decide +kernel) rfl, ax_tbl_of 10 (by decide +kernel) rfl⟩
abbrev mX9_chain : ax_Mi := (yX9_chain, cX9_chain, 3, (some .int))
theorem hhX9_chain : ax_hd mX9_chain 2 := ⟨by decide +kernel, Nat.le_of_ble_eq_true rfl, ax_tbl_of 1654 (by decide +kernel) rfl, ax_tbl_of 10 (by decide +kernel) rfl⟩
abbrev mX9_chance : ax_Mi := (yX9_chance, cX9_chance, 9, (some .int))
theorem hhX9_chance : ax_hd mX9_chance 3 := ⟨by decide +kernel, Nat.le_of_ble_eq_true rfl, ax_tbl_of 1805 (by decide +kernel) rfl, ax_tbl_of 10 (by decide +kernel) rfl⟩
abbrev mX9_comes : ax_Mi := (yX9_comes, cX9_comes, 2, (some .long))
theorem hhX9_comes : ax_hd mX9_comes 1 := ⟨by decide +kernel, Nat.le_of_ble_eq_true rfl, ax_tbl_of 1633 (by decide +kernel) rfl, ax_tbl_of 10 (by decide +kernel) rfl⟩
abbrev mX9_comesBy : ax_Mi := (yX9_comesBy, cX9_comesBy, 3, (some .long))
theorem hhX9_comesBy : ax_hd mX9_comesBy 2 := ⟨by decide +kernel, Nat.le_of_ble_eq_true rfl, ax_tbl_of 1619 (by decide +kernel) rfl, ax_tbl_of 10 (by decide +kernel) rfl⟩
abbrev mX9_comesTo : ax_Mi := (yX9_comesTo, cX9_comesTo, 9, (some .long))
theorem hhX9_comesTo : ax_hd mX9_comesTo 2 := ⟨by decide +kernel, Nat.le_of_ble_eq_true rfl, ax_tbl_of 1610 (by decide +kernel) rfl, ax_tbl_of 10 (by decide +kernel) rfl⟩
abbrev mX9_count : ax_Mi := (yX9_count, cX9_count, 2, (some .int))
theorem hhX9_count : ax_hd mX9_count 1 := ⟨by decide +kernel, Nat.le_of_ble_eq_true rfl, ax_tbl_of 1815 (by decide +kernel) rfl, ax_tbl_of 10 (by decide +kernel) rfl⟩
abbrev mX9_delay : ax_Mi := (yX9_delay, cX9_delay, 4, (some .boolean))
theorem hhX9_delay : ax_hd mX9_delay 3 := ⟨by decide +kernel, Nat.le_of_ble_eq_true rfl, ax_tbl_of 1561 (by decide +kernel) rfl, ax_tbl_of 10 (by decide +kernel) rfl⟩
abbrev mX9_divisor : ax_Mi := (yX9_divisor, cX9_divisor, 10, (some .long))
theorem hhX9_divisor : ax_hd mX9_divisor 2 := ⟨by decide +kernel, Nat.le_of_ble_eq_true rfl, ax_tbl_of 1722 (by decide +kernel) rfl, ax_tbl_of 10 (by decide +kernel) rfl⟩
abbrev mX9_draw : ax_Mi := (yX9_draw, cX9_draw, 2, (some .int))
theorem hhX9_draw : ax_hd mX9_draw 1 := ⟨by decide +kernel, Nat.le_of_ble_eq_true rfl, ax_tbl_of 1809 (by decide +kernel) rfl, ax_tbl_of 10 (by decide +kernel) rfl⟩
abbrev mX9_event : ax_Mi := (yX9_event, cX9_event, 6, (some .int))
theorem hhX9_event : ax_hd mX9_event 2 := ⟨by decide +kernel, Nat.le_of_ble_eq_true rfl, ax_tbl_of 1793 (by decide +kernel) rfl, ax_tbl_of 10 (by decide +kernel) rfl⟩
abbrev mX9_fails : ax_Mi := (yX9_fails, cX9_fails, 3, (some .int))
theorem hhX9_fails : ax_hd mX9_fails 1 := ⟨by decide +kernel, Nat.le_of_ble_eq_true rfl, ax_tbl_of 1699 (by decide +kernel) rfl, ax_tbl_of 10 (by decide +kernel) rfl⟩
abbrev mX9_fault : ax_Mi := (yX9_fault, cX9_fault, 2, (some .int))
theorem hhX9_fault : ax_hd mX9_fault 1 := ⟨by decide +kernel, Nat.le_of_ble_eq_true rfl, ax_tbl_of 1493 (by decide +kernel) rfl, ax_tbl_of 10 (by decide +kernel) rfl⟩
abbrev mX9_feed : ax_Mi := (yX9_feed, cX9_feed, 8, (some .int))
theorem hhX9_feed : ax_hd mX9_feed 5 := ⟨by decide +kernel, Nat.le_of_ble_eq_true rfl, ax_tbl_of 1362 (by decide +kernel) rfl, ax_tbl_of 10 (by decide +kernel) rfl⟩
abbrev mX9_flop : ax_Mi := (yX9_flop, cX9_flop, 2, (some .int))
theorem hhX9_flop : ax_hd mX9_flop 1 := ⟨by decide +kernel, Nat.le_of_ble_eq_true rfl, ax_tbl_of 1569 (by decide +kernel) rfl, ax_tbl_of 10 (by decide +kernel) rfl⟩
abbrev mX9_flopMany : ax_Mi := (yX9_flopMany, cX9_flopMany, 3, (some .int))
theorem hhX9_flopMany : ax_hd mX9_flopMany 0 := ⟨by decide +kernel, Nat.le_of_ble_eq_true rfl, ax_tbl_of 1819 (by decide +kernel) rfl, ax_tbl_of 10 (by decide +kernel) rfl⟩
abbrev mX9_flops : ax_Mi := (yX9_flops, cX9_flops, 4, (some .int))
theorem hhX9_flops : ax_hd mX9_flops 0 := ⟨by decide +kernel, Nat.le_of_ble_eq_true rfl, ax_tbl_of 1777 (by decide +kernel) rfl, ax_tbl_of 10 (by decide +kernel) rfl⟩
abbrev mX9_foundIn : ax_Mi := (yX9_foundIn, cX9_foundIn, 5, (some .int))
theorem hhX9_foundIn : ax_hd mX9_foundIn 4 := ⟨by decide +kernel, Nat.le_of_ble_eq_true rfl, ax_tbl_of 1473 (by decide +kernel) rfl, ax_tbl_of 10 (by decide +kernel) rfl⟩
abbrev mX9_freshText : ax_Mi := (yX9_freshText, cX9_freshText, 2, none)
theorem hhX9_freshText : ax_hd mX9_freshText 0 := ⟨by decide +kernel, Nat.le_of_ble_eq_true rfl, ax_tbl_of 1185 (by decide +kernel) rfl, ax_tbl_of 10 (by decide +kernel) rfl⟩
abbrev mX9_from : ax_Mi := (yX9_from, cX9_from, 2, (some .int))
theorem hhX9_from : ax_hd mX9_from 1 := ⟨by decide +kernel, Nat.le_of_ble_eq_true rfl, ax_tbl_of 1646 (by decide +kernel) rfl, ax_tbl_of 10 (by decide +kernel) rfl⟩
abbrev mX9_gain : ax_Mi := (yX9_gain, cX9_gain, 5, (some .int))
theorem hhX9_gain : ax_hd mX9_gain 1 := ⟨by decide +kernel, Nat.le_of_ble_eq_true rfl, ax_tbl_of 1750 (by decide +kernel) rfl, ax_tbl_of 10 (by decide +kernel) rfl⟩
abbrev mX9_gap : ax_Mi := (yX9_gap, cX9_gap, 2, (some .long))
theorem hhX9_gap : ax_hd mX9_gap 1 := ⟨by decide +kernel, Nat.le_of_ble_eq_true rfl, ax_tbl_of 1674 (by decide +kernel) rfl, ax_tbl_of 10 (by decide +kernel) rfl⟩
abbrev mX9_gapOf : ax_Mi := (yX9_gapOf, cX9_gapOf, 6, (some .long))
theorem hhX9_gapOf : ax_hd mX9_gapOf 1 := ⟨by decide +kernel, Nat.le_of_ble_eq_true rfl, ax_tbl_of 1678 (by decide +kernel) rfl, ax_tbl_of 10 (by decide +kernel) rfl⟩
abbrev mX9_goOn : ax_Mi := (yX9_goOn, cX9_goOn, 1, none)
theorem hhX9_goOn : ax_hd mX9_goOn 0 := ⟨by decide +kernel, Nat.le_of_ble_eq_true rfl, ax_tbl_of 1458 (by decide +kernel) rfl, ax_tbl_of 10 (by decide +kernel) rfl⟩
abbrev mX9_good : ax_Mi := (yX9_good, cX9_good, 2, (some .int))
theorem hhX9_good : ax_hd mX9_good 0 := ⟨by decide +kernel, Nat.le_of_ble_eq_true rfl, ax_tbl_of 1666 (by decide +kernel) rfl, ax_tbl_of 10 (by decide +kernel) rfl⟩
abbrev mX9_hasLoop : ax_Mi := (yX9_hasLoop, cX9_hasLoop, 5, (some .boolean))
theorem hhX9_hasLoop : ax_hd mX9_hasLoop 0 := ⟨by decide +kernel, Nat.le_of_ble_eq_true rfl, ax_tbl_of 1769 (by decide +kernel) rfl, ax_tbl_of 10 (by decide +kernel) rfl⟩
abbrev mX9_here : ax_Mi := (yX9_here, cX9_here, 1, (some .int))
theorem hhX9_here : ax_hd mX9_here 0 := ⟨by decide +kernel, Nat.le_of_ble_eq_true rfl, ax_tbl_of 1378 (by decide +kernel) rfl, ax_tbl_of 10 (by decide +kernel) rfl⟩
abbrev mX9_isCell : ax_Mi := (yX9_isCell, cX9_isCell, 2, (some .boolean))
theorem hhX9_isCell : ax_hd mX9_isCell 1 := ⟨by decide +kernel, Nat.le_of_ble_eq_true rfl, ax_tbl_of 1537 (by decide +kernel) rfl, ax_tbl_of 10 (by decide +kernel) rfl⟩
abbrev mX9_isDigit : ax_Mi := (yX9_isDigit, cX9_isDigit, 1, (some .boolean))
theorem hhX9_isDigit : ax_hd mX9_isDigit 1 := ⟨by decide +kernel, Nat.le_of_ble_eq_true rfl, ax_tbl_of 1441 (by decide +kernel) rfl, ax_tbl_of 10 (by decide +kernel) rfl⟩
abbrev mX9_isFirst : ax_Mi := (yX9_isFirst, cX9_isFirst, 3, (some .boolean))
theorem hhX9_isFirst : ax_hd mX9_isFirst 1 := ⟨by decide +kernel, Nat.le_of_ble_eq_true rfl, ax_tbl_of 1719 (by decide +kernel) rfl, ax_tbl_of 10 (by decide +kernel) rfl⟩
abbrev mX9_isFlop : ax_Mi := (yX9_isFlop, cX9_isFlop, 2, (some .boolean))
theorem hhX9_isFlop : ax_hd mX9_isFlop 1 := ⟨by decide +kernel, Nat.le_of_ble_eq_true rfl, ax_tbl_of 1614 (by decide +kernel) rfl, ax_tbl_of 10 (by decide +kernel) rfl⟩
abbrev mX9_isGood : ax_Mi := (yX9_isGood, cX9_isGood, 2, (some .boolean))
theorem hhX9_isGood : ax_hd mX9_isGood 0 := ⟨by decide +kernel, Nat.le_of_ble_eq_true rfl, ax_tbl_of 1670 (by decide +kernel) rfl, ax_tbl_of 10 (by decide +kernel) rfl⟩
abbrev mX9_isPath : ax_Mi := (yX9_isPath, cX9_isPath, 2, (some .boolean))
theorem hhX9_isPath : ax_hd mX9_isPath 1 := ⟨by decide +kernel, Nat.le_of_ble_eq_true rfl, ax_tbl_of 1565 (by decide +kernel) rfl, ax_tbl_of 10 (by decide +kernel) rfl⟩
abbrev mX9_isPhase : ax_Mi := (yX9_isPhase, cX9_isPhase, 2, (some .boolean))
theorem hhX9_isPhase : ax_hd mX9_isPhase 1 := ⟨by decide +kernel, Nat.le_of_ble_eq_true rfl, ax_tbl_of 1557 (by decide +kernel) rfl, ax_tbl_of 10 (by decide +kernel) rfl⟩
abbrev mX9_isSmall : ax_Mi := (yX9_isSmall, cX9_isSmall, 1, (some .boolean))
theorem hhX9_isSmall : ax_hd mX9_isSmall 1 := ⟨by decide +kernel, Nat.le_of_ble_eq_true rfl, ax_tbl_of 1381 (by decide +kernel) rfl, ax_tbl_of 10 (by decide +kernel) rfl⟩
abbrev mX9_isStill : ax_Mi := (yX9_isStill, cX9_isStill, 2, (some .boolean))
theorem hhX9_isStill : ax_hd mX9_isStill 0 := ⟨by decide +kernel, Nat.le_of_ble_eq_true rfl, ax_tbl_of 1628 (by decide +kernel) rfl, ax_tbl_of 10 (by decide +kernel) rfl⟩
abbrev mX9_keep : ax_Mi := (yX9_keep, cX9_keep, 1, (some .int))
theorem hhX9_keep : ax_hd mX9_keep 0 := ⟨by decide +kernel, Nat.le_of_ble_eq_true rfl, ax_tbl_of 1509 (by decide +kernel) rfl, ax_tbl_of 10 (by decide +kernel) rfl⟩
abbrev mX9_latestTo : ax_Mi := (yX9_latestTo, cX9_latestTo, 4, (some .int))
theorem hhX9_latestTo : ax_hd mX9_latestTo 1 := ⟨by decide +kernel, Nat.le_of_ble_eq_true rfl, ax_tbl_of 1650 (by decide +kernel) rfl, ax_tbl_of 10 (by decide +kernel) rfl⟩
abbrev mX9_lays : ax_Mi := (yX9_lays, cX9_lays, 3, none)
theorem hhX9_lays : ax_hd mX9_lays 1 := ⟨by decide +kernel, Nat.le_of_ble_eq_true rfl, ax_tbl_of 1513 (by decide +kernel) rfl, ax_tbl_of 10 (by decide +kernel) rfl⟩
abbrev mX9_laysBack : ax_Mi := (yX9_laysBack, cX9_laysBack, 3, none)
theorem hhX9_laysBack : ax_hd mX9_laysBack 1 := ⟨by decide +kernel, Nat.le_of_ble_eq_true rfl, ax_tbl_of 1505 (by decide +kernel) rfl, ax_tbl_of 10 (by decide +kernel) rfl⟩
abbrev mX9_laysChain : ax_Mi := (yX9_laysChain, cX9_laysChain, 7, none)
theorem hhX9_laysChain : ax_hd mX9_laysChain 1 := ⟨by decide +kernel, Nat.le_of_ble_eq_true rfl, ax_tbl_of 1658 (by decide +kernel) rfl, ax_tbl_of 10 (by decide +kernel) rfl⟩
abbrev mX9_laysLoops : ax_Mi := (yX9_laysLoops, cX9_laysLoops, 2, none)
theorem hhX9_laysLoops : ax_hd mX9_laysLoops 0 := ⟨by decide +kernel, Nat.le_of_ble_eq_true rfl, ax_tbl_of 1707 (by decide +kernel) rfl, ax_tbl_of 10 (by decide +kernel) rfl⟩
abbrev mX9_leastNow : ax_Mi := (yX9_leastNow, cX9_leastNow, 5, (some .int))
theorem hhX9_leastNow : ax_hd mX9_leastNow 0 := ⟨by decide +kernel, Nat.le_of_ble_eq_true rfl, ax_tbl_of 1734 (by decide +kernel) rfl, ax_tbl_of 10 (by decide +kernel) rfl⟩
abbrev mX9_leastPeriod : ax_Mi := (yX9_leastPeriod, cX9_leastPeriod, 1, (some .int))
theorem hhX9_leastPeriod : ax_hd mX9_leastPeriod 0 := ⟨by decide +kernel, Nat.le_of_ble_eq_true rfl, ax_tbl_of 1730 (by decide +kernel) rfl, ax_tbl_of 10 (by decide +kernel) rfl⟩
abbrev mX9_leastWidth : ax_Mi := (yX9_leastWidth, cX9_leastWidth, 5, (some .int))
theorem hhX9_leastWidth : ax_hd mX9_leastWidth 1 := ⟨by decide +kernel, Nat.le_of_ble_eq_true rfl, ax_tbl_of 1773 (by decide +kernel) rfl, ax_tbl_of 10 (by decide +kernel) rfl⟩
abbrev mX9_leaves : ax_Mi := (yX9_leaves, cX9_leaves, 2, (some .long))
theorem hhX9_leaves : ax_hd mX9_leaves 1 := ⟨by decide +kernel, Nat.le_of_ble_eq_true rfl, ax_tbl_of 1593 (by decide +kernel) rfl, ax_tbl_of 10 (by decide +kernel) rfl⟩
abbrev mX9_loop : ax_Mi := (yX9_loop, cX9_loop, 2, (some .int))
theorem hhX9_loop : ax_hd mX9_loop 1 := ⟨by decide +kernel, Nat.le_of_ble_eq_true rfl, ax_tbl_of 1726 (by decide +kernel) rfl, ax_tbl_of 10 (by decide +kernel) rfl⟩
abbrev mX9_loopsFrom : ax_Mi := (yX9_loopsFrom, cX9_loopsFrom, 6, none)
theorem hhX9_loopsFrom : ax_hd mX9_loopsFrom 1 := ⟨by decide +kernel, Nat.le_of_ble_eq_true rfl, ax_tbl_of 1711 (by decide +kernel) rfl, ax_tbl_of 10 (by decide +kernel) rfl⟩
abbrev mX9_makes : ax_Mi := (yX9_makes, cX9_makes, 4, none)
theorem hhX9_makes : ax_hd mX9_makes 2 := ⟨by decide +kernel, Nat.le_of_ble_eq_true rfl, ax_tbl_of 1765 (by decide +kernel) rfl, ax_tbl_of 10 (by decide +kernel) rfl⟩
abbrev mX9_moreBy : ax_Mi := (yX9_moreBy, cX9_moreBy, 4, (some .int))
theorem hhX9_moreBy : ax_hd mX9_moreBy 3 := ⟨by decide +kernel, Nat.le_of_ble_eq_true rfl, ax_tbl_of 1545 (by decide +kernel) rfl, ax_tbl_of 10 (by decide +kernel) rfl⟩
abbrev mX9_move : ax_Mi := (yX9_move, cX9_move, 3, (some .boolean))
theorem hhX9_move : ax_hd mX9_move 2 := ⟨by decide +kernel, Nat.le_of_ble_eq_true rfl, ax_tbl_of 1533 (by decide +kernel) rfl, ax_tbl_of 10 (by decide +kernel) rfl⟩
abbrev mX9_moves : ax_Mi := (yX9_moves, cX9_moves, 5, none)
theorem hhX9_moves : ax_hd mX9_moves 2 := ⟨by decide +kernel, Nat.le_of_ble_eq_true rfl, ax_tbl_of 1549 (by decide +kernel) rfl, ax_tbl_of 10 (by decide +kernel) rfl⟩
abbrev mX9_nameHere : ax_Mi := (yX9_nameHere, cX9_nameHere, 2, none)
theorem hhX9_nameHere : ax_hd mX9_nameHere 0 := ⟨by decide +kernel, Nat.le_of_ble_eq_true rfl, ax_tbl_of 1438 (by decide +kernel) rfl, ax_tbl_of 10 (by decide +kernel) rfl⟩
abbrev mX9_named : ax_Mi := (yX9_named, cX9_named, 3, (some .int))
theorem hhX9_named : ax_hd mX9_named 2 := ⟨by decide +kernel, Nat.le_of_ble_eq_true rfl, ax_tbl_of 1497 (by decide +kernel) rfl, ax_tbl_of 10 (by decide +kernel) rfl⟩
abbrev mX9_near : ax_Mi := (yX9_near, cX9_near, 2, (some .long))
theorem hhX9_near : ax_hd mX9_near 1 := ⟨by decide +kernel, Nat.le_of_ble_eq_true rfl, ax_tbl_of 1781 (by decide +kernel) rfl, ax_tbl_of 10 (by decide +kernel) rfl⟩
abbrev mX9_nearOf : ax_Mi := (yX9_nearOf, cX9_nearOf, 5, (some .long))
theorem hhX9_nearOf : ax_hd mX9_nearOf 1 := ⟨by decide +kernel, Nat.le_of_ble_eq_true rfl, ax_tbl_of 1785 (by decide +kernel) rfl, ax_tbl_of 10 (by decide +kernel) rfl⟩
abbrev mX9_nearest : ax_Mi := (yX9_nearest, cX9_nearest, 7, (some .int))
theorem hhX9_nearest : ax_hd mX9_nearest 1 := ⟨by decide +kernel, Nat.le_of_ble_eq_true rfl, ax_tbl_of 1789 (by decide +kernel) rfl, ax_tbl_of 10 (by decide +kernel) rfl⟩
abbrev mX9_newName : ax_Mi := (yX9_newName, cX9_newName, 4, none)
theorem hhX9_newName : ax_hd mX9_newName 3 := ⟨by decide +kernel, Nat.le_of_ble_eq_true rfl, ax_tbl_of 1470 (by decide +kernel) rfl, ax_tbl_of 10 (by decide +kernel) rfl⟩
abbrev mX9_numeral : ax_Mi := (yX9_numeral, cX9_numeral, 4, (some .int))
theorem hhX9_numeral : ax_hd mX9_numeral 2 := ⟨by decide +kernel, Nat.le_of_ble_eq_true rfl, ax_tbl_of 1462 (by decide +kernel) rfl, ax_tbl_of 10 (by decide +kernel) rfl⟩
abbrev mX9_oldName : ax_Mi := (yX9_oldName, cX9_oldName, 5, (some .int))
theorem hhX9_oldName : ax_hd mX9_oldName 3 := ⟨by decide +kernel, Nat.le_of_ble_eq_true rfl, ax_tbl_of 1481 (by decide +kernel) rfl, ax_tbl_of 10 (by decide +kernel) rfl⟩
abbrev mX9_open : ax_Mi := (yX9_open, cX9_open, 6, (some .int))
theorem hhX9_open : ax_hd mX9_open 1 := ⟨by decide +kernel, Nat.le_of_ble_eq_true rfl, ax_tbl_of 1801 (by decide +kernel) rfl, ax_tbl_of 10 (by decide +kernel) rfl⟩
abbrev mX9_opens : ax_Mi := (yX9_opens, cX9_opens, 3, (some .int))
theorem hhX9_opens : ax_hd mX9_opens 2 := ⟨by decide +kernel, Nat.le_of_ble_eq_true rfl, ax_tbl_of 1589 (by decide +kernel) rfl, ax_tbl_of 10 (by decide +kernel) rfl⟩
abbrev mX9_pad : ax_Mi := (yX9_pad, cX9_pad, 2, (some .int))
theorem hhX9_pad : ax_hd mX9_pad 1 := ⟨by decide +kernel, Nat.le_of_ble_eq_true rfl, ax_tbl_of 1682 (by decide +kernel) rfl, ax_tbl_of 10 (by decide +kernel) rfl⟩
abbrev mX9_padOf : ax_Mi := (yX9_padOf, cX9_padOf, 4, (some .int))
theorem hhX9_padOf : ax_hd mX9_padOf 1 := ⟨by decide +kernel, Nat.le_of_ble_eq_true rfl, ax_tbl_of 1686 (by decide +kernel) rfl, ax_tbl_of 10 (by decide +kernel) rfl⟩
abbrev mX9_pads : ax_Mi := (yX9_pads, cX9_pads, 3, (some .int))
theorem hhX9_pads : ax_hd mX9_pads 0 := ⟨by decide +kernel, Nat.le_of_ble_eq_true rfl, ax_tbl_of 1691 (by decide +kernel) rfl, ax_tbl_of 10 (by decide +kernel) rfl⟩
abbrev mX9_path : ax_Mi := (yX9_path, cX9_path, 3, (some .int))
theorem hhX9_path : ax_hd mX9_path 2 := ⟨by decide +kernel, Nat.le_of_ble_eq_true rfl, ax_tbl_of 1581 (by decide +kernel) rfl, ax_tbl_of 10 (by decide +kernel) rfl⟩
abbrev mX9_pathOf : ax_Mi := (yX9_pathOf, cX9_pathOf, 6, (some .int))
theorem hhX9_pathOf : ax_hd mX9_pathOf 4 := ⟨by decide +kernel, Nat.le_of_ble_eq_true rfl, ax_tbl_of 1489 (by decide +kernel) rfl, ax_tbl_of 10 (by decide +kernel) rfl⟩
abbrev mX9_paths : ax_Mi := (yX9_paths, cX9_paths, 1, (some .int))
theorem hhX9_paths : ax_hd mX9_paths 0 := ⟨by decide +kernel, Nat.le_of_ble_eq_true rfl, ax_tbl_of 1213 (by decide +kernel) rfl, ax_tbl_of 10 (by decide +kernel) rfl⟩
abbrev mX9_pathsAt : ax_Mi := (yX9_pathsAt, cX9_pathsAt, 5, (some .int))
theorem hhX9_pathsAt : ax_hd mX9_pathsAt 2 := ⟨by decide +kernel, Nat.le_of_ble_eq_true rfl, ax_tbl_of 1577 (by decide +kernel) rfl, ax_tbl_of 10 (by decide +kernel) rfl⟩
abbrev mX9_period : ax_Mi := (yX9_period, cX9_period, 3, (some .int))
theorem hhX9_period : ax_hd mX9_period 1 := ⟨by decide +kernel, Nat.le_of_ble_eq_true rfl, ax_tbl_of 1521 (by decide +kernel) rfl, ax_tbl_of 10 (by decide +kernel) rfl⟩
abbrev mX9_periodLong : ax_Mi := (yX9_periodLong, cX9_periodLong, 1, (some .long))
theorem hhX9_periodLong : ax_hd mX9_periodLong 0 := ⟨by decide +kernel, Nat.le_of_ble_eq_true rfl, ax_tbl_of 1624 (by decide +kernel) rfl, ax_tbl_of 10 (by decide +kernel) rfl⟩
abbrev mX9_phase : ax_Mi := (yX9_phase, cX9_phase, 4, (some .boolean))
theorem hhX9_phase : ax_hd mX9_phase 3 := ⟨by decide +kernel, Nat.le_of_ble_eq_true rfl, ax_tbl_of 1553 (by decide +kernel) rfl, ax_tbl_of 10 (by decide +kernel) rfl⟩
abbrev mX9_phases : ax_Mi := (yX9_phases, cX9_phases, 1, (some .int))
theorem hhX9_phases : ax_hd mX9_phases 0 := ⟨by decide +kernel, Nat.le_of_ble_eq_true rfl, ax_tbl_of 1205 (by decide +kernel) rfl, ax_tbl_of 10 (by decide +kernel) rfl⟩
abbrev mX9_ratio : ax_Mi := (yX9_ratio, cX9_ratio, 4, (some .long))
theorem hhX9_ratio : ax_hd mX9_ratio 1 := ⟨by decide +kernel, Nat.le_of_ble_eq_true rfl, ax_tbl_of 1703 (by decide +kernel) rfl, ax_tbl_of 10 (by decide +kernel) rfl⟩
abbrev mX9_readCell : ax_Mi := (yX9_readCell, cX9_readCell, 7, none)
theorem hhX9_readCell : ax_hd mX9_readCell 1 := ⟨by decide +kernel, Nat.le_of_ble_eq_true rfl, ax_tbl_of 1477 (by decide +kernel) rfl, ax_tbl_of 10 (by decide +kernel) rfl⟩
abbrev mX9_readLine : ax_Mi := (yX9_readLine, cX9_readLine, 1, none)
theorem hhX9_readLine : ax_hd mX9_readLine 0 := ⟨by decide +kernel, Nat.le_of_ble_eq_true rfl, ax_tbl_of 1446 (by decide +kernel) rfl, ax_tbl_of 10 (by decide +kernel) rfl⟩
abbrev mX9_readOnce : ax_Mi := (yX9_readOnce, cX9_readOnce, 5, none)
theorem hhX9_readOnce : ax_hd mX9_readOnce 4 := ⟨by decide +kernel, Nat.le_of_ble_eq_true rfl, ax_tbl_of 1454 (by decide +kernel) rfl, ax_tbl_of 10 (by decide +kernel) rfl⟩
abbrev mX9_readPath : ax_Mi := (yX9_readPath, cX9_readPath, 6, none)
theorem hhX9_readPath : ax_hd mX9_readPath 0 := ⟨by decide +kernel, Nat.le_of_ble_eq_true rfl, ax_tbl_of 1485 (by decide +kernel) rfl, ax_tbl_of 10 (by decide +kernel) rfl⟩
abbrev mX9_readPhase : ax_Mi := (yX9_readPhase, cX9_readPhase, 4, none)
theorem hhX9_readPhase : ax_hd mX9_readPhase 0 := ⟨by decide +kernel, Nat.le_of_ble_eq_true rfl, ax_tbl_of 1466 (by decide +kernel) rfl, ax_tbl_of 10 (by decide +kernel) rfl⟩
abbrev mX9_readText : ax_Mi := (yX9_readText, cX9_readText, 2, none)
theorem hhX9_readText : ax_hd mX9_readText 1 := ⟨by decide +kernel, Nat.le_of_ble_eq_true rfl, ax_tbl_of 1370 (by decide +kernel) rfl, ax_tbl_of 10 (by decide +kernel) rfl⟩
abbrev mX9_reading : ax_Mi := (yX9_reading, cX9_reading, 2, (some .int))
theorem hhX9_reading : ax_hd mX9_reading 1 := ⟨by decide +kernel, Nat.le_of_ble_eq_true rfl, ax_tbl_of 1197 (by decide +kernel) rfl, ax_tbl_of 10 (by decide +kernel) rfl⟩
abbrev mX9_reads : ax_Mi := (yX9_reads, cX9_reads, 3, none)
theorem hhX9_reads : ax_hd mX9_reads 2 := ⟨by decide +kernel, Nat.le_of_ble_eq_true rfl, ax_tbl_of 1189 (by decide +kernel) rfl, ax_tbl_of 10 (by decide +kernel) rfl⟩
abbrev mX9_remembers : ax_Mi := (yX9_remembers, cX9_remembers, 2, none)
theorem hhX9_remembers : ax_hd mX9_remembers 0 := ⟨by decide +kernel, Nat.le_of_ble_eq_true rfl, ax_tbl_of 1525 (by decide +kernel) rfl, ax_tbl_of 10 (by decide +kernel) rfl⟩
abbrev mX9_rest : ax_Mi := (yX9_rest, cX9_rest, 2, none)
theorem hhX9_rest : ax_hd mX9_rest 0 := ⟨by decide +kernel, Nat.le_of_ble_eq_true rfl, ax_tbl_of 1602 (by decide +kernel) rfl, ax_tbl_of 10 (by decide +kernel) rfl⟩
abbrev mX9_room : ax_Mi := (yX9_room, cX9_room, 2, (some .long))
theorem hhX9_room : ax_hd mX9_room 1 := ⟨by decide +kernel, Nat.le_of_ble_eq_true rfl, ax_tbl_of 1638 (by decide +kernel) rfl, ax_tbl_of 10 (by decide +kernel) rfl⟩
abbrev mX9_roomOf : ax_Mi := (yX9_roomOf, cX9_roomOf, 8, (some .long))
theorem hhX9_roomOf : ax_hd mX9_roomOf 3 := ⟨by decide +kernel, Nat.le_of_ble_eq_true rfl, ax_tbl_of 1642 (by decide +kernel) rfl, ax_tbl_of 10 (by decide +kernel) rfl⟩
abbrev mX9_round : ax_Mi := (yX9_round, cX9_round, 2, none)
theorem hhX9_round : ax_hd mX9_round 0 := ⟨by decide +kernel, Nat.le_of_ble_eq_true rfl, ax_tbl_of 1606 (by decide +kernel) rfl, ax_tbl_of 10 (by decide +kernel) rfl⟩
abbrev mX9_settles : ax_Mi := (yX9_settles, cX9_settles, 2, none)
theorem hhX9_settles : ax_hd mX9_settles 0 := ⟨by decide +kernel, Nat.le_of_ble_eq_true rfl, ax_tbl_of 1598 (by decide +kernel) rfl, ax_tbl_of 10 (by decide +kernel) rfl⟩
abbrev mX9_shiftOf : ax_Mi := (yX9_shiftOf, cX9_shiftOf, 3, (some .int))
theorem hhX9_shiftOf : ax_hd mX9_shiftOf 1 := ⟨by decide +kernel, Nat.le_of_ble_eq_true rfl, ax_tbl_of 1585 (by decide +kernel) rfl, ax_tbl_of 10 (by decide +kernel) rfl⟩
abbrev mX9_skew : ax_Mi := (yX9_skew, cX9_skew, 3, (some .int))
theorem hhX9_skew : ax_hd mX9_skew 1 := ⟨by decide +kernel, Nat.le_of_ble_eq_true rfl, ax_tbl_of 1529 (by decide +kernel) rfl, ax_tbl_of 10 (by decide +kernel) rfl⟩
abbrev mX9_slower : ax_Mi := (yX9_slower, cX9_slower, 5, (some .int))
theorem hhX9_slower : ax_hd mX9_slower 1 := ⟨by decide +kernel, Nat.le_of_ble_eq_true rfl, ax_tbl_of 1738 (by decide +kernel) rfl, ax_tbl_of 10 (by decide +kernel) rfl⟩
abbrev mX9_takeText : ax_Mi := (yX9_takeText, cX9_takeText, 2, none)
theorem hhX9_takeText : ax_hd mX9_takeText 0 := ⟨by decide +kernel, Nat.le_of_ble_eq_true rfl, ax_tbl_of 1193 (by decide +kernel) rfl, ax_tbl_of 10 (by decide +kernel) rfl⟩
abbrev mX9_tellsLoop : ax_Mi := (yX9_tellsLoop, cX9_tellsLoop, 9, none)
theorem hhX9_tellsLoop : ax_hd mX9_tellsLoop 1 := ⟨by decide +kernel, Nat.le_of_ble_eq_true rfl, ax_tbl_of 1715 (by decide +kernel) rfl, ax_tbl_of 10 (by decide +kernel) rfl⟩
abbrev mX9_text : ax_Mi := (yX9_text, cX9_text, 2, (some .int))
theorem hhX9_text : ax_hd mX9_text 1 := ⟨by decide +kernel, Nat.le_of_ble_eq_true rfl, ax_tbl_of 1366 (by decide +kernel) rfl, ax_tbl_of 10 (by decide +kernel) rfl⟩
abbrev mX9_thrown : ax_Mi := (yX9_thrown, cX9_thrown, 1, (some .int))
theorem hhX9_thrown : ax_hd mX9_thrown 0 := ⟨by decide +kernel, Nat.le_of_ble_eq_true rfl, ax_tbl_of 1358 (by decide +kernel) rfl, ax_tbl_of 10 (by decide +kernel) rfl⟩
abbrev mX9_timeOf : ax_Mi := (yX9_timeOf, cX9_timeOf, 4, (some .int))
theorem hhX9_timeOf : ax_hd mX9_timeOf 1 := ⟨by decide +kernel, Nat.le_of_ble_eq_true rfl, ax_tbl_of 1797 (by decide +kernel) rfl, ax_tbl_of 10 (by decide +kernel) rfl⟩
abbrev mX9_token : ax_Mi := (yX9_token, cX9_token, 2, none)
theorem hhX9_token : ax_hd mX9_token 0 := ⟨by decide +kernel, Nat.le_of_ble_eq_true rfl, ax_tbl_of 1374 (by decide +kernel) rfl, ax_tbl_of 10 (by decide +kernel) rfl⟩
abbrev mX9_undo : ax_Mi := (yX9_undo, cX9_undo, 1, (some .int))
theorem hhX9_undo : ax_hd mX9_undo 0 := ⟨by decide +kernel, Nat.le_of_ble_eq_true rfl, ax_tbl_of 1501 (by decide +kernel) rfl, ax_tbl_of 10 (by decide +kernel) rfl⟩
abbrev mX9_wave : ax_Mi := (yX9_wave, cX9_wave, 4, (some .long))
theorem hhX9_wave : ax_hd mX9_wave 2 := ⟨by decide +kernel, Nat.le_of_ble_eq_true rfl, ax_tbl_of 1695 (by decide +kernel) rfl, ax_tbl_of 10 (by decide +kernel) rfl⟩
abbrev mX9_which : ax_Mi := (yX9_which, cX9_which, 5, (some .int))
theorem hhX9_which : ax_hd mX9_which 1 := ⟨by decide +kernel, Nat.le_of_ble_eq_true rfl, ax_tbl_of 1662 (by decide +kernel) rfl, ax_tbl_of 10 (by decide +kernel) rfl⟩
abbrev mX9_wordHere : ax_Mi := (yX9_wordHere, cX9_wordHere, 4, (some .int))
theorem hhX9_wordHere : ax_hd mX9_wordHere 0 := ⟨by decide +kernel, Nat.le_of_ble_eq_true rfl, ax_tbl_of 1385 (by decide +kernel) rfl, ax_tbl_of 10 (by decide +kernel) rfl⟩
abbrev mX9_wrong : ax_Mi := (yX9_wrong, cX9_wrong, 2, none)
theorem hhX9_wrong : ax_hd mX9_wrong 1 := ⟨by decide +kernel, Nat.le_of_ble_eq_true rfl, ax_tbl_of 1450 (by decide +kernel) rfl, ax_tbl_of 10 (by decide +kernel) rfl⟩
theorem lVX0_43 : ax_lV RX0 43 mX0_linkCells := ⟨ax_tbl_of 789 (by decide +kernel) rfl, ax_tbl_of 791 (by decide +kernel) rfl, ax_tbl_sel 22 (by decide +kernel) rfl⟩
theorem lVX0_51 : ax_lV RX0 51 mX1_isFlop := ⟨ax_tbl_of 794 (by decide +kernel) rfl, ax_tbl_of 589 (by decide +kernel) rfl, ax_tbl_of 590 (by decide +kernel) rfl⟩
theorem lVX0_55 : ax_lV RX0 55 mX0_follow := ⟨ax_tbl_of 795 (by decide +kernel) rfl, ax_tbl_of 797 (by decide +kernel) rfl, ax_tbl_sel 23 (by decide +kernel) rfl⟩
theorem lVX0_59 : ax_lV RX0 59 mX0_reduce := ⟨ax_tbl_of 806 (by decide +kernel) rfl, ax_tbl_of 808 (by decide +kernel) rfl, ax_tbl_sel 25 (by decide +kernel) rfl⟩
theorem lSX0_62 : ax_lS RX0 62 mJ7_fill_53178 := ⟨ax_tbl_of 793 (by decide +kernel) rfl, ax_tbl_of 651 (by decide +kernel) rfl⟩
theorem lVX0_77 : ax_lV RX0 77 mX1_delayOf := ⟨ax_tbl_of 799 (by decide +kernel) rfl, ax_tbl_of 642 (by decide +kernel) rfl, ax_tbl_of 643 (by decide +kernel) rfl⟩
theorem lVX0_81 : ax_lV RX0 81 mX1_shiftOf := ⟨ax_tbl_of 800 (by decide +kernel) rfl, ax_tbl_of 621 (by decide +kernel) rfl, ax_tbl_of 622 (by decide +kernel) rfl⟩
theorem lVX0_84 : ax_lV RX0 84 mX0_weigh := ⟨ax_tbl_of 801 (by decide +kernel) rfl, ax_tbl_of 803 (by decide +kernel) rfl, ax_tbl_sel 24 (by decide +kernel) rfl⟩
theorem lVX0_94 : ax_lV RX0 94 mX1_latches := ⟨ax_tbl_of 927 (by decide +kernel) rfl, ax_tbl_of 928 (by decide +kernel) rfl, ax_tbl_of 929 (by decide +kernel) rfl⟩
theorem lSX0_98 : ax_lS RX0 98 mJ6_bitCount_0f7a4 := ⟨ax_tbl_of 931 (by decide +kernel) rfl, ax_tbl_of 932 (by decide +kernel) rfl⟩
theorem lVX0_103 : ax_lV RX0 103 mX0_hasLoop := ⟨ax_tbl_of 937 (by decide +kernel) rfl, ax_tbl_of 939 (by decide +kernel) rfl, ax_tbl_sel 34 (by decide +kernel) rfl⟩
theorem lVX1_76 : ax_lV RX1 76 mX1_delayOf := ⟨ax_tbl_of 641 (by decide +kernel) rfl, ax_tbl_of 642 (by decide +kernel) rfl, ax_tbl_of 643 (by decide +kernel) rfl⟩
theorem lVX1_80 : ax_lV RX1 80 mX1_shiftOf := ⟨ax_tbl_of 645 (by decide +kernel) rfl, ax_tbl_of 621 (by decide +kernel) rfl, ax_tbl_of 622 (by decide +kernel) rfl⟩
theorem lSX1_84 : ax_lS RX1 84 mJ7_fill_53178 := ⟨ax_tbl_of 663 (by decide +kernel) rfl, ax_tbl_of 651 (by decide +kernel) rfl⟩
theorem lVX1_96 : ax_lV RX1 96 mX1_isFlop := ⟨ax_tbl_of 657 (by decide +kernel) rfl, ax_tbl_of 589 (by decide +kernel) rfl, ax_tbl_of 590 (by decide +kernel) rfl⟩
theorem lVX1_100 : ax_lV RX1 100 mX1_limitOf := ⟨ax_tbl_of 682 (by decide +kernel) rfl, ax_tbl_of 683 (by decide +kernel) rfl, ax_tbl_of 684 (by decide +kernel) rfl⟩
theorem lVX1_103 : ax_lV RX1 103 mX1_gapOf := ⟨ax_tbl_of 740 (by decide +kernel) rfl, ax_tbl_of 729 (by decide +kernel) rfl, ax_tbl_of 730 (by decide +kernel) rfl⟩
theorem lNX1_106 : ax_lN RX1 106 mX8_roundedUp := ⟨"LatchTimes", by simp [ax_nest], ax_tbl_of 742 (by decide +kernel) rfl⟩
theorem lVX1_112 : ax_lV RX1 112 mX1_keyOf := ⟨ax_tbl_of 1005 (by decide +kernel) rfl, ax_tbl_of 1007 (by decide +kernel) rfl, ax_tbl_sel 36 (by decide +kernel) rfl⟩
theorem lSX1_115 : ax_lS RX1 115 mJ9_floorMod_7cf53 := ⟨ax_tbl_of 1017 (by decide +kernel) rfl, ax_tbl_of 1018 (by decide +kernel) rfl⟩
theorem lVX2_22 : ax_lV RX2 22 mX1_writeTo := ⟨ax_tbl_of 559 (by decide +kernel) rfl, ax_tbl_of 560 (by decide +kernel) rfl, ax_tbl_of 561 (by decide +kernel) rfl⟩
theorem lVX2_35 : ax_lV RX2 35 mX1_readFrom := ⟨ax_tbl_of 1055 (by decide +kernel) rfl, ax_tbl_of 1056 (by decide +kernel) rfl, ax_tbl_of 1057 (by decide +kernel) rfl⟩
theorem lVX3_54 : ax_lV RX3 54 mX1_clear := ⟨ax_tbl_of 434 (by decide +kernel) rfl, ax_tbl_of 435 (by decide +kernel) rfl, ax_tbl_of 436 (by decide +kernel) rfl⟩
theorem lVX3_57 : ax_lV RX3 57 mX3_readToken := ⟨ax_tbl_of 438 (by decide +kernel) rfl, ax_tbl_of 440 (by decide +kernel) rfl, ax_tbl_sel 1 (by decide +kernel) rfl⟩
theorem lVX3_63 : ax_lV RX3 63 mX3_readLine := ⟨ax_tbl_of 457 (by decide +kernel) rfl, ax_tbl_of 459 (by decide +kernel) rfl, ax_tbl_sel 4 (by decide +kernel) rfl⟩
theorem lVX3_69 : ax_lV RX3 69 mX3_readPeriod := ⟨ax_tbl_of 461 (by decide +kernel) rfl, ax_tbl_of 463 (by decide +kernel) rfl, ax_tbl_sel 5 (by decide +kernel) rfl⟩
theorem lVX3_72 : ax_lV RX3 72 mX3_readPhase := ⟨ax_tbl_of 481 (by decide +kernel) rfl, ax_tbl_of 483 (by decide +kernel) rfl, ax_tbl_sel 10 (by decide +kernel) rfl⟩
theorem lVX3_75 : ax_lV RX3 75 mX3_readCell := ⟨ax_tbl_of 502 (by decide +kernel) rfl, ax_tbl_of 504 (by decide +kernel) rfl, ax_tbl_sel 12 (by decide +kernel) rfl⟩
theorem lVX3_79 : ax_lV RX3 79 mX3_readPath := ⟨ax_tbl_of 506 (by decide +kernel) rfl, ax_tbl_of 508 (by decide +kernel) rfl, ax_tbl_sel 13 (by decide +kernel) rfl⟩
theorem lVX3_82 : ax_lV RX3 82 mX3_readSkew := ⟨ax_tbl_of 514 (by decide +kernel) rfl, ax_tbl_of 516 (by decide +kernel) rfl, ax_tbl_sel 14 (by decide +kernel) rfl⟩
theorem lVX3_85 : ax_lV RX3 85 mX3_readSeed := ⟨ax_tbl_of 518 (by decide +kernel) rfl, ax_tbl_of 520 (by decide +kernel) rfl, ax_tbl_sel 15 (by decide +kernel) rfl⟩
theorem lVX3_88 : ax_lV RX3 88 mX3_refuse := ⟨ax_tbl_of 469 (by decide +kernel) rfl, ax_tbl_of 471 (by decide +kernel) rfl, ax_tbl_sel 7 (by decide +kernel) rfl⟩
theorem lVX3_91 : ax_lV RX3 91 mX3_refuseIf := ⟨ax_tbl_of 465 (by decide +kernel) rfl, ax_tbl_of 467 (by decide +kernel) rfl, ax_tbl_sel 6 (by decide +kernel) rfl⟩
theorem lVX3_95 : ax_lV RX3 95 mX3_readNumber := ⟨ax_tbl_of 473 (by decide +kernel) rfl, ax_tbl_of 475 (by decide +kernel) rfl, ax_tbl_sel 8 (by decide +kernel) rfl⟩
theorem lVX3_101 : ax_lV RX3 101 mX3_readStop := ⟨ax_tbl_of 477 (by decide +kernel) rfl, ax_tbl_of 479 (by decide +kernel) rfl, ax_tbl_sel 9 (by decide +kernel) rfl⟩
theorem lVX3_117 : ax_lV RX3 117 mX3_readName := ⟨ax_tbl_of 485 (by decide +kernel) rfl, ax_tbl_of 487 (by decide +kernel) rfl, ax_tbl_sel 11 (by decide +kernel) rfl⟩
theorem lVX3_151 : ax_lV RX3 151 mX1_pathBetween := ⟨ax_tbl_of 510 (by decide +kernel) rfl, ax_tbl_of 511 (by decide +kernel) rfl, ax_tbl_of 512 (by decide +kernel) rfl⟩
theorem lSX3_166 : ax_lS RX3 166 mX3_isOfLanguage := ⟨ax_tbl_of 489 (by decide +kernel) rfl, ax_tbl_of 490 (by decide +kernel) rfl⟩
theorem lNX3_170 : ax_lN RX3 170 mX8_find := ⟨"LatchTimes", by simp [ax_nest], ax_tbl_of 500 (by decide +kernel) rfl⟩
theorem lSX3_184 : ax_lS RX3 184 mX3_isLetter := ⟨ax_tbl_of 442 (by decide +kernel) rfl, ax_tbl_of 443 (by decide +kernel) rfl⟩
theorem lVX3_187 : ax_lV RX3 187 mX3_readWord := ⟨ax_tbl_of 445 (by decide +kernel) rfl, ax_tbl_of 447 (by decide +kernel) rfl, ax_tbl_sel 2 (by decide +kernel) rfl⟩
theorem lSX3_190 : ax_lS RX3 190 mX3_isDigit := ⟨ax_tbl_of 449 (by decide +kernel) rfl, ax_tbl_of 450 (by decide +kernel) rfl⟩
theorem lVX3_193 : ax_lV RX3 193 mX3_readDigits := ⟨ax_tbl_of 452 (by decide +kernel) rfl, ax_tbl_of 454 (by decide +kernel) rfl, ax_tbl_sel 3 (by decide +kernel) rfl⟩
theorem lVX4_35 : ax_lV RX4 35 mX6_load := ⟨ax_tbl_of 822 (by decide +kernel) rfl, ax_tbl_of 823 (by decide +kernel) rfl, ax_tbl_of 824 (by decide +kernel) rfl⟩
theorem lVX4_38 : ax_lV RX4 38 mX6_firstGood := ⟨ax_tbl_of 828 (by decide +kernel) rfl, ax_tbl_of 829 (by decide +kernel) rfl, ax_tbl_of 830 (by decide +kernel) rfl⟩
theorem lVX4_54 : ax_lV RX4 54 mX6_holds := ⟨ax_tbl_of 876 (by decide +kernel) rfl, ax_tbl_of 833 (by decide +kernel) rfl, ax_tbl_of 834 (by decide +kernel) rfl⟩
theorem lVX4_58 : ax_lV RX4 58 mX6_cutHas := ⟨ax_tbl_of 877 (by decide +kernel) rfl, ax_tbl_of 878 (by decide +kernel) rfl, ax_tbl_of 879 (by decide +kernel) rfl⟩
theorem lVX4_61 : ax_lV RX4 61 mX6_beyond := ⟨ax_tbl_of 881 (by decide +kernel) rfl, ax_tbl_of 882 (by decide +kernel) rfl, ax_tbl_of 883 (by decide +kernel) rfl⟩
theorem lNX4_65 : ax_lN RX4 65 mX8_roundedUp := ⟨"LatchTimes", by simp [ax_nest], ax_tbl_of 742 (by decide +kernel) rfl⟩
theorem lVX4_73 : ax_lV RX4 73 mX4_shortestPeriod := ⟨ax_tbl_of 918 (by decide +kernel) rfl, ax_tbl_of 819 (by decide +kernel) rfl, ax_tbl_of 820 (by decide +kernel) rfl⟩
theorem lVX4_77 : ax_lV RX4 77 mX4_periodByFullShifts := ⟨ax_tbl_of 895 (by decide +kernel) rfl, ax_tbl_of 897 (by decide +kernel) rfl, ax_tbl_sel 32 (by decide +kernel) rfl⟩
theorem lVX4_89 : ax_lV RX4 89 mX6_forgetCut := ⟨ax_tbl_of 901 (by decide +kernel) rfl, ax_tbl_of 843 (by decide +kernel) rfl, ax_tbl_of 844 (by decide +kernel) rfl⟩
theorem lVX4_92 : ax_lV RX4 92 mX4_isGoodAt := ⟨ax_tbl_of 902 (by decide +kernel) rfl, ax_tbl_of 904 (by decide +kernel) rfl, ax_tbl_sel 33 (by decide +kernel) rfl⟩
theorem lSX4_95 : ax_lS RX4 95 mJ7_fill_53178 := ⟨ax_tbl_of 900 (by decide +kernel) rfl, ax_tbl_of 651 (by decide +kernel) rfl⟩
theorem lVX4_101 : ax_lV RX4 101 mX4_moveNearZero := ⟨ax_tbl_of 949 (by decide +kernel) rfl, ax_tbl_of 951 (by decide +kernel) rfl, ax_tbl_sel 35 (by decide +kernel) rfl⟩
theorem lVX4_104 : ax_lV RX4 104 mX1_leastMove := ⟨ax_tbl_of 953 (by decide +kernel) rfl, ax_tbl_of 601 (by decide +kernel) rfl, ax_tbl_of 602 (by decide +kernel) rfl⟩
theorem lVX4_107 : ax_lV RX4 107 mX1_greatestMove := ⟨ax_tbl_of 954 (by decide +kernel) rfl, ax_tbl_of 608 (by decide +kernel) rfl, ax_tbl_of 609 (by decide +kernel) rfl⟩
theorem lVX4_113 : ax_lV RX4 113 mX1_moveWork := ⟨ax_tbl_of 956 (by decide +kernel) rfl, ax_tbl_of 613 (by decide +kernel) rfl, ax_tbl_of 614 (by decide +kernel) rfl⟩
theorem lVX4_117 : ax_lV RX4 117 mX6_cutSlope := ⟨ax_tbl_of 957 (by decide +kernel) rfl, ax_tbl_of 958 (by decide +kernel) rfl, ax_tbl_of 959 (by decide +kernel) rfl⟩
theorem lVX4_120 : ax_lV RX4 120 mX4_drawDelays := ⟨ax_tbl_of 1028 (by decide +kernel) rfl, ax_tbl_of 1030 (by decide +kernel) rfl, ax_tbl_sel 37 (by decide +kernel) rfl⟩
theorem lVX4_123 : ax_lV RX4 123 mX4_periodFrom := ⟨ax_tbl_of 1034 (by decide +kernel) rfl, ax_tbl_of 1036 (by decide +kernel) rfl, ax_tbl_sel 38 (by decide +kernel) rfl⟩
theorem lVX4_126 : ax_lV RX4 126 mX4_drawnIsGood := ⟨ax_tbl_of 1038 (by decide +kernel) rfl, ax_tbl_of 1040 (by decide +kernel) rfl, ax_tbl_sel 39 (by decide +kernel) rfl⟩
theorem lVX4_130 : ax_lV RX4 130 mX4_drawnIsForever := ⟨ax_tbl_of 1042 (by decide +kernel) rfl, ax_tbl_of 1044 (by decide +kernel) rfl, ax_tbl_sel 40 (by decide +kernel) rfl⟩
theorem lVX4_144 : ax_lV RX4 144 mX5_isForever := ⟨ax_tbl_of 1046 (by decide +kernel) rfl, ax_tbl_of 634 (by decide +kernel) rfl, ax_tbl_of 635 (by decide +kernel) rfl⟩
theorem lVX5_32 : ax_lV RX5 32 mX1_weighPaths := ⟨ax_tbl_of 637 (by decide +kernel) rfl, ax_tbl_of 638 (by decide +kernel) rfl, ax_tbl_of 639 (by decide +kernel) rfl⟩
theorem lVX5_38 : ax_lV RX5 38 mX5_settle := ⟨ax_tbl_of 646 (by decide +kernel) rfl, ax_tbl_of 648 (by decide +kernel) rfl, ax_tbl_sel 18 (by decide +kernel) rfl⟩
theorem lVX5_45 : ax_lV RX5 45 mX1_gather := ⟨ax_tbl_of 658 (by decide +kernel) rfl, ax_tbl_of 659 (by decide +kernel) rfl, ax_tbl_of 660 (by decide +kernel) rfl⟩
theorem lSX5_49 : ax_lS RX5 49 mJ7_fill_53178 := ⟨ax_tbl_of 650 (by decide +kernel) rfl, ax_tbl_of 651 (by decide +kernel) rfl⟩
theorem lVX5_68 : ax_lV RX5 68 mX1_leavesBy := ⟨ax_tbl_of 653 (by decide +kernel) rfl, ax_tbl_of 654 (by decide +kernel) rfl, ax_tbl_of 655 (by decide +kernel) rfl⟩
theorem lVX5_72 : ax_lV RX5 72 mX1_roomBy := ⟨ax_tbl_of 678 (by decide +kernel) rfl, ax_tbl_of 679 (by decide +kernel) rfl, ax_tbl_of 680 (by decide +kernel) rfl⟩
theorem lVX5_75 : ax_lV RX5 75 mX5_comesBy := ⟨ax_tbl_of 694 (by decide +kernel) rfl, ax_tbl_of 696 (by decide +kernel) rfl, ax_tbl_sel 19 (by decide +kernel) rfl⟩
theorem lVX5_79 : ax_lV RX5 79 mX5_latestPath := ⟨ax_tbl_of 706 (by decide +kernel) rfl, ax_tbl_of 691 (by decide +kernel) rfl, ax_tbl_of 692 (by decide +kernel) rfl⟩
theorem lVX5_82 : ax_lV RX5 82 mX5_roomOf := ⟨ax_tbl_of 719 (by decide +kernel) rfl, ax_tbl_of 675 (by decide +kernel) rfl, ax_tbl_of 676 (by decide +kernel) rfl⟩
theorem lVX5_88 : ax_lV RX5 88 mX1_isFlop := ⟨ax_tbl_of 969 (by decide +kernel) rfl, ax_tbl_of 589 (by decide +kernel) rfl, ax_tbl_of 590 (by decide +kernel) rfl⟩
theorem lNX5_98 : ax_lN RX5 98 mX8_roundedUp := ⟨"LatchTimes", by simp [ax_nest], ax_tbl_of 742 (by decide +kernel) rfl⟩
theorem lVX5_106 : ax_lV RX5 106 mX5_roomBy := ⟨ax_tbl_of 996 (by decide +kernel) rfl, ax_tbl_of 985 (by decide +kernel) rfl, ax_tbl_of 986 (by decide +kernel) rfl⟩
theorem lVX6_43 : ax_lV RX6 43 mX1_delayOf := ⟨ax_tbl_of 826 (by decide +kernel) rfl, ax_tbl_of 642 (by decide +kernel) rfl, ax_tbl_of 643 (by decide +kernel) rfl⟩
theorem lVX6_47 : ax_lV RX6 47 mX1_shiftOf := ⟨ax_tbl_of 827 (by decide +kernel) rfl, ax_tbl_of 621 (by decide +kernel) rfl, ax_tbl_of 622 (by decide +kernel) rfl⟩
theorem lVX6_50 : ax_lV RX6 50 mX6_begin := ⟨ax_tbl_of 836 (by decide +kernel) rfl, ax_tbl_of 838 (by decide +kernel) rfl, ax_tbl_sel 26 (by decide +kernel) rfl⟩
theorem lVX6_63 : ax_lV RX6 63 mX6_cutAt := ⟨ax_tbl_of 850 (by decide +kernel) rfl, ax_tbl_of 852 (by decide +kernel) rfl, ax_tbl_sel 28 (by decide +kernel) rfl⟩
theorem lVX6_67 : ax_lV RX6 67 mX1_limitOf := ⟨ax_tbl_of 840 (by decide +kernel) rfl, ax_tbl_of 683 (by decide +kernel) rfl, ax_tbl_of 684 (by decide +kernel) rfl⟩
theorem lVX6_71 : ax_lV RX6 71 mX1_isFlop := ⟨ax_tbl_of 841 (by decide +kernel) rfl, ax_tbl_of 589 (by decide +kernel) rfl, ax_tbl_of 590 (by decide +kernel) rfl⟩
theorem lVX6_74 : ax_lV RX6 74 mX6_forgetCut := ⟨ax_tbl_of 842 (by decide +kernel) rfl, ax_tbl_of 843 (by decide +kernel) rfl, ax_tbl_of 844 (by decide +kernel) rfl⟩
theorem lVX6_77 : ax_lV RX6 77 mX6_endCut := ⟨ax_tbl_of 846 (by decide +kernel) rfl, ax_tbl_of 848 (by decide +kernel) rfl, ax_tbl_sel 27 (by decide +kernel) rfl⟩
theorem lVX6_80 : ax_lV RX6 80 mX6_addToCut := ⟨ax_tbl_of 854 (by decide +kernel) rfl, ax_tbl_of 856 (by decide +kernel) rfl, ax_tbl_sel 29 (by decide +kernel) rfl⟩
theorem lVX6_83 : ax_lV RX6 83 mX6_cutLoop := ⟨ax_tbl_of 858 (by decide +kernel) rfl, ax_tbl_of 860 (by decide +kernel) rfl, ax_tbl_sel 30 (by decide +kernel) rfl⟩
theorem lVX6_104 : ax_lV RX6 104 mX6_cutSpan := ⟨ax_tbl_of 862 (by decide +kernel) rfl, ax_tbl_of 864 (by decide +kernel) rfl, ax_tbl_sel 31 (by decide +kernel) rfl⟩
theorem lVX6_108 : ax_lV RX6 108 mX6_holds := ⟨ax_tbl_of 832 (by decide +kernel) rfl, ax_tbl_of 833 (by decide +kernel) rfl, ax_tbl_of 834 (by decide +kernel) rfl⟩
theorem lNX6_111 : ax_lN RX6 111 mX8_roundedUp := ⟨"LatchTimes", by simp [ax_nest], ax_tbl_of 742 (by decide +kernel) rfl⟩
theorem lVX7_25 : ax_lV RX7 25 mX1_weighPaths := ⟨ax_tbl_of 764 (by decide +kernel) rfl, ax_tbl_of 638 (by decide +kernel) rfl, ax_tbl_of 639 (by decide +kernel) rfl⟩
theorem lSX7_31 : ax_lS RX7 31 mJ7_fill_53178 := ⟨ax_tbl_of 765 (by decide +kernel) rfl, ax_tbl_of 651 (by decide +kernel) rfl⟩
theorem lVX7_37 : ax_lV RX7 37 mX1_gather := ⟨ax_tbl_of 770 (by decide +kernel) rfl, ax_tbl_of 659 (by decide +kernel) rfl, ax_tbl_of 660 (by decide +kernel) rfl⟩
theorem lVX7_45 : ax_lV RX7 45 mX1_leavesBy := ⟨ax_tbl_of 771 (by decide +kernel) rfl, ax_tbl_of 654 (by decide +kernel) rfl, ax_tbl_of 655 (by decide +kernel) rfl⟩
theorem lVX7_49 : ax_lV RX7 49 mX7_rest := ⟨ax_tbl_of 760 (by decide +kernel) rfl, ax_tbl_of 762 (by decide +kernel) rfl, ax_tbl_sel 20 (by decide +kernel) rfl⟩
theorem lVX7_52 : ax_lV RX7 52 mX7_step := ⟨ax_tbl_of 766 (by decide +kernel) rfl, ax_tbl_of 768 (by decide +kernel) rfl, ax_tbl_sel 21 (by decide +kernel) rfl⟩
theorem lVX7_56 : ax_lV RX7 56 mX1_roomBy := ⟨ax_tbl_of 780 (by decide +kernel) rfl, ax_tbl_of 679 (by decide +kernel) rfl, ax_tbl_of 680 (by decide +kernel) rfl⟩
theorem lVX8_72 : ax_lV RX8 72 mX8_putFour := ⟨ax_tbl_of 419 (by decide +kernel) rfl, ax_tbl_of 421 (by decide +kernel) rfl, ax_tbl_sel 0 (by decide +kernel) rfl⟩
theorem lVX8_76 : ax_lV RX8 76 mX3_read := ⟨ax_tbl_of 427 (by decide +kernel) rfl, ax_tbl_of 428 (by decide +kernel) rfl, ax_tbl_of 429 (by decide +kernel) rfl⟩
theorem lVX8_83 : ax_lV RX8 83 mX1_takeAllOf := ⟨ax_tbl_of 523 (by decide +kernel) rfl, ax_tbl_of 524 (by decide +kernel) rfl, ax_tbl_of 525 (by decide +kernel) rfl⟩
theorem lVX8_86 : ax_lV RX8 86 mX2_forgetAll := ⟨ax_tbl_of 530 (by decide +kernel) rfl, ax_tbl_of 531 (by decide +kernel) rfl, ax_tbl_of 532 (by decide +kernel) rfl⟩
theorem lVX8_93 : ax_lV RX8 93 mX8_forgetAnswers := ⟨ax_tbl_of 534 (by decide +kernel) rfl, ax_tbl_of 536 (by decide +kernel) rfl, ax_tbl_sel 16 (by decide +kernel) rfl⟩
theorem lSX8_111 : ax_lS RX8 111 mX8_find := ⟨ax_tbl_of 546 (by decide +kernel) rfl, ax_tbl_of 500 (by decide +kernel) rfl⟩
theorem lVX8_125 : ax_lV RX8 125 mX2_push := ⟨ax_tbl_of 555 (by decide +kernel) rfl, ax_tbl_of 556 (by decide +kernel) rfl, ax_tbl_of 557 (by decide +kernel) rfl⟩
theorem lVX8_131 : ax_lV RX8 131 mX8_beginChange := ⟨ax_tbl_of 551 (by decide +kernel) rfl, ax_tbl_of 553 (by decide +kernel) rfl, ax_tbl_sel 17 (by decide +kernel) rfl⟩
theorem lVX8_134 : ax_lV RX8 134 mX1_hasPhase := ⟨ax_tbl_of 568 (by decide +kernel) rfl, ax_tbl_of 569 (by decide +kernel) rfl, ax_tbl_of 570 (by decide +kernel) rfl⟩
theorem lVX8_143 : ax_lV RX8 143 mX1_hasPath := ⟨ax_tbl_of 576 (by decide +kernel) rfl, ax_tbl_of 577 (by decide +kernel) rfl, ax_tbl_of 578 (by decide +kernel) rfl⟩
theorem lVX8_152 : ax_lV RX8 152 mX1_hasCell := ⟨ax_tbl_of 584 (by decide +kernel) rfl, ax_tbl_of 585 (by decide +kernel) rfl, ax_tbl_of 586 (by decide +kernel) rfl⟩
theorem lVX8_158 : ax_lV RX8 158 mX1_isFlop := ⟨ax_tbl_of 588 (by decide +kernel) rfl, ax_tbl_of 589 (by decide +kernel) rfl, ax_tbl_of 590 (by decide +kernel) rfl⟩
theorem lVX8_164 : ax_lV RX8 164 mX1_leastMove := ⟨ax_tbl_of 600 (by decide +kernel) rfl, ax_tbl_of 601 (by decide +kernel) rfl, ax_tbl_of 602 (by decide +kernel) rfl⟩
theorem lVX8_168 : ax_lV RX8 168 mX1_greatestMove := ⟨ax_tbl_of 607 (by decide +kernel) rfl, ax_tbl_of 608 (by decide +kernel) rfl, ax_tbl_of 609 (by decide +kernel) rfl⟩
theorem lVX8_171 : ax_lV RX8 171 mX1_moveWork := ⟨ax_tbl_of 612 (by decide +kernel) rfl, ax_tbl_of 613 (by decide +kernel) rfl, ax_tbl_of 614 (by decide +kernel) rfl⟩
theorem lVX8_211 : ax_lV RX8 211 mX1_shiftOf := ⟨ax_tbl_of 620 (by decide +kernel) rfl, ax_tbl_of 621 (by decide +kernel) rfl, ax_tbl_of 622 (by decide +kernel) rfl⟩
theorem lVX8_216 : ax_lV RX8 216 mX5_isForever := ⟨ax_tbl_of 633 (by decide +kernel) rfl, ax_tbl_of 634 (by decide +kernel) rfl, ax_tbl_of 635 (by decide +kernel) rfl⟩
theorem lVX8_230 : ax_lV RX8 230 mX5_roomOf := ⟨ax_tbl_of 674 (by decide +kernel) rfl, ax_tbl_of 675 (by decide +kernel) rfl, ax_tbl_of 676 (by decide +kernel) rfl⟩
theorem lVX8_233 : ax_lV RX8 233 mX5_latestPath := ⟨ax_tbl_of 690 (by decide +kernel) rfl, ax_tbl_of 691 (by decide +kernel) rfl, ax_tbl_of 692 (by decide +kernel) rfl⟩
theorem lVX8_236 : ax_lV RX8 236 mX5_chained := ⟨ax_tbl_of 702 (by decide +kernel) rfl, ax_tbl_of 703 (by decide +kernel) rfl, ax_tbl_of 704 (by decide +kernel) rfl⟩
theorem lVX8_240 : ax_lV RX8 240 mX5_borrowing := ⟨ax_tbl_of 711 (by decide +kernel) rfl, ax_tbl_of 712 (by decide +kernel) rfl, ax_tbl_of 713 (by decide +kernel) rfl⟩
theorem lVX8_244 : ax_lV RX8 244 mX5_unmet := ⟨ax_tbl_of 715 (by decide +kernel) rfl, ax_tbl_of 716 (by decide +kernel) rfl, ax_tbl_of 717 (by decide +kernel) rfl⟩
theorem lVX8_247 : ax_lV RX8 247 mX1_gapOf := ⟨ax_tbl_of 728 (by decide +kernel) rfl, ax_tbl_of 729 (by decide +kernel) rfl, ax_tbl_of 730 (by decide +kernel) rfl⟩
theorem lVX8_250 : ax_lV RX8 250 mX1_padOf := ⟨ax_tbl_of 736 (by decide +kernel) rfl, ax_tbl_of 737 (by decide +kernel) rfl, ax_tbl_of 738 (by decide +kernel) rfl⟩
theorem lVX8_253 : ax_lV RX8 253 mX7_leavesAt := ⟨ax_tbl_of 756 (by decide +kernel) rfl, ax_tbl_of 757 (by decide +kernel) rfl, ax_tbl_of 758 (by decide +kernel) rfl⟩
theorem lVX8_256 : ax_lV RX8 256 mX7_firstUnmet := ⟨ax_tbl_of 776 (by decide +kernel) rfl, ax_tbl_of 777 (by decide +kernel) rfl, ax_tbl_of 778 (by decide +kernel) rfl⟩
theorem lVX8_259 : ax_lV RX8 259 mX0_look := ⟨ax_tbl_of 785 (by decide +kernel) rfl, ax_tbl_of 786 (by decide +kernel) rfl, ax_tbl_of 787 (by decide +kernel) rfl⟩
theorem lVX8_275 : ax_lV RX8 275 mX4_shortestPeriod := ⟨ax_tbl_of 818 (by decide +kernel) rfl, ax_tbl_of 819 (by decide +kernel) rfl, ax_tbl_of 820 (by decide +kernel) rfl⟩
theorem lVX8_278 : ax_lV RX8 278 mX4_slowestDelay := ⟨ax_tbl_of 872 (by decide +kernel) rfl, ax_tbl_of 873 (by decide +kernel) rfl, ax_tbl_of 874 (by decide +kernel) rfl⟩
theorem lVX8_281 : ax_lV RX8 281 mX4_bestOpening := ⟨ax_tbl_of 891 (by decide +kernel) rfl, ax_tbl_of 892 (by decide +kernel) rfl, ax_tbl_of 893 (by decide +kernel) rfl⟩
theorem lVX8_284 : ax_lV RX8 284 mX4_gainOf := ⟨ax_tbl_of 914 (by decide +kernel) rfl, ax_tbl_of 915 (by decide +kernel) rfl, ax_tbl_of 916 (by decide +kernel) rfl⟩
theorem lVX8_287 : ax_lV RX8 287 mX0_fewestBreaks := ⟨ax_tbl_of 923 (by decide +kernel) rfl, ax_tbl_of 924 (by decide +kernel) rfl, ax_tbl_of 925 (by decide +kernel) rfl⟩
theorem lVX8_290 : ax_lV RX8 290 mX4_bestMoving := ⟨ax_tbl_of 945 (by decide +kernel) rfl, ax_tbl_of 946 (by decide +kernel) rfl, ax_tbl_of 947 (by decide +kernel) rfl⟩
theorem lVX8_293 : ax_lV RX8 293 mX5_narrowest := ⟨ax_tbl_of 965 (by decide +kernel) rfl, ax_tbl_of 966 (by decide +kernel) rfl, ax_tbl_of 967 (by decide +kernel) rfl⟩
theorem lVX8_296 : ax_lV RX8 296 mX5_possibleFlops := ⟨ax_tbl_of 976 (by decide +kernel) rfl, ax_tbl_of 977 (by decide +kernel) rfl, ax_tbl_of 978 (by decide +kernel) rfl⟩
theorem lVX8_299 : ax_lV RX8 299 mX5_roomBy := ⟨ax_tbl_of 984 (by decide +kernel) rfl, ax_tbl_of 985 (by decide +kernel) rfl, ax_tbl_of 986 (by decide +kernel) rfl⟩
theorem lVX8_302 : ax_lV RX8 302 mX5_pathByRoom := ⟨ax_tbl_of 992 (by decide +kernel) rfl, ax_tbl_of 993 (by decide +kernel) rfl, ax_tbl_of 994 (by decide +kernel) rfl⟩
theorem lVX8_305 : ax_lV RX8 305 mX1_eventKey := ⟨ax_tbl_of 1001 (by decide +kernel) rfl, ax_tbl_of 1002 (by decide +kernel) rfl, ax_tbl_of 1003 (by decide +kernel) rfl⟩
theorem lVX8_308 : ax_lV RX8 308 mX1_openAt := ⟨ax_tbl_of 1013 (by decide +kernel) rfl, ax_tbl_of 1014 (by decide +kernel) rfl, ax_tbl_of 1015 (by decide +kernel) rfl⟩
theorem lVX8_314 : ax_lV RX8 314 mX4_byChance := ⟨ax_tbl_of 1024 (by decide +kernel) rfl, ax_tbl_of 1025 (by decide +kernel) rfl, ax_tbl_of 1026 (by decide +kernel) rfl⟩
theorem lVX8_321 : ax_lV RX8 321 mX2_pop := ⟨ax_tbl_of 1051 (by decide +kernel) rfl, ax_tbl_of 1052 (by decide +kernel) rfl, ax_tbl_of 1053 (by decide +kernel) rfl⟩
theorem lVX8_324 : ax_lV RX8 324 mX2_keepImage := ⟨ax_tbl_of 1063 (by decide +kernel) rfl, ax_tbl_of 1064 (by decide +kernel) rfl, ax_tbl_of 1065 (by decide +kernel) rfl⟩
theorem lVX8_327 : ax_lV RX8 327 mX2_restoreImage := ⟨ax_tbl_of 1071 (by decide +kernel) rfl, ax_tbl_of 1072 (by decide +kernel) rfl, ax_tbl_of 1073 (by decide +kernel) rfl⟩
theorem lSX8_330 : ax_lS RX8 330 mJ6_bitCount_0f7a4 := ⟨ax_tbl_of 1079 (by decide +kernel) rfl, ax_tbl_of 932 (by decide +kernel) rfl⟩
theorem lVX8_335 : ax_lV RX8 335 mX1_latches := ⟨ax_tbl_of 1080 (by decide +kernel) rfl, ax_tbl_of 928 (by decide +kernel) rfl, ax_tbl_of 929 (by decide +kernel) rfl⟩
theorem lSX8_343 : ax_lS RX8 343 mJ9_floorDiv_7cf53 := ⟨ax_tbl_of 745 (by decide +kernel) rfl, ax_tbl_of 746 (by decide +kernel) rfl⟩
theorem lVX9_94 : ax_lV RX9 94 mX9_freshText := ⟨ax_tbl_of 1182 (by decide +kernel) rfl, ax_tbl_of 1184 (by decide +kernel) rfl, ax_tbl_sel 42 (by decide +kernel) rfl⟩
theorem lVX9_97 : ax_lV RX9 97 mX9_takeText := ⟨ax_tbl_of 1190 (by decide +kernel) rfl, ax_tbl_of 1192 (by decide +kernel) rfl, ax_tbl_sel 44 (by decide +kernel) rfl⟩
theorem lVX9_100 : ax_lV RX9 100 mX9_begins := ⟨ax_tbl_of 1198 (by decide +kernel) rfl, ax_tbl_of 1200 (by decide +kernel) rfl, ax_tbl_sel 46 (by decide +kernel) rfl⟩
theorem lVX9_115 : ax_lV RX9 115 mX9_here := ⟨ax_tbl_of 1375 (by decide +kernel) rfl, ax_tbl_of 1377 (by decide +kernel) rfl, ax_tbl_sel 52 (by decide +kernel) rfl⟩
theorem lSX9_125 : ax_lS RX9 125 mX9_isSmall := ⟨ax_tbl_of 1379 (by decide +kernel) rfl, ax_tbl_of 1380 (by decide +kernel) rfl⟩
theorem lVX9_129 : ax_lV RX9 129 mX9_wordHere := ⟨ax_tbl_of 1382 (by decide +kernel) rfl, ax_tbl_of 1384 (by decide +kernel) rfl, ax_tbl_sel 53 (by decide +kernel) rfl⟩
theorem lVX9_135 : ax_lV RX9 135 mX9_nameHere := ⟨ax_tbl_of 1435 (by decide +kernel) rfl, ax_tbl_of 1437 (by decide +kernel) rfl, ax_tbl_sel 54 (by decide +kernel) rfl⟩
theorem lSX9_138 : ax_lS RX9 138 mX9_isDigit := ⟨ax_tbl_of 1439 (by decide +kernel) rfl, ax_tbl_of 1440 (by decide +kernel) rfl⟩
theorem lVX9_159 : ax_lV RX9 159 mX9_token := ⟨ax_tbl_of 1371 (by decide +kernel) rfl, ax_tbl_of 1373 (by decide +kernel) rfl, ax_tbl_sel 51 (by decide +kernel) rfl⟩
theorem lVX9_162 : ax_lV RX9 162 mX9_wrong := ⟨ax_tbl_of 1447 (by decide +kernel) rfl, ax_tbl_of 1449 (by decide +kernel) rfl, ax_tbl_sel 56 (by decide +kernel) rfl⟩
theorem lVX9_166 : ax_lV RX9 166 mX9_goOn := ⟨ax_tbl_of 1455 (by decide +kernel) rfl, ax_tbl_of 1457 (by decide +kernel) rfl, ax_tbl_sel 58 (by decide +kernel) rfl⟩
theorem lVX9_169 : ax_lV RX9 169 mX9_numeral := ⟨ax_tbl_of 1459 (by decide +kernel) rfl, ax_tbl_of 1461 (by decide +kernel) rfl, ax_tbl_sel 59 (by decide +kernel) rfl⟩
theorem lVX9_173 : ax_lV RX9 173 mX9_reads := ⟨ax_tbl_of 1186 (by decide +kernel) rfl, ax_tbl_of 1188 (by decide +kernel) rfl, ax_tbl_sel 43 (by decide +kernel) rfl⟩
theorem lSX9_177 : ax_lS RX9 177 mX9_foundIn := ⟨ax_tbl_of 1471 (by decide +kernel) rfl, ax_tbl_of 1472 (by decide +kernel) rfl⟩
theorem lVX9_181 : ax_lV RX9 181 mX9_reading := ⟨ax_tbl_of 1194 (by decide +kernel) rfl, ax_tbl_of 1196 (by decide +kernel) rfl, ax_tbl_sel 45 (by decide +kernel) rfl⟩
theorem lVX9_185 : ax_lV RX9 185 mX9_newName := ⟨ax_tbl_of 1467 (by decide +kernel) rfl, ax_tbl_of 1469 (by decide +kernel) rfl, ax_tbl_sel 61 (by decide +kernel) rfl⟩
theorem lVX9_189 : ax_lV RX9 189 mX9_oldName := ⟨ax_tbl_of 1478 (by decide +kernel) rfl, ax_tbl_of 1480 (by decide +kernel) rfl, ax_tbl_sel 63 (by decide +kernel) rfl⟩
theorem lVX9_193 : ax_lV RX9 193 mX9_pathOf := ⟨ax_tbl_of 1486 (by decide +kernel) rfl, ax_tbl_of 1488 (by decide +kernel) rfl, ax_tbl_sel 65 (by decide +kernel) rfl⟩
theorem lVX9_197 : ax_lV RX9 197 mX9_readOnce := ⟨ax_tbl_of 1451 (by decide +kernel) rfl, ax_tbl_of 1453 (by decide +kernel) rfl, ax_tbl_sel 57 (by decide +kernel) rfl⟩
theorem lVX9_201 : ax_lV RX9 201 mX9_readPhase := ⟨ax_tbl_of 1463 (by decide +kernel) rfl, ax_tbl_of 1465 (by decide +kernel) rfl, ax_tbl_sel 60 (by decide +kernel) rfl⟩
theorem lVX9_204 : ax_lV RX9 204 mX9_readCell := ⟨ax_tbl_of 1474 (by decide +kernel) rfl, ax_tbl_of 1476 (by decide +kernel) rfl, ax_tbl_sel 62 (by decide +kernel) rfl⟩
theorem lVX9_208 : ax_lV RX9 208 mX9_readPath := ⟨ax_tbl_of 1482 (by decide +kernel) rfl, ax_tbl_of 1484 (by decide +kernel) rfl, ax_tbl_sel 64 (by decide +kernel) rfl⟩
theorem lVX9_214 : ax_lV RX9 214 mX9_readLine := ⟨ax_tbl_of 1443 (by decide +kernel) rfl, ax_tbl_of 1445 (by decide +kernel) rfl, ax_tbl_sel 55 (by decide +kernel) rfl⟩
theorem lVX9_217 : ax_lV RX9 217 mX9_readText := ⟨ax_tbl_of 1367 (by decide +kernel) rfl, ax_tbl_of 1369 (by decide +kernel) rfl, ax_tbl_sel 50 (by decide +kernel) rfl⟩
theorem lVX9_230 : ax_lV RX9 230 mX9_phases := ⟨ax_tbl_of 1202 (by decide +kernel) rfl, ax_tbl_of 1204 (by decide +kernel) rfl, ax_tbl_sel 47 (by decide +kernel) rfl⟩
theorem lVX9_233 : ax_lV RX9 233 mX9_cells := ⟨ax_tbl_of 1206 (by decide +kernel) rfl, ax_tbl_of 1208 (by decide +kernel) rfl, ax_tbl_sel 48 (by decide +kernel) rfl⟩
theorem lVX9_236 : ax_lV RX9 236 mX9_paths := ⟨ax_tbl_of 1210 (by decide +kernel) rfl, ax_tbl_of 1212 (by decide +kernel) rfl, ax_tbl_sel 49 (by decide +kernel) rfl⟩
theorem lVX9_239 : ax_lV RX9 239 mX9_lays := ⟨ax_tbl_of 1510 (by decide +kernel) rfl, ax_tbl_of 1512 (by decide +kernel) rfl, ax_tbl_sel 67 (by decide +kernel) rfl⟩
theorem lVX9_242 : ax_lV RX9 242 mX9_laysBack := ⟨ax_tbl_of 1502 (by decide +kernel) rfl, ax_tbl_of 1504 (by decide +kernel) rfl, ax_tbl_sel 66 (by decide +kernel) rfl⟩
theorem lVX9_245 : ax_lV RX9 245 mX9_remembers := ⟨ax_tbl_of 1522 (by decide +kernel) rfl, ax_tbl_of 1524 (by decide +kernel) rfl, ax_tbl_sel 68 (by decide +kernel) rfl⟩
theorem lVX9_248 : ax_lV RX9 248 mX9_moreBy := ⟨ax_tbl_of 1542 (by decide +kernel) rfl, ax_tbl_of 1544 (by decide +kernel) rfl, ax_tbl_sel 71 (by decide +kernel) rfl⟩
theorem lVX9_252 : ax_lV RX9 252 mX9_isCell := ⟨ax_tbl_of 1534 (by decide +kernel) rfl, ax_tbl_of 1536 (by decide +kernel) rfl, ax_tbl_sel 69 (by decide +kernel) rfl⟩
theorem lVX9_255 : ax_lV RX9 255 mX9_canMove := ⟨ax_tbl_of 1538 (by decide +kernel) rfl, ax_tbl_of 1540 (by decide +kernel) rfl, ax_tbl_sel 70 (by decide +kernel) rfl⟩
theorem lVX9_259 : ax_lV RX9 259 mX9_moves := ⟨ax_tbl_of 1546 (by decide +kernel) rfl, ax_tbl_of 1548 (by decide +kernel) rfl, ax_tbl_sel 72 (by decide +kernel) rfl⟩
theorem lVX9_262 : ax_lV RX9 262 mX9_isPhase := ⟨ax_tbl_of 1554 (by decide +kernel) rfl, ax_tbl_of 1556 (by decide +kernel) rfl, ax_tbl_sel 73 (by decide +kernel) rfl⟩
theorem lVX9_265 : ax_lV RX9 265 mX9_isPath := ⟨ax_tbl_of 1562 (by decide +kernel) rfl, ax_tbl_of 1564 (by decide +kernel) rfl, ax_tbl_sel 74 (by decide +kernel) rfl⟩
theorem lVX9_268 : ax_lV RX9 268 mX9_pathsAt := ⟨ax_tbl_of 1574 (by decide +kernel) rfl, ax_tbl_of 1576 (by decide +kernel) rfl, ax_tbl_sel 75 (by decide +kernel) rfl⟩
theorem lVX9_272 : ax_lV RX9 272 mX9_shiftOf := ⟨ax_tbl_of 1582 (by decide +kernel) rfl, ax_tbl_of 1584 (by decide +kernel) rfl, ax_tbl_sel 76 (by decide +kernel) rfl⟩
theorem lVX9_277 : ax_lV RX9 277 mX9_periodLong := ⟨ax_tbl_of 1621 (by decide +kernel) rfl, ax_tbl_of 1623 (by decide +kernel) rfl, ax_tbl_sel 83 (by decide +kernel) rfl⟩
theorem lVX9_281 : ax_lV RX9 281 mX9_isFlop := ⟨ax_tbl_of 1611 (by decide +kernel) rfl, ax_tbl_of 1613 (by decide +kernel) rfl, ax_tbl_sel 81 (by decide +kernel) rfl⟩
theorem lVX9_286 : ax_lV RX9 286 mX9_comesBy := ⟨ax_tbl_of 1616 (by decide +kernel) rfl, ax_tbl_of 1618 (by decide +kernel) rfl, ax_tbl_sel 82 (by decide +kernel) rfl⟩
theorem lVX9_290 : ax_lV RX9 290 mX9_comesTo := ⟨ax_tbl_of 1607 (by decide +kernel) rfl, ax_tbl_of 1609 (by decide +kernel) rfl, ax_tbl_sel 80 (by decide +kernel) rfl⟩
theorem lVX9_293 : ax_lV RX9 293 mX9_rest := ⟨ax_tbl_of 1599 (by decide +kernel) rfl, ax_tbl_of 1601 (by decide +kernel) rfl, ax_tbl_sel 78 (by decide +kernel) rfl⟩
theorem lVX9_296 : ax_lV RX9 296 mX9_round := ⟨ax_tbl_of 1603 (by decide +kernel) rfl, ax_tbl_of 1605 (by decide +kernel) rfl, ax_tbl_sel 79 (by decide +kernel) rfl⟩
theorem lVX9_299 : ax_lV RX9 299 mX9_isStill := ⟨ax_tbl_of 1625 (by decide +kernel) rfl, ax_tbl_of 1627 (by decide +kernel) rfl, ax_tbl_sel 84 (by decide +kernel) rfl⟩
theorem lVX9_306 : ax_lV RX9 306 mX9_settles := ⟨ax_tbl_of 1595 (by decide +kernel) rfl, ax_tbl_of 1597 (by decide +kernel) rfl, ax_tbl_sel 77 (by decide +kernel) rfl⟩
theorem lVX9_309 : ax_lV RX9 309 mX9_roomOf := ⟨ax_tbl_of 1639 (by decide +kernel) rfl, ax_tbl_of 1641 (by decide +kernel) rfl, ax_tbl_sel 85 (by decide +kernel) rfl⟩
theorem lVX9_319 : ax_lV RX9 319 mX9_latestTo := ⟨ax_tbl_of 1647 (by decide +kernel) rfl, ax_tbl_of 1649 (by decide +kernel) rfl, ax_tbl_sel 86 (by decide +kernel) rfl⟩
theorem lVX9_325 : ax_lV RX9 325 mX9_laysChain := ⟨ax_tbl_of 1655 (by decide +kernel) rfl, ax_tbl_of 1657 (by decide +kernel) rfl, ax_tbl_sel 87 (by decide +kernel) rfl⟩
theorem lVX9_328 : ax_lV RX9 328 mX9_isGood := ⟨ax_tbl_of 1667 (by decide +kernel) rfl, ax_tbl_of 1669 (by decide +kernel) rfl, ax_tbl_sel 88 (by decide +kernel) rfl⟩
theorem lVX9_331 : ax_lV RX9 331 mX9_gapOf := ⟨ax_tbl_of 1675 (by decide +kernel) rfl, ax_tbl_of 1677 (by decide +kernel) rfl, ax_tbl_sel 89 (by decide +kernel) rfl⟩
theorem lVX9_337 : ax_lV RX9 337 mX9_padOf := ⟨ax_tbl_of 1683 (by decide +kernel) rfl, ax_tbl_of 1685 (by decide +kernel) rfl, ax_tbl_sel 90 (by decide +kernel) rfl⟩
theorem lVX9_350 : ax_lV RX9 350 mX9_isFirst := ⟨ax_tbl_of 1716 (by decide +kernel) rfl, ax_tbl_of 1718 (by decide +kernel) rfl, ax_tbl_sel 94 (by decide +kernel) rfl⟩
theorem lVX9_353 : ax_lV RX9 353 mX9_tellsLoop := ⟨ax_tbl_of 1712 (by decide +kernel) rfl, ax_tbl_of 1714 (by decide +kernel) rfl, ax_tbl_sel 93 (by decide +kernel) rfl⟩
theorem lVX9_356 : ax_lV RX9 356 mX9_loopsFrom := ⟨ax_tbl_of 1708 (by decide +kernel) rfl, ax_tbl_of 1710 (by decide +kernel) rfl, ax_tbl_sel 92 (by decide +kernel) rfl⟩
theorem lVX9_359 : ax_lV RX9 359 mX9_laysLoops := ⟨ax_tbl_of 1704 (by decide +kernel) rfl, ax_tbl_of 1706 (by decide +kernel) rfl, ax_tbl_sel 91 (by decide +kernel) rfl⟩
theorem lSX9_362 : ax_lS RX9 362 mX9_divisor := ⟨ax_tbl_of 1720 (by decide +kernel) rfl, ax_tbl_of 1721 (by decide +kernel) rfl⟩
theorem lVX9_366 : ax_lV RX9 366 mX9_leastNow := ⟨ax_tbl_of 1731 (by decide +kernel) rfl, ax_tbl_of 1733 (by decide +kernel) rfl, ax_tbl_sel 95 (by decide +kernel) rfl⟩
theorem lSX9_369 : ax_lS RX9 369 mX9_bits := ⟨ax_tbl_of 1759 (by decide +kernel) rfl, ax_tbl_of 1760 (by decide +kernel) rfl⟩
theorem lVX9_372 : ax_lV RX9 372 mX9_makes := ⟨ax_tbl_of 1762 (by decide +kernel) rfl, ax_tbl_of 1764 (by decide +kernel) rfl, ax_tbl_sel 96 (by decide +kernel) rfl⟩
theorem lVX9_375 : ax_lV RX9 375 mX9_hasLoop := ⟨ax_tbl_of 1766 (by decide +kernel) rfl, ax_tbl_of 1768 (by decide +kernel) rfl, ax_tbl_sel 97 (by decide +kernel) rfl⟩
theorem lVX9_378 : ax_lV RX9 378 mX9_nearOf := ⟨ax_tbl_of 1782 (by decide +kernel) rfl, ax_tbl_of 1784 (by decide +kernel) rfl, ax_tbl_sel 98 (by decide +kernel) rfl⟩
theorem lVX9_381 : ax_lV RX9 381 mX9_timeOf := ⟨ax_tbl_of 1794 (by decide +kernel) rfl, ax_tbl_of 1796 (by decide +kernel) rfl, ax_tbl_sel 99 (by decide +kernel) rfl⟩
theorem lVX9_389 : ax_lV RX9 389 mX9_draw := ⟨ax_tbl_of 1806 (by decide +kernel) rfl, ax_tbl_of 1808 (by decide +kernel) rfl, ax_tbl_sel 100 (by decide +kernel) rfl⟩
theorem lVX9_392 : ax_lV RX9 392 mX9_flopMany := ⟨ax_tbl_of 1816 (by decide +kernel) rfl, ax_tbl_of 1818 (by decide +kernel) rfl, ax_tbl_sel 101 (by decide +kernel) rfl⟩
theorem ax_maxw : Cond.static Lib.Math.max.name ∈ ax_tbl ∧ Cond.initialized "java/lang/Math" ∈ ax_tbl ∧ Cond.code Lib.Math.max.name Lib.Math.max.code 2 (some .int) ∈ ax_tbl := ⟨ax_tbl_of 605 (by decide +kernel) rfl, ax_tbl_of 11 (by decide +kernel) rfl, ax_tbl_of 606 (by decide +kernel) rfl⟩
theorem ax_minw : Cond.static Lib.Math.min.name ∈ ax_tbl ∧ Cond.initialized "java/lang/Math" ∈ ax_tbl ∧ Cond.code Lib.Math.min.name Lib.Math.min.code 2 (some .int) ∈ ax_tbl := ⟨ax_tbl_of 432 (by decide +kernel) rfl, ax_tbl_of 11 (by decide +kernel) rfl, ax_tbl_of 433 (by decide +kernel) rfl⟩
theorem mxX1_90 : Cond.methodLink RX1 90 Lib.Math.max.name ∈ ax_tbl := ax_tbl_of 604 (by decide +kernel) rfl
theorem mxX1_109 : Cond.methodLink RX1 109 Lib.Math.min.name ∈ ax_tbl := ax_tbl_of 611 (by decide +kernel) rfl
theorem mxX2_29 : Cond.methodLink RX2 29 Lib.Math.min.name ∈ ax_tbl := ax_tbl_of 563 (by decide +kernel) rfl
theorem mxX3_26 : Cond.methodLink RX3 26 Lib.Math.min.name ∈ ax_tbl := ax_tbl_of 431 (by decide +kernel) rfl
theorem mxX4_68 : Cond.methodLink RX4 68 Lib.Math.max.name ∈ ax_tbl := ax_tbl_of 886 (by decide +kernel) rfl
theorem mxX4_110 : Cond.methodLink RX4 110 Lib.Math.min.name ∈ ax_tbl := ax_tbl_of 955 (by decide +kernel) rfl
theorem mxX5_101 : Cond.methodLink RX5 101 Lib.Math.max.name ∈ ax_tbl := ax_tbl_of 971 (by decide +kernel) rfl
theorem mxX6_114 : Cond.methodLink RX6 114 Lib.Math.max.name ∈ ax_tbl := ax_tbl_of 867 (by decide +kernel) rfl
theorem mxX8_338 : Cond.methodLink RX8 338 Lib.Math.max.name ∈ ax_tbl := ax_tbl_of 744 (by decide +kernel) rfl
theorem ax_cpw : Cond.native arraycopyName ∈ ax_tbl ∧ Cond.static arraycopyName ∈ ax_tbl ∧ Cond.initialized "java/lang/System" ∈ ax_tbl := ⟨ax_tbl_of 529 (by decide +kernel) rfl, ax_tbl_of 528 (by decide +kernel) rfl, ax_tbl_of 12 (by decide +kernel) rfl⟩
theorem cpX0_88 : Cond.methodLink RX0 88 arraycopyName ∈ ax_tbl := ax_tbl_of 805 (by decide +kernel) rfl
theorem cpX1_70 : Cond.methodLink RX1 70 arraycopyName ∈ ax_tbl := ax_tbl_of 527 (by decide +kernel) rfl
theorem cpX4_83 : Cond.methodLink RX4 83 arraycopyName ∈ ax_tbl := ax_tbl_of 899 (by decide +kernel) rfl
