def fX1_takeAllOf (μ : ax_M) : Option (Unit × ax_M) :=
  (Option.bind (ax_cp μ 17 4 (0 : Int32) 3 4 (0 : Int32) (4 : Int32)) (fun m1 => (Option.bind (ax_cp m1 18 4 (0 : Int32) 4 4 (0 : Int32) (4 : Int32)) (fun m2 => (Option.bind (ax_cp m2 19 4 (0 : Int32) 5 4 (0 : Int32) (4 : Int32)) (fun m3 => (Option.bind (ax_cp m3 20 10 (0 : Int32) 6 10 (0 : Int32) (10 : Int32)) (fun m4 => (Option.bind (ax_cp m4 21 10 (0 : Int32) 7 10 (0 : Int32) (10 : Int32)) (fun m5 => (Option.bind (ax_cp m5 22 10 (0 : Int32) 8 10 (0 : Int32) (10 : Int32)) (fun m6 => (Option.bind (ax_cp m6 23 10 (0 : Int32) 9 10 (0 : Int32) (10 : Int32)) (fun m7 => (Option.bind (ax_cp m7 24 10 (0 : Int32) 10 10 (0 : Int32) (10 : Int32)) (fun m8 => (Option.bind (ax_cp m8 25 24 (0 : Int32) 11 24 (0 : Int32) (24 : Int32)) (fun m9 => (Option.bind (ax_cp m9 26 24 (0 : Int32) 12 24 (0 : Int32) (24 : Int32)) (fun m10 => (Option.bind (ax_cp m10 27 24 (0 : Int32) 13 24 (0 : Int32) (24 : Int32)) (fun m11 => (Option.bind (ax_cp m11 28 24 (0 : Int32) 14 24 (0 : Int32) (24 : Int32)) (fun m12 => (ax_let (ax_wi m12 2 12 (m12.1 16 12)) (fun m13 => (ax_let (ax_wi m13 2 13 (m13.1 16 13)) (fun m14 => (ax_let (ax_wi m14 2 14 (m14.1 16 14)) (fun m15 => (ax_let (ax_wi m15 2 15 (m15.1 16 15)) (fun m16 => (ax_let (ax_wi m16 2 16 (m16.1 16 16)) (fun m17 => (ax_let (ax_wi m17 2 17 (m17.1 16 17)) (fun m18 => (ax_let (ax_wi m18 2 18 (m18.1 16 18)) (fun m19 => (some ((), m19))))))))))))))))))))))))))))))))))))))))
theorem okX1_takeAllOf (μ : ax_M) : ax_Ok mX1_takeAllOf 1 ax_jV [.ref 2, .ref 16] μ (fX1_takeAllOf μ) := by
  refine ax_start (lc := [some (.ref 2), some (.ref 16)]) 0 (by decide +kernel) rfl (Nat.le_of_ble_eq_true rfl) (fun x G hG => ?_)
  unfold fX1_takeAllOf
  refine rf_aload_n (n := 1) 1 dX1_takeAllOf_0 rfl rfl rfl ?_
  refine rf_getR (n := 4) rr_16_0 kk_17 hG dX1_takeAllOf_1 flX1_9 ki_1_0 sS_16 kk_16 rfl ?_
  refine rf_iconst (n := 5) (0 : Int32) dX1_takeAllOf_4 cciconst_0 rfl ?_
  refine rf_aload_n (n := 6) 0 dX1_takeAllOf_5 rfl rfl rfl ?_
  refine rf_getR (n := 9) rr_2_0 kk_3 hG dX1_takeAllOf_6 flX1_9 ki_1_0 sS_2 kk_2 rfl ?_
  refine rf_iconst (n := 10) (0 : Int32) dX1_takeAllOf_9 cciconst_0 rfl ?_
  refine rf_iconst (n := 11) (4 : Int32) dX1_takeAllOf_10 cciconst_4 rfl ?_
  refine rf_copy (n := 14) hG dX1_takeAllOf_11 cpX1_70 ax_cpw (Nat.le_of_ble_eq_true rfl) (Nat.le_of_ble_eq_true rfl) sS_17 sS_3 kk_17 kk_3 rfl (fun m1 => ?_)
  refine rf_aload_n (n := 15) 1 dX1_takeAllOf_14 rfl rfl rfl ?_
  refine rf_getR (n := 18) rr_16_1 kk_18 hG dX1_takeAllOf_15 flX1_15 ki_1_1 sS_16 kk_16 rfl ?_
  refine rf_iconst (n := 19) (0 : Int32) dX1_takeAllOf_18 cciconst_0 rfl ?_
  refine rf_aload_n (n := 20) 0 dX1_takeAllOf_19 rfl rfl rfl ?_
  refine rf_getR (n := 23) rr_2_1 kk_4 hG dX1_takeAllOf_20 flX1_15 ki_1_1 sS_2 kk_2 rfl ?_
  refine rf_iconst (n := 24) (0 : Int32) dX1_takeAllOf_23 cciconst_0 rfl ?_
  refine rf_iconst (n := 25) (4 : Int32) dX1_takeAllOf_24 cciconst_4 rfl ?_
  refine rf_copy (n := 28) hG dX1_takeAllOf_25 cpX1_70 ax_cpw (Nat.le_of_ble_eq_true rfl) (Nat.le_of_ble_eq_true rfl) sS_18 sS_4 kk_18 kk_4 rfl (fun m2 => ?_)
  refine rf_aload_n (n := 29) 1 dX1_takeAllOf_28 rfl rfl rfl ?_
  refine rf_getR (n := 32) rr_16_2 kk_19 hG dX1_takeAllOf_29 flX1_18 ki_1_2 sS_16 kk_16 rfl ?_
  refine rf_iconst (n := 33) (0 : Int32) dX1_takeAllOf_32 cciconst_0 rfl ?_
  refine rf_aload_n (n := 34) 0 dX1_takeAllOf_33 rfl rfl rfl ?_
  refine rf_getR (n := 37) rr_2_2 kk_5 hG dX1_takeAllOf_34 flX1_18 ki_1_2 sS_2 kk_2 rfl ?_
  refine rf_iconst (n := 38) (0 : Int32) dX1_takeAllOf_37 cciconst_0 rfl ?_
  refine rf_iconst (n := 39) (4 : Int32) dX1_takeAllOf_38 cciconst_4 rfl ?_
  refine rf_copy (n := 42) hG dX1_takeAllOf_39 cpX1_70 ax_cpw (Nat.le_of_ble_eq_true rfl) (Nat.le_of_ble_eq_true rfl) sS_19 sS_5 kk_19 kk_5 rfl (fun m3 => ?_)
  refine rf_aload_n (n := 43) 1 dX1_takeAllOf_42 rfl rfl rfl ?_
  refine rf_getR (n := 46) rr_16_3 kk_20 hG dX1_takeAllOf_43 flX1_21 ki_1_3 sS_16 kk_16 rfl ?_
  refine rf_iconst (n := 47) (0 : Int32) dX1_takeAllOf_46 cciconst_0 rfl ?_
  refine rf_aload_n (n := 48) 0 dX1_takeAllOf_47 rfl rfl rfl ?_
  refine rf_getR (n := 51) rr_2_3 kk_6 hG dX1_takeAllOf_48 flX1_21 ki_1_3 sS_2 kk_2 rfl ?_
  refine rf_iconst (n := 52) (0 : Int32) dX1_takeAllOf_51 cciconst_0 rfl ?_
  refine rf_bipush (n := 54) (10 : Int32) dX1_takeAllOf_52 ccbipush_10 rfl ?_
  refine rf_copy (n := 57) hG dX1_takeAllOf_54 cpX1_70 ax_cpw (Nat.le_of_ble_eq_true rfl) (Nat.le_of_ble_eq_true rfl) sS_20 sS_6 kk_20 kk_6 rfl (fun m4 => ?_)
  refine rf_aload_n (n := 58) 1 dX1_takeAllOf_57 rfl rfl rfl ?_
  refine rf_getR (n := 61) rr_16_4 kk_21 hG dX1_takeAllOf_58 flX1_24 ki_1_4 sS_16 kk_16 rfl ?_
  refine rf_iconst (n := 62) (0 : Int32) dX1_takeAllOf_61 cciconst_0 rfl ?_
  refine rf_aload_n (n := 63) 0 dX1_takeAllOf_62 rfl rfl rfl ?_
  refine rf_getR (n := 66) rr_2_4 kk_7 hG dX1_takeAllOf_63 flX1_24 ki_1_4 sS_2 kk_2 rfl ?_
  refine rf_iconst (n := 67) (0 : Int32) dX1_takeAllOf_66 cciconst_0 rfl ?_
  refine rf_bipush (n := 69) (10 : Int32) dX1_takeAllOf_67 ccbipush_10 rfl ?_
  refine rf_copy (n := 72) hG dX1_takeAllOf_69 cpX1_70 ax_cpw (Nat.le_of_ble_eq_true rfl) (Nat.le_of_ble_eq_true rfl) sS_21 sS_7 kk_21 kk_7 rfl (fun m5 => ?_)
  refine rf_aload_n (n := 73) 1 dX1_takeAllOf_72 rfl rfl rfl ?_
  refine rf_getR (n := 76) rr_16_5 kk_22 hG dX1_takeAllOf_73 flX1_27 ki_1_5 sS_16 kk_16 rfl ?_
  refine rf_iconst (n := 77) (0 : Int32) dX1_takeAllOf_76 cciconst_0 rfl ?_
  refine rf_aload_n (n := 78) 0 dX1_takeAllOf_77 rfl rfl rfl ?_
  refine rf_getR (n := 81) rr_2_5 kk_8 hG dX1_takeAllOf_78 flX1_27 ki_1_5 sS_2 kk_2 rfl ?_
  refine rf_iconst (n := 82) (0 : Int32) dX1_takeAllOf_81 cciconst_0 rfl ?_
  refine rf_bipush (n := 84) (10 : Int32) dX1_takeAllOf_82 ccbipush_10 rfl ?_
  refine rf_copy (n := 87) hG dX1_takeAllOf_84 cpX1_70 ax_cpw (Nat.le_of_ble_eq_true rfl) (Nat.le_of_ble_eq_true rfl) sS_22 sS_8 kk_22 kk_8 rfl (fun m6 => ?_)
  refine rf_aload_n (n := 88) 1 dX1_takeAllOf_87 rfl rfl rfl ?_
  refine rf_getR (n := 91) rr_16_6 kk_23 hG dX1_takeAllOf_88 flX1_30 ki_1_6 sS_16 kk_16 rfl ?_
  refine rf_iconst (n := 92) (0 : Int32) dX1_takeAllOf_91 cciconst_0 rfl ?_
  refine rf_aload_n (n := 93) 0 dX1_takeAllOf_92 rfl rfl rfl ?_
  refine rf_getR (n := 96) rr_2_6 kk_9 hG dX1_takeAllOf_93 flX1_30 ki_1_6 sS_2 kk_2 rfl ?_
  refine rf_iconst (n := 97) (0 : Int32) dX1_takeAllOf_96 cciconst_0 rfl ?_
  refine rf_bipush (n := 99) (10 : Int32) dX1_takeAllOf_97 ccbipush_10 rfl ?_
  refine rf_copy (n := 102) hG dX1_takeAllOf_99 cpX1_70 ax_cpw (Nat.le_of_ble_eq_true rfl) (Nat.le_of_ble_eq_true rfl) sS_23 sS_9 kk_23 kk_9 rfl (fun m7 => ?_)
  refine rf_aload_n (n := 103) 1 dX1_takeAllOf_102 rfl rfl rfl ?_
  refine rf_getR (n := 106) rr_16_7 kk_24 hG dX1_takeAllOf_103 flX1_33 ki_1_7 sS_16 kk_16 rfl ?_
  refine rf_iconst (n := 107) (0 : Int32) dX1_takeAllOf_106 cciconst_0 rfl ?_
  refine rf_aload_n (n := 108) 0 dX1_takeAllOf_107 rfl rfl rfl ?_
  refine rf_getR (n := 111) rr_2_7 kk_10 hG dX1_takeAllOf_108 flX1_33 ki_1_7 sS_2 kk_2 rfl ?_
  refine rf_iconst (n := 112) (0 : Int32) dX1_takeAllOf_111 cciconst_0 rfl ?_
  refine rf_bipush (n := 114) (10 : Int32) dX1_takeAllOf_112 ccbipush_10 rfl ?_
  refine rf_copy (n := 117) hG dX1_takeAllOf_114 cpX1_70 ax_cpw (Nat.le_of_ble_eq_true rfl) (Nat.le_of_ble_eq_true rfl) sS_24 sS_10 kk_24 kk_10 rfl (fun m8 => ?_)
  refine rf_aload_n (n := 118) 1 dX1_takeAllOf_117 rfl rfl rfl ?_
  refine rf_getR (n := 121) rr_16_8 kk_25 hG dX1_takeAllOf_118 flX1_36 ki_1_8 sS_16 kk_16 rfl ?_
  refine rf_iconst (n := 122) (0 : Int32) dX1_takeAllOf_121 cciconst_0 rfl ?_
  refine rf_aload_n (n := 123) 0 dX1_takeAllOf_122 rfl rfl rfl ?_
  refine rf_getR (n := 126) rr_2_8 kk_11 hG dX1_takeAllOf_123 flX1_36 ki_1_8 sS_2 kk_2 rfl ?_
  refine rf_iconst (n := 127) (0 : Int32) dX1_takeAllOf_126 cciconst_0 rfl ?_
  refine rf_bipush (n := 129) (24 : Int32) dX1_takeAllOf_127 ccbipush_24 rfl ?_
  refine rf_copy (n := 132) hG dX1_takeAllOf_129 cpX1_70 ax_cpw (Nat.le_of_ble_eq_true rfl) (Nat.le_of_ble_eq_true rfl) sS_25 sS_11 kk_25 kk_11 rfl (fun m9 => ?_)
  refine rf_aload_n (n := 133) 1 dX1_takeAllOf_132 rfl rfl rfl ?_
  refine rf_getR (n := 136) rr_16_9 kk_26 hG dX1_takeAllOf_133 flX1_39 ki_1_9 sS_16 kk_16 rfl ?_
  refine rf_iconst (n := 137) (0 : Int32) dX1_takeAllOf_136 cciconst_0 rfl ?_
  refine rf_aload_n (n := 138) 0 dX1_takeAllOf_137 rfl rfl rfl ?_
  refine rf_getR (n := 141) rr_2_9 kk_12 hG dX1_takeAllOf_138 flX1_39 ki_1_9 sS_2 kk_2 rfl ?_
  refine rf_iconst (n := 142) (0 : Int32) dX1_takeAllOf_141 cciconst_0 rfl ?_
  refine rf_bipush (n := 144) (24 : Int32) dX1_takeAllOf_142 ccbipush_24 rfl ?_
  refine rf_copy (n := 147) hG dX1_takeAllOf_144 cpX1_70 ax_cpw (Nat.le_of_ble_eq_true rfl) (Nat.le_of_ble_eq_true rfl) sS_26 sS_12 kk_26 kk_12 rfl (fun m10 => ?_)
  refine rf_aload_n (n := 148) 1 dX1_takeAllOf_147 rfl rfl rfl ?_
  refine rf_getR (n := 151) rr_16_10 kk_27 hG dX1_takeAllOf_148 flX1_42 ki_1_10 sS_16 kk_16 rfl ?_
  refine rf_iconst (n := 152) (0 : Int32) dX1_takeAllOf_151 cciconst_0 rfl ?_
  refine rf_aload_n (n := 153) 0 dX1_takeAllOf_152 rfl rfl rfl ?_
  refine rf_getR (n := 156) rr_2_10 kk_13 hG dX1_takeAllOf_153 flX1_42 ki_1_10 sS_2 kk_2 rfl ?_
  refine rf_iconst (n := 157) (0 : Int32) dX1_takeAllOf_156 cciconst_0 rfl ?_
  refine rf_bipush (n := 159) (24 : Int32) dX1_takeAllOf_157 ccbipush_24 rfl ?_
  refine rf_copy (n := 162) hG dX1_takeAllOf_159 cpX1_70 ax_cpw (Nat.le_of_ble_eq_true rfl) (Nat.le_of_ble_eq_true rfl) sS_27 sS_13 kk_27 kk_13 rfl (fun m11 => ?_)
  refine rf_aload_n (n := 163) 1 dX1_takeAllOf_162 rfl rfl rfl ?_
  refine rf_getR (n := 166) rr_16_11 kk_28 hG dX1_takeAllOf_163 flX1_45 ki_1_11 sS_16 kk_16 rfl ?_
  refine rf_iconst (n := 167) (0 : Int32) dX1_takeAllOf_166 cciconst_0 rfl ?_
  refine rf_aload_n (n := 168) 0 dX1_takeAllOf_167 rfl rfl rfl ?_
  refine rf_getR (n := 171) rr_2_11 kk_14 hG dX1_takeAllOf_168 flX1_45 ki_1_11 sS_2 kk_2 rfl ?_
  refine rf_iconst (n := 172) (0 : Int32) dX1_takeAllOf_171 cciconst_0 rfl ?_
  refine rf_bipush (n := 174) (24 : Int32) dX1_takeAllOf_172 ccbipush_24 rfl ?_
  refine rf_copy (n := 177) hG dX1_takeAllOf_174 cpX1_70 ax_cpw (Nat.le_of_ble_eq_true rfl) (Nat.le_of_ble_eq_true rfl) sS_28 sS_14 kk_28 kk_14 rfl (fun m12 => ?_)
  refine rf_aload_n (n := 178) 0 dX1_takeAllOf_177 rfl rfl rfl ?_
  refine rf_aload_n (n := 179) 1 dX1_takeAllOf_178 rfl rfl rfl ?_
  refine rf_getI (n := 182) hG dX1_takeAllOf_179 flX1_52 ki_1_12 sS_16 kk_16 rfl ?_
  refine rf_pfI (n := 185) hG rfl dX1_takeAllOf_182 flX1_52 ki_1_12 nf_1_12 sS_2 kk_2 rfl (fun m13 => ?_)
  refine rf_aload_n (n := 186) 0 dX1_takeAllOf_185 rfl rfl rfl ?_
  refine rf_aload_n (n := 187) 1 dX1_takeAllOf_186 rfl rfl rfl ?_
  refine rf_getI (n := 190) hG dX1_takeAllOf_187 flX1_55 ki_1_13 sS_16 kk_16 rfl ?_
  refine rf_pfI (n := 193) hG rfl dX1_takeAllOf_190 flX1_55 ki_1_13 nf_1_13 sS_2 kk_2 rfl (fun m14 => ?_)
  refine rf_aload_n (n := 194) 0 dX1_takeAllOf_193 rfl rfl rfl ?_
  refine rf_aload_n (n := 195) 1 dX1_takeAllOf_194 rfl rfl rfl ?_
  refine rf_getI (n := 198) hG dX1_takeAllOf_195 flX1_58 ki_1_14 sS_16 kk_16 rfl ?_
  refine rf_pfI (n := 201) hG rfl dX1_takeAllOf_198 flX1_58 ki_1_14 nf_1_14 sS_2 kk_2 rfl (fun m15 => ?_)
  refine rf_aload_n (n := 202) 0 dX1_takeAllOf_201 rfl rfl rfl ?_
  refine rf_aload_n (n := 203) 1 dX1_takeAllOf_202 rfl rfl rfl ?_
  refine rf_getI (n := 206) hG dX1_takeAllOf_203 flX1_61 ki_1_15 sS_16 kk_16 rfl ?_
  refine rf_pfI (n := 209) hG rfl dX1_takeAllOf_206 flX1_61 ki_1_15 nf_1_15 sS_2 kk_2 rfl (fun m16 => ?_)
  refine rf_aload_n (n := 210) 0 dX1_takeAllOf_209 rfl rfl rfl ?_
  refine rf_aload_n (n := 211) 1 dX1_takeAllOf_210 rfl rfl rfl ?_
  refine rf_getI (n := 214) hG dX1_takeAllOf_211 flX1_48 ki_1_16 sS_16 kk_16 rfl ?_
  refine rf_pfI (n := 217) hG rfl dX1_takeAllOf_214 flX1_48 ki_1_16 nf_1_16 sS_2 kk_2 rfl (fun m17 => ?_)
  refine rf_aload_n (n := 218) 0 dX1_takeAllOf_217 rfl rfl rfl ?_
  refine rf_aload_n (n := 219) 1 dX1_takeAllOf_218 rfl rfl rfl ?_
  refine rf_getI (n := 222) hG dX1_takeAllOf_219 flX1_64 ki_1_17 sS_16 kk_16 rfl ?_
  refine rf_pfI (n := 225) hG rfl dX1_takeAllOf_222 flX1_64 ki_1_17 nf_1_17 sS_2 kk_2 rfl (fun m18 => ?_)
  refine rf_aload_n (n := 226) 0 dX1_takeAllOf_225 rfl rfl rfl ?_
  refine rf_aload_n (n := 227) 1 dX1_takeAllOf_226 rfl rfl rfl ?_
  refine rf_getI (n := 230) hG dX1_takeAllOf_227 flX1_67 ki_1_18 sS_16 kk_16 rfl ?_
  refine rf_pfI (n := 233) hG rfl dX1_takeAllOf_230 flX1_67 ki_1_18 nf_1_18 sS_2 kk_2 rfl (fun m19 => ?_)
  exact rf_retV rfl dX1_takeAllOf_233
def fX2_forgetAll (μ : ax_M) : Option (Unit × ax_M) :=
  (ax_let (ax_wi μ 29 3 (0 : Int32)) (fun m1 => (some ((), m1))))
theorem okX2_forgetAll (μ : ax_M) : ax_Ok mX2_forgetAll 0 ax_jV [.ref 29] μ (fX2_forgetAll μ) := by
  refine ax_start (lc := [some (.ref 29)]) 0 (by decide +kernel) rfl (Nat.le_of_ble_eq_true rfl) (fun x G hG => ?_)
  unfold fX2_forgetAll
  refine rf_aload_n (n := 1) 0 dX2_forgetAll_0 rfl rfl rfl ?_
  refine rf_iconst (n := 2) (0 : Int32) dX2_forgetAll_1 cciconst_0 rfl ?_
  refine rf_pfI (n := 5) hG rfl dX2_forgetAll_2 flX2_26 ki_2_3 nf_2_3 sS_29 kk_29 rfl (fun m1 => ?_)
  exact rf_retV rfl dX2_forgetAll_5
def fX8_forgetAnswers (μ : ax_M) : Option (Unit × ax_M) :=
  (ax_let (ax_wi μ 32 5 (0 : Int32)) (fun m1 => (ax_let (ax_wi m1 41 8 (0 : Int32)) (fun m2 => (some ((), m2))))))
theorem okX8_forgetAnswers (μ : ax_M) : ax_Ok mX8_forgetAnswers 0 ax_jV [.ref 0] μ (fX8_forgetAnswers μ) := by
  refine ax_start (lc := [some (.ref 0)]) 0 (by decide +kernel) rfl (Nat.le_of_ble_eq_true rfl) (fun x G hG => ?_)
  unfold fX8_forgetAnswers
  refine rf_aload_n (n := 1) 0 dX8_forgetAnswers_0 rfl rfl rfl ?_
  refine rf_getR (n := 4) rr_0_5 kk_32 hG dX8_forgetAnswers_1 flX8_41 ki_8_5 sS_0 kk_0 rfl ?_
  refine rf_iconst (n := 5) (0 : Int32) dX8_forgetAnswers_4 cciconst_0 rfl ?_
  refine rf_pfZ (n := 8) hG rfl (Or.inl rfl) dX8_forgetAnswers_5 flX8_121 ki_5_5 nf_5_5 sS_32 kk_32 rfl (fun m1 => ?_)
  refine rf_aload_n (n := 9) 0 dX8_forgetAnswers_8 rfl rfl rfl ?_
  refine rf_getR (n := 12) rr_0_7 kk_41 hG dX8_forgetAnswers_9 flX8_55 ki_8_7 sS_0 kk_0 rfl ?_
  refine rf_iconst (n := 13) (0 : Int32) dX8_forgetAnswers_12 cciconst_0 rfl ?_
  refine rf_pfZ (n := 16) hG rfl (Or.inl rfl) dX8_forgetAnswers_13 flX8_124 ki_0_8 nf_0_8 sS_41 kk_41 rfl (fun m2 => ?_)
  exact rf_retV rfl dX8_forgetAnswers_16
def fX8_text_K12 (μ : ax_M) : Option (Int32 × ax_M) :=
  (some ((-2 : Int32), μ))
theorem pX8_text_K12 {x : ax_X} {G : ax_G} (hG : ax_ok G) (μ : ax_M) : ax_Rf mX8_text 7 x (ax_Z ax_jI x G) G 0 0 12 [none, none] [] μ (fX8_text_K12 μ) := by
  unfold fX8_text_K12
  refine rf_bipush (n := 14) (-2 : Int32) dX8_text_12 ccbipush_m2 rfl ?_
  exact rf_retI rfl dX8_text_14
def fX8_text (p1 : Int32) (μ : ax_M) : Option (Int32 × ax_M) :=
  (if p1 < 0 then (fX8_text_K12 μ) else (if p1 ≤ (μ.1 0 1) then (ax_let (ax_wi μ 0 1 (0 : Int32)) (fun m1 => (ax_bd (fX3_read p1 m1) (fun v2 m3 => (if v2 = 0 then (some ((-1 : Int32), m3)) else (ax_bd (fX1_takeAllOf m3) (fun _ m5 => (ax_bd (fX2_forgetAll m5) (fun _ m7 => (ax_let (ax_wi m7 29 4 (0 : Int32)) (fun m8 => (ax_bd (fX8_forgetAnswers m8) (fun _ m10 => (some ((m10.1 15 1), m10))))))))))))))) else (fX8_text_K12 μ)))
theorem okX8_text (p1 : Int32) (μ : ax_M) : ax_Ok mX8_text 7 ax_jI [.ref 0, .int p1] μ (fX8_text p1 μ) := by
  refine ax_start (lc := [some (.ref 0), some (.int p1)]) 0 (by decide +kernel) rfl (Nat.le_of_ble_eq_true rfl) (fun x G hG => ?_)
  unfold fX8_text
  refine rf_iload_n (n := 1) 1 dX8_text_0 rfl rfl rfl ?_
  refine rf_if_lt (tg := 12) (n := 4) dX8_text_1 rfl rfl (fun c13 => ?_) (fun c13 => ?_)
  · refine rf_mask (lc2 := [none, none]) [false, false] rfl ?_
    exact pX8_text_K12 hG _
  · refine rf_iload_n (n := 5) 1 dX8_text_4 rfl rfl rfl ?_
    refine rf_aload_n (n := 6) 0 dX8_text_5 rfl rfl rfl ?_
    refine rf_getI (n := 9) hG dX8_text_6 flX8_68 ki_8_1 sS_0 kk_0 rfl ?_
    refine rf_icmp_le (tg := 15) (n := 12) dX8_text_9 rfl rfl (fun c12 => ?_) (fun c12 => ?_)
    · refine rf_aload_n (n := 16) 0 dX8_text_15 rfl rfl rfl ?_
      refine rf_iconst (n := 17) (0 : Int32) dX8_text_16 cciconst_0 rfl ?_
      refine rf_pfI (n := 20) hG rfl dX8_text_17 flX8_68 ki_8_1 nf_8_1 sS_0 kk_0 rfl (fun m1 => ?_)
      refine rf_aload_n (n := 21) 0 dX8_text_20 rfl rfl rfl ?_
      refine rf_getR (n := 24) rr_0_3 kk_15 hG dX8_text_21 flX8_25 ki_8_3 sS_0 kk_0 rfl ?_
      refine rf_iload_n (n := 25) 1 dX8_text_24 rfl rfl rfl ?_
      refine rf_cV1I (n := 28) hG (okX3_read _ _) lVX8_76 hhX3_read kk_15 sS_15 ⟨_, rfl, rfl⟩ dX8_text_25 rfl (Nat.le_of_ble_eq_true rfl) (Nat.le_of_ble_eq_true rfl) (fun v2 m3 => ?_)
      refine rf_if_ne (tg := 33) (n := 31) dX8_text_28 rfl rfl (fun c11 => ?_) (fun c11 => ?_)
      · refine rf_aload_n (n := 34) 0 dX8_text_33 rfl rfl rfl ?_
        refine rf_getR (n := 37) rr_0_2 kk_2 hG dX8_text_34 flX8_16 ki_8_2 sS_0 kk_0 rfl ?_
        refine rf_aload_n (n := 38) 0 dX8_text_37 rfl rfl rfl ?_
        refine rf_getR (n := 41) rr_0_3 kk_15 hG dX8_text_38 flX8_25 ki_8_3 sS_0 kk_0 rfl ?_
        refine rf_getR (n := 44) rr_15_0 kk_16 hG dX8_text_41 flX8_80 ki_3_0 sS_15 kk_15 rfl ?_
        refine rf_cV1V (n := 47) hG (okX1_takeAllOf _) lVX8_83 hhX1_takeAllOf kk_2 sS_2 ⟨_, rfl, rfl⟩ dX8_text_44 rfl (Nat.le_of_ble_eq_true rfl) (Nat.le_of_ble_eq_true rfl) (fun _ m5 => ?_)
        refine rf_aload_n (n := 48) 0 dX8_text_47 rfl rfl rfl ?_
        refine rf_getR (n := 51) rr_0_4 kk_29 hG dX8_text_48 flX8_32 ki_8_4 sS_0 kk_0 rfl ?_
        refine rf_cV0V (n := 54) hG (okX2_forgetAll _) lVX8_86 hhX2_forgetAll kk_29 sS_29 ⟨_, rfl, rfl⟩ dX8_text_51 rfl (Nat.le_of_ble_eq_true rfl) (Nat.le_of_ble_eq_true rfl) (fun _ m7 => ?_)
        refine rf_aload_n (n := 55) 0 dX8_text_54 rfl rfl rfl ?_
        refine rf_getR (n := 58) rr_0_4 kk_29 hG dX8_text_55 flX8_32 ki_8_4 sS_0 kk_0 rfl ?_
        refine rf_iconst (n := 59) (0 : Int32) dX8_text_58 cciconst_0 rfl ?_
        refine rf_pfZ (n := 62) hG rfl (Or.inl rfl) dX8_text_59 flX8_89 ki_2_4 nf_2_4 sS_29 kk_29 rfl (fun m8 => ?_)
        refine rf_aload_n (n := 63) 0 dX8_text_62 rfl rfl rfl ?_
        refine rf_cV0V (n := 66) hG (okX8_forgetAnswers _) lVX8_93 hhX8_forgetAnswers kk_0 sS_0 ⟨_, rfl, rfl⟩ dX8_text_63 rfl (Nat.le_of_ble_eq_true rfl) (Nat.le_of_ble_eq_true rfl) (fun _ m10 => ?_)
        refine rf_aload_n (n := 67) 0 dX8_text_66 rfl rfl rfl ?_
        refine rf_getR (n := 70) rr_0_3 kk_15 hG dX8_text_67 flX8_25 ki_8_3 sS_0 kk_0 rfl ?_
        refine rf_getI (n := 73) hG dX8_text_70 flX8_96 ki_3_1 sS_15 kk_15 rfl ?_
        exact rf_retI rfl dX8_text_73
      · refine rf_iconst (n := 32) (-1 : Int32) dX8_text_31 cciconst_m1 rfl ?_
        exact rf_retI rfl dX8_text_32
    · refine rf_mask (lc2 := [none, none]) [false, false] rfl ?_
      exact pX8_text_K12 hG _
def fX9_reads (p1 : Int32) (p2 : Int32) (μ : ax_M) : Option (Unit × ax_M) :=
  (Option.bind (ax_wr μ 59 12 ((6 : Int32) + p1) p2) (fun m1 => (some ((), m1))))
theorem okX9_reads (p1 : Int32) (p2 : Int32) (μ : ax_M) : ax_Ok mX9_reads 0 ax_jV [.ref 57, .int p1, .int p2] μ (fX9_reads p1 p2 μ) := by
  refine ax_start (lc := [some (.ref 57), some (.int p1), some (.int p2)]) 0 (by decide +kernel) rfl (Nat.le_of_ble_eq_true rfl) (fun x G hG => ?_)
  unfold fX9_reads
  refine rf_aload_n (n := 1) 0 dX9_reads_0 rfl rfl rfl ?_
  refine rf_getR (n := 4) rr_57_3 kk_59 hG dX9_reads_1 flX9_13 ki_9_3 sS_57 kk_57 rfl ?_
  refine rf_bipush (n := 6) (6 : Int32) dX9_reads_4 ccbipush_6 rfl ?_
  refine rf_iload_n (n := 7) 1 dX9_reads_6 rfl rfl rfl ?_
  refine rf_iadd (n := 8) dX9_reads_7 rfl ?_
  refine rf_iload_n (n := 9) 2 dX9_reads_8 rfl rfl rfl ?_
  refine rf_iast (n := 10) hG dX9_reads_9 sS_59 kk_59 rfl (fun m1 => ?_)
  exact rf_retV rfl dX9_reads_10
def fX9_freshText_B29 (r29 : Int32 → ax_M → Option (Unit × ax_M)) (l1 : Int32) (μ : ax_M) : Option (Unit × ax_M) :=
  (if (7 : Int32) ≤ l1 then (some ((), μ)) else (Option.bind (ax_wz μ 60 7 l1 (0 : Int32)) (fun m3 => (r29 (l1 + (1 : Int32)) m3))))
theorem pX9_freshText_B29 {x : ax_X} {G : ax_G} (hG : ax_ok G) (r29 : Int32 → ax_M → Option (Unit × ax_M)) (hr29 : ∀ (a1 : Int32) (μ : ax_M), ax_Rf mX9_freshText 1 x (ax_Z ax_jV x G) G 0 0 29 [some (.ref 57), some (.int a1)] [] μ (r29 a1 μ)) (l1 : Int32) (μ : ax_M) : ax_Rf mX9_freshText 1 x (ax_Z ax_jV x G) G 0 0 29 [some (.ref 57), some (.int l1)] [] μ (fX9_freshText_B29 r29 l1 μ) := by
  unfold fX9_freshText_B29
  refine rf_iload_n (n := 30) 1 dX9_freshText_29 rfl rfl rfl ?_
  refine rf_bipush (n := 32) (7 : Int32) dX9_freshText_30 ccbipush_7 rfl ?_
  refine rf_icmp_ge (tg := 48) (n := 35) dX9_freshText_32 rfl rfl (fun c4 => ?_) (fun c4 => ?_)
  · exact rf_retV rfl dX9_freshText_48
  · refine rf_aload_n (n := 36) 0 dX9_freshText_35 rfl rfl rfl ?_
    refine rf_getR (n := 39) rr_57_4 kk_60 hG dX9_freshText_36 flX9_16 ki_9_4 sS_57 kk_57 rfl ?_
    refine rf_iload_n (n := 40) 1 dX9_freshText_39 rfl rfl rfl ?_
    refine rf_iconst (n := 41) (0 : Int32) dX9_freshText_40 cciconst_0 rfl ?_
    refine rf_zast (n := 42) hG dX9_freshText_41 sS_60 kk_60 rfl (fun m3 => ?_)
    refine rf_iinc (lc2 := [some (.ref 57), some (.int (l1 + (1 : Int32)))]) (n := 45) (w := (1 : Int32)) 1 dX9_freshText_42 rfl rfl rfl (Nat.le_of_ble_eq_true rfl) rfl rfl ?_
    refine rf_goto (tg := 29) dX9_freshText_45 rfl ?_
    exact hr29 _ _
theorem pX9_freshText_L29 {x : ax_X} {G : ax_G} (hG : ax_ok G) (n : Nat) (a1 : Int32) (μ : ax_M) : ax_Rf mX9_freshText 1 x (ax_Z ax_jV x G) G 0 0 29 [some (.ref 57), some (.int a1)] [] μ (ax_lp1 (fX9_freshText_B29) n a1 μ) :=
  rf_lp1 (P := fun a1 μ t => ax_Rf mX9_freshText 1 x (ax_Z ax_jV x G) G 0 0 29 [some (.ref 57), some (.int a1)] [] μ t) (fun _ _ => rf_none) (fun rc hrc a1 μ => pX9_freshText_B29 hG rc hrc a1 μ) n a1 μ
def fX9_freshText_B2 (r2 : Int32 → ax_M → Option (Unit × ax_M)) (l1 : Int32) (μ : ax_M) : Option (Unit × ax_M) :=
  (if (6 : Int32) ≤ l1 then (ax_bd (fX9_reads (0 : Int32) (100 : Int32) μ) (fun _ m2 => (ax_lp1 (fX9_freshText_B29) ax_FU (0 : Int32) m2))) else (ax_bd (fX9_reads l1 (0 : Int32) μ) (fun _ m6 => (r2 (l1 + (1 : Int32)) m6))))
theorem pX9_freshText_B2 {x : ax_X} {G : ax_G} (hG : ax_ok G) (r2 : Int32 → ax_M → Option (Unit × ax_M)) (hr2 : ∀ (a1 : Int32) (μ : ax_M), ax_Rf mX9_freshText 1 x (ax_Z ax_jV x G) G 0 0 2 [some (.ref 57), some (.int a1)] [] μ (r2 a1 μ)) (l1 : Int32) (μ : ax_M) : ax_Rf mX9_freshText 1 x (ax_Z ax_jV x G) G 0 0 2 [some (.ref 57), some (.int l1)] [] μ (fX9_freshText_B2 r2 l1 μ) := by
  unfold fX9_freshText_B2
  refine rf_iload_n (n := 3) 1 dX9_freshText_2 rfl rfl rfl ?_
  refine rf_bipush (n := 5) (6 : Int32) dX9_freshText_3 ccbipush_6 rfl ?_
  refine rf_icmp_ge (tg := 20) (n := 8) dX9_freshText_5 rfl rfl (fun c7 => ?_) (fun c7 => ?_)
  · refine rf_aload_n (n := 21) 0 dX9_freshText_20 rfl rfl rfl ?_
    refine rf_iconst (n := 22) (0 : Int32) dX9_freshText_21 cciconst_0 rfl ?_
    refine rf_bipush (n := 24) (100 : Int32) dX9_freshText_22 ccbipush_100 rfl ?_
    refine rf_cV2V (n := 27) hG (okX9_reads _ _ _) lVX9_173 hhX9_reads kk_57 sS_57 ⟨_, rfl, rfl⟩ dX9_freshText_24 rfl (Nat.le_of_ble_eq_true rfl) (Nat.le_of_ble_eq_true rfl) (fun _ m2 => ?_)
    refine rf_iconst (n := 28) (0 : Int32) dX9_freshText_27 cciconst_0 rfl ?_
    refine rf_istore_n (lc2 := [some (.ref 57), some (.int (0 : Int32))]) (n := 29) 1 dX9_freshText_28 rfl rfl (Nat.le_of_ble_eq_true rfl) rfl rfl ?_
    exact pX9_freshText_L29 hG _ _ _
  · refine rf_aload_n (n := 9) 0 dX9_freshText_8 rfl rfl rfl ?_
    refine rf_iload_n (n := 10) 1 dX9_freshText_9 rfl rfl rfl ?_
    refine rf_iconst (n := 11) (0 : Int32) dX9_freshText_10 cciconst_0 rfl ?_
    refine rf_cV2V (n := 14) hG (okX9_reads _ _ _) lVX9_173 hhX9_reads kk_57 sS_57 ⟨_, rfl, rfl⟩ dX9_freshText_11 rfl (Nat.le_of_ble_eq_true rfl) (Nat.le_of_ble_eq_true rfl) (fun _ m6 => ?_)
    refine rf_iinc (lc2 := [some (.ref 57), some (.int (l1 + (1 : Int32)))]) (n := 17) (w := (1 : Int32)) 1 dX9_freshText_14 rfl rfl rfl (Nat.le_of_ble_eq_true rfl) rfl rfl ?_
    refine rf_goto (tg := 2) dX9_freshText_17 rfl ?_
    exact hr2 _ _
theorem pX9_freshText_L2 {x : ax_X} {G : ax_G} (hG : ax_ok G) (n : Nat) (a1 : Int32) (μ : ax_M) : ax_Rf mX9_freshText 1 x (ax_Z ax_jV x G) G 0 0 2 [some (.ref 57), some (.int a1)] [] μ (ax_lp1 (fX9_freshText_B2) n a1 μ) :=
  rf_lp1 (P := fun a1 μ t => ax_Rf mX9_freshText 1 x (ax_Z ax_jV x G) G 0 0 2 [some (.ref 57), some (.int a1)] [] μ t) (fun _ _ => rf_none) (fun rc hrc a1 μ => pX9_freshText_B2 hG rc hrc a1 μ) n a1 μ
def fX9_freshText (μ : ax_M) : Option (Unit × ax_M) :=
  (ax_lp1 (fX9_freshText_B2) ax_FU (0 : Int32) μ)
theorem okX9_freshText (μ : ax_M) : ax_Ok mX9_freshText 1 ax_jV [.ref 57] μ (fX9_freshText μ) := by
  refine ax_start (lc := [some (.ref 57), none]) 1 (by decide +kernel) rfl (Nat.le_of_ble_eq_true rfl) (fun x G hG => ?_)
  unfold fX9_freshText
  refine rf_iconst (n := 1) (0 : Int32) dX9_freshText_0 cciconst_0 rfl ?_
  refine rf_istore_n (lc2 := [some (.ref 57), some (.int (0 : Int32))]) (n := 2) 1 dX9_freshText_1 rfl rfl (Nat.le_of_ble_eq_true rfl) rfl rfl ?_
  exact pX9_freshText_L2 hG _ _ _
def fX9_here_K24 (s0 : Int32) (μ : ax_M) : Option (Int32 × ax_M) :=
  (some (s0, μ))
theorem pX9_here_K24 {x : ax_X} {G : ax_G} (hG : ax_ok G) (s0 : Int32) (μ : ax_M) : ax_Rf mX9_here 0 x (ax_Z ax_jI x G) G 0 0 24 [none] [.int s0] μ (fX9_here_K24 s0 μ) := by
  unfold fX9_here_K24
  exact rf_retI rfl dX9_here_24
def fX9_here (μ : ax_M) : Option (Int32 × ax_M) :=
  (if (μ.1 57 19) ≤ (μ.1 57 20) then (fX9_here_K24 (-1 : Int32) μ) else (Option.bind (ax_rd μ 58 700 (μ.1 57 20)) (fun v1 => (fX9_here_K24 v1 μ))))
theorem okX9_here (μ : ax_M) : ax_Ok mX9_here 0 ax_jI [.ref 57] μ (fX9_here μ) := by
  refine ax_start (lc := [some (.ref 57)]) 0 (by decide +kernel) rfl (Nat.le_of_ble_eq_true rfl) (fun x G hG => ?_)
  unfold fX9_here
  refine rf_aload_n (n := 1) 0 dX9_here_0 rfl rfl rfl ?_
  refine rf_getI (n := 4) hG dX9_here_1 flX9_109 ki_9_20 sS_57 kk_57 rfl ?_
  refine rf_aload_n (n := 5) 0 dX9_here_4 rfl rfl rfl ?_
  refine rf_getI (n := 8) hG dX9_here_5 flX9_112 ki_9_19 sS_57 kk_57 rfl ?_
  refine rf_icmp_ge (tg := 23) (n := 11) dX9_here_8 rfl rfl (fun c2 => ?_) (fun c2 => ?_)
  · refine rf_iconst (n := 24) (-1 : Int32) dX9_here_23 cciconst_m1 rfl ?_
    refine rf_mask (lc2 := [none]) [false] rfl ?_
    exact pX9_here_K24 hG _ _
  · refine rf_aload_n (n := 12) 0 dX9_here_11 rfl rfl rfl ?_
    refine rf_getR (n := 15) rr_57_1 kk_58 hG dX9_here_12 flX9_7 ki_9_1 sS_57 kk_57 rfl ?_
    refine rf_aload_n (n := 16) 0 dX9_here_15 rfl rfl rfl ?_
    refine rf_getI (n := 19) hG dX9_here_16 flX9_109 ki_9_20 sS_57 kk_57 rfl ?_
    refine rf_iald (n := 20) hG dX9_here_19 sS_58 kk_58 rfl (fun v1 => ?_)
    refine rf_goto (tg := 24) dX9_here_20 rfl ?_
    refine rf_mask (lc2 := [none]) [false] rfl ?_
    exact pX9_here_K24 hG _ _
def fX9_isSmall_K17 (s0 : Int32) (μ : ax_M) : Option (Int32 × ax_M) :=
  (some (vp_nar .boolean s0, μ))
theorem pX9_isSmall_K17 {x : ax_X} {G : ax_G} (hG : ax_ok G) (s0 : Int32) (μ : ax_M) : ax_Rf mX9_isSmall 0 x (ax_Z ax_jI x G) G 0 0 17 [none] [.int s0] μ (fX9_isSmall_K17 s0 μ) := by
  unfold fX9_isSmall_K17
  exact rf_retZ rfl dX9_isSmall_17
def fX9_isSmall_K16 (μ : ax_M) : Option (Int32 × ax_M) :=
  (fX9_isSmall_K17 (0 : Int32) μ)
theorem pX9_isSmall_K16 {x : ax_X} {G : ax_G} (hG : ax_ok G) (μ : ax_M) : ax_Rf mX9_isSmall 0 x (ax_Z ax_jI x G) G 0 0 16 [none] [] μ (fX9_isSmall_K16 μ) := by
  unfold fX9_isSmall_K16
  refine rf_iconst (n := 17) (0 : Int32) dX9_isSmall_16 cciconst_0 rfl ?_
  exact pX9_isSmall_K17 hG _ _
def fX9_isSmall (p0 : Int32) (μ : ax_M) : Option (Int32 × ax_M) :=
  (if p0 < (97 : Int32) then (fX9_isSmall_K16 μ) else (if (122 : Int32) < p0 then (fX9_isSmall_K16 μ) else (fX9_isSmall_K17 (1 : Int32) μ)))
theorem okX9_isSmall (p0 : Int32) (μ : ax_M) : ax_Ok mX9_isSmall 0 ax_jI [.int p0] μ (fX9_isSmall p0 μ) := by
  refine ax_start (lc := [some (.int p0)]) 0 (by decide +kernel) rfl (Nat.le_of_ble_eq_true rfl) (fun x G hG => ?_)
  unfold fX9_isSmall
  refine rf_iload_n (n := 1) 0 dX9_isSmall_0 rfl rfl rfl ?_
  refine rf_bipush (n := 3) (97 : Int32) dX9_isSmall_1 ccbipush_97 rfl ?_
  refine rf_icmp_lt (tg := 16) (n := 6) dX9_isSmall_3 rfl rfl (fun c2 => ?_) (fun c2 => ?_)
  · refine rf_mask (lc2 := [none]) [false] rfl ?_
    exact pX9_isSmall_K16 hG _
  · refine rf_iload_n (n := 7) 0 dX9_isSmall_6 rfl rfl rfl ?_
    refine rf_bipush (n := 9) (122 : Int32) dX9_isSmall_7 ccbipush_122 rfl ?_
    refine rf_icmp_gt (tg := 16) (n := 12) dX9_isSmall_9 rfl rfl (fun c1 => ?_) (fun c1 => ?_)
    · refine rf_mask (lc2 := [none]) [false] rfl ?_
      exact pX9_isSmall_K16 hG _
    · refine rf_iconst (n := 13) (1 : Int32) dX9_isSmall_12 cciconst_1 rfl ?_
      refine rf_goto (tg := 17) dX9_isSmall_13 rfl ?_
      refine rf_mask (lc2 := [none]) [false] rfl ?_
      exact pX9_isSmall_K17 hG _ _
def fX9_isDigit_K17 (s0 : Int32) (μ : ax_M) : Option (Int32 × ax_M) :=
  (some (vp_nar .boolean s0, μ))
theorem pX9_isDigit_K17 {x : ax_X} {G : ax_G} (hG : ax_ok G) (s0 : Int32) (μ : ax_M) : ax_Rf mX9_isDigit 0 x (ax_Z ax_jI x G) G 0 0 17 [none] [.int s0] μ (fX9_isDigit_K17 s0 μ) := by
  unfold fX9_isDigit_K17
  exact rf_retZ rfl dX9_isDigit_17
def fX9_isDigit_K16 (μ : ax_M) : Option (Int32 × ax_M) :=
  (fX9_isDigit_K17 (0 : Int32) μ)
theorem pX9_isDigit_K16 {x : ax_X} {G : ax_G} (hG : ax_ok G) (μ : ax_M) : ax_Rf mX9_isDigit 0 x (ax_Z ax_jI x G) G 0 0 16 [none] [] μ (fX9_isDigit_K16 μ) := by
  unfold fX9_isDigit_K16
  refine rf_iconst (n := 17) (0 : Int32) dX9_isDigit_16 cciconst_0 rfl ?_
  exact pX9_isDigit_K17 hG _ _
def fX9_isDigit (p0 : Int32) (μ : ax_M) : Option (Int32 × ax_M) :=
  (if p0 < (48 : Int32) then (fX9_isDigit_K16 μ) else (if (57 : Int32) < p0 then (fX9_isDigit_K16 μ) else (fX9_isDigit_K17 (1 : Int32) μ)))
theorem okX9_isDigit (p0 : Int32) (μ : ax_M) : ax_Ok mX9_isDigit 0 ax_jI [.int p0] μ (fX9_isDigit p0 μ) := by
  refine ax_start (lc := [some (.int p0)]) 0 (by decide +kernel) rfl (Nat.le_of_ble_eq_true rfl) (fun x G hG => ?_)
  unfold fX9_isDigit
  refine rf_iload_n (n := 1) 0 dX9_isDigit_0 rfl rfl rfl ?_
  refine rf_bipush (n := 3) (48 : Int32) dX9_isDigit_1 ccbipush_48 rfl ?_
  refine rf_icmp_lt (tg := 16) (n := 6) dX9_isDigit_3 rfl rfl (fun c2 => ?_) (fun c2 => ?_)
  · refine rf_mask (lc2 := [none]) [false] rfl ?_
    exact pX9_isDigit_K16 hG _
  · refine rf_iload_n (n := 7) 0 dX9_isDigit_6 rfl rfl rfl ?_
    refine rf_bipush (n := 9) (57 : Int32) dX9_isDigit_7 ccbipush_57 rfl ?_
    refine rf_icmp_gt (tg := 16) (n := 12) dX9_isDigit_9 rfl rfl (fun c1 => ?_) (fun c1 => ?_)
    · refine rf_mask (lc2 := [none]) [false] rfl ?_
      exact pX9_isDigit_K16 hG _
    · refine rf_iconst (n := 13) (1 : Int32) dX9_isDigit_12 cciconst_1 rfl ?_
      refine rf_goto (tg := 17) dX9_isDigit_13 rfl ?_
      refine rf_mask (lc2 := [none]) [false] rfl ?_
      exact pX9_isDigit_K17 hG _ _
def fX9_wordHere_B97 (l1 : Int32) (r4 : Int32 → Int32 → ax_M → Option (Int32 × ax_M)) (r97 : Int32 → ax_M → Option (Int32 × ax_M)) (l2 : Int32) (μ : ax_M) : Option (Int32 × ax_M) :=
  (ax_bd (fJ0_cA l2 μ) (fun v7 m8 => (if v7 = (32 : Int32) then (r4 (l1 + (1 : Int32)) (l2 + (1 : Int32)) m8) else (r97 (l2 + (1 : Int32)) m8))))
theorem pX9_wordHere_B97 {x : ax_X} {G : ax_G} (hG : ax_ok G) (l1 : Int32) (r4 : Int32 → Int32 → ax_M → Option (Int32 × ax_M)) (hr4 : ∀ (a1 : Int32) (a2 : Int32) (μ : ax_M), ax_Rf mX9_wordHere 4 x (ax_Z ax_jI x G) G 0 0 4 [some (.ref 57), some (.int a1), some (.int a2), none] [] μ (r4 a1 a2 μ)) (r97 : Int32 → ax_M → Option (Int32 × ax_M)) (hr97 : ∀ (a2 : Int32) (μ : ax_M), ax_Rf mX9_wordHere 4 x (ax_Z ax_jI x G) G 0 0 97 [some (.ref 57), some (.int l1), some (.int a2), none] [] μ (r97 a2 μ)) (l2 : Int32) (μ : ax_M) : ax_Rf mX9_wordHere 4 x (ax_Z ax_jI x G) G 0 0 97 [some (.ref 57), some (.int l1), some (.int l2), none] [] μ (fX9_wordHere_B97 l1 r4 r97 l2 μ) := by
  unfold fX9_wordHere_B97
  refine rf_ldcS (n := 99) rfl rfl dX9_wordHere_97 rfl ?_
  refine rf_iload_n (n := 100) 2 dX9_wordHere_99 rfl rfl rfl ?_
  refine rf_cX1I (n := 103) hG (okJ0_cA _ _) lVX9_149 hhJ0_charAt_5068e rfl dX9_wordHere_100 rfl (Nat.le_of_ble_eq_true rfl) (Nat.le_of_ble_eq_true rfl) (fun v7 m8 => ?_)
  refine rf_bipush (n := 105) (32 : Int32) dX9_wordHere_103 ccbipush_32 rfl ?_
  refine rf_icmp_eq (tg := 114) (n := 108) dX9_wordHere_105 rfl rfl (fun c9 => ?_) (fun c9 => ?_)
  · refine rf_iinc (lc2 := [some (.ref 57), some (.int l1), some (.int (l2 + (1 : Int32))), none]) (n := 117) (w := (1 : Int32)) 2 dX9_wordHere_114 rfl rfl rfl (Nat.le_of_ble_eq_true rfl) rfl rfl ?_
    refine rf_iinc (lc2 := [some (.ref 57), some (.int (l1 + (1 : Int32))), some (.int (l2 + (1 : Int32))), none]) (n := 120) (w := (1 : Int32)) 1 dX9_wordHere_117 rfl rfl rfl (Nat.le_of_ble_eq_true rfl) rfl rfl ?_
    refine rf_goto (tg := 4) dX9_wordHere_120 rfl ?_
    exact hr4 _ _ _
  · refine rf_iinc (lc2 := [some (.ref 57), some (.int l1), some (.int (l2 + (1 : Int32))), none]) (n := 111) (w := (1 : Int32)) 2 dX9_wordHere_108 rfl rfl rfl (Nat.le_of_ble_eq_true rfl) rfl rfl ?_
    refine rf_goto (tg := 97) dX9_wordHere_111 rfl ?_
    exact hr97 _ _
theorem pX9_wordHere_L97 {x : ax_X} {G : ax_G} (hG : ax_ok G) (l1 : Int32) (r4 : Int32 → Int32 → ax_M → Option (Int32 × ax_M)) (hr4 : ∀ (a1 : Int32) (a2 : Int32) (μ : ax_M), ax_Rf mX9_wordHere 4 x (ax_Z ax_jI x G) G 0 0 4 [some (.ref 57), some (.int a1), some (.int a2), none] [] μ (r4 a1 a2 μ)) (n : Nat) (a2 : Int32) (μ : ax_M) : ax_Rf mX9_wordHere 4 x (ax_Z ax_jI x G) G 0 0 97 [some (.ref 57), some (.int l1), some (.int a2), none] [] μ (ax_lp1 (fX9_wordHere_B97 l1 r4) n a2 μ) :=
  rf_lp1 (P := fun a2 μ t => ax_Rf mX9_wordHere 4 x (ax_Z ax_jI x G) G 0 0 97 [some (.ref 57), some (.int l1), some (.int a2), none] [] μ t) (fun _ _ => rf_none) (fun rc hrc a2 μ => pX9_wordHere_B97 hG l1 r4 hr4 rc hrc a2 μ) n a2 μ
def fX9_wordHere_K69 (l1 : Int32) (l2 : Int32) (l3 : Int32) (r4 : Int32 → Int32 → ax_M → Option (Int32 × ax_M)) (μ : ax_M) : Option (Int32 × ax_M) :=
  (ax_bd (fJ0_cA (l2 + l3) μ) (fun v5 m6 => (if v5 = (32 : Int32) then (if ((m6.1 57 21) + l3) = (m6.1 57 20) then (some (l1, m6)) else (ax_lp1 (fX9_wordHere_B97 l1 r4) ax_FU l2 m6)) else (ax_lp1 (fX9_wordHere_B97 l1 r4) ax_FU l2 m6))))
theorem pX9_wordHere_K69 {x : ax_X} {G : ax_G} (hG : ax_ok G) (l1 : Int32) (l2 : Int32) (l3 : Int32) (r4 : Int32 → Int32 → ax_M → Option (Int32 × ax_M)) (hr4 : ∀ (a1 : Int32) (a2 : Int32) (μ : ax_M), ax_Rf mX9_wordHere 4 x (ax_Z ax_jI x G) G 0 0 4 [some (.ref 57), some (.int a1), some (.int a2), none] [] μ (r4 a1 a2 μ)) (μ : ax_M) : ax_Rf mX9_wordHere 4 x (ax_Z ax_jI x G) G 0 0 69 [some (.ref 57), some (.int l1), some (.int l2), some (.int l3)] [] μ (fX9_wordHere_K69 l1 l2 l3 r4 μ) := by
  unfold fX9_wordHere_K69
  refine rf_ldcS (n := 71) rfl rfl dX9_wordHere_69 rfl ?_
  refine rf_iload_n (n := 72) 2 dX9_wordHere_71 rfl rfl rfl ?_
  refine rf_iload_n (n := 73) 3 dX9_wordHere_72 rfl rfl rfl ?_
  refine rf_iadd (n := 74) dX9_wordHere_73 rfl ?_
  refine rf_cX1I (n := 77) hG (okJ0_cA _ _) lVX9_149 hhJ0_charAt_5068e rfl dX9_wordHere_74 rfl (Nat.le_of_ble_eq_true rfl) (Nat.le_of_ble_eq_true rfl) (fun v5 m6 => ?_)
  refine rf_bipush (n := 79) (32 : Int32) dX9_wordHere_77 ccbipush_32 rfl ?_
  refine rf_icmp_ne (tg := 97) (n := 82) dX9_wordHere_79 rfl rfl (fun c11 => ?_) (fun c11 => ?_)
  · refine rf_mask (lc2 := [some (.ref 57), some (.int l1), some (.int l2), none]) [true, true, true, false] rfl ?_
    exact pX9_wordHere_L97 hG _ r4 hr4 _ _ _
  · refine rf_aload_n (n := 83) 0 dX9_wordHere_82 rfl rfl rfl ?_
    refine rf_getI (n := 86) hG dX9_wordHere_83 flX9_119 ki_9_21 sS_57 kk_57 rfl ?_
    refine rf_iload_n (n := 87) 3 dX9_wordHere_86 rfl rfl rfl ?_
    refine rf_iadd (n := 88) dX9_wordHere_87 rfl ?_
    refine rf_aload_n (n := 89) 0 dX9_wordHere_88 rfl rfl rfl ?_
    refine rf_getI (n := 92) hG dX9_wordHere_89 flX9_109 ki_9_20 sS_57 kk_57 rfl ?_
    refine rf_icmp_ne (tg := 97) (n := 95) dX9_wordHere_92 rfl rfl (fun c10 => ?_) (fun c10 => ?_)
    · refine rf_mask (lc2 := [some (.ref 57), some (.int l1), some (.int l2), none]) [true, true, true, false] rfl ?_
      exact pX9_wordHere_L97 hG _ r4 hr4 _ _ _
    · refine rf_iload_n (n := 96) 1 dX9_wordHere_95 rfl rfl rfl ?_
      exact rf_retI rfl dX9_wordHere_96
def fX9_wordHere_B15 (l1 : Int32) (l2 : Int32) (r4 : Int32 → Int32 → ax_M → Option (Int32 × ax_M)) (r15 : Int32 → ax_M → Option (Int32 × ax_M)) (l3 : Int32) (μ : ax_M) : Option (Int32 × ax_M) :=
  (ax_bd (fJ0_cA (l2 + l3) μ) (fun v3 m4 => (if v3 = (32 : Int32) then (fX9_wordHere_K69 l1 l2 l3 r4 m4) else (if (m4.1 57 20) ≤ ((m4.1 57 21) + l3) then (fX9_wordHere_K69 l1 l2 l3 r4 m4) else (Option.bind (ax_rd m4 58 700 ((m4.1 57 21) + l3)) (fun v12 => (ax_bd (fJ0_cA (l2 + l3) m4) (fun v13 m14 => (if v12 = v13 then (r15 (l3 + (1 : Int32)) m14) else (fX9_wordHere_K69 l1 l2 l3 r4 m14))))))))))
theorem pX9_wordHere_B15 {x : ax_X} {G : ax_G} (hG : ax_ok G) (l1 : Int32) (l2 : Int32) (r4 : Int32 → Int32 → ax_M → Option (Int32 × ax_M)) (hr4 : ∀ (a1 : Int32) (a2 : Int32) (μ : ax_M), ax_Rf mX9_wordHere 4 x (ax_Z ax_jI x G) G 0 0 4 [some (.ref 57), some (.int a1), some (.int a2), none] [] μ (r4 a1 a2 μ)) (r15 : Int32 → ax_M → Option (Int32 × ax_M)) (hr15 : ∀ (a3 : Int32) (μ : ax_M), ax_Rf mX9_wordHere 4 x (ax_Z ax_jI x G) G 0 0 15 [some (.ref 57), some (.int l1), some (.int l2), some (.int a3)] [] μ (r15 a3 μ)) (l3 : Int32) (μ : ax_M) : ax_Rf mX9_wordHere 4 x (ax_Z ax_jI x G) G 0 0 15 [some (.ref 57), some (.int l1), some (.int l2), some (.int l3)] [] μ (fX9_wordHere_B15 l1 l2 r4 r15 l3 μ) := by
  unfold fX9_wordHere_B15
  refine rf_ldcS (n := 17) rfl rfl dX9_wordHere_15 rfl ?_
  refine rf_iload_n (n := 18) 2 dX9_wordHere_17 rfl rfl rfl ?_
  refine rf_iload_n (n := 19) 3 dX9_wordHere_18 rfl rfl rfl ?_
  refine rf_iadd (n := 20) dX9_wordHere_19 rfl ?_
  refine rf_cX1I (n := 23) hG (okJ0_cA _ _) lVX9_149 hhJ0_charAt_5068e rfl dX9_wordHere_20 rfl (Nat.le_of_ble_eq_true rfl) (Nat.le_of_ble_eq_true rfl) (fun v3 m4 => ?_)
  refine rf_bipush (n := 25) (32 : Int32) dX9_wordHere_23 ccbipush_32 rfl ?_
  refine rf_icmp_eq (tg := 69) (n := 28) dX9_wordHere_25 rfl rfl (fun c17 => ?_) (fun c17 => ?_)
  · exact pX9_wordHere_K69 hG _ _ _ r4 hr4 _
  · refine rf_aload_n (n := 29) 0 dX9_wordHere_28 rfl rfl rfl ?_
    refine rf_getI (n := 32) hG dX9_wordHere_29 flX9_119 ki_9_21 sS_57 kk_57 rfl ?_
    refine rf_iload_n (n := 33) 3 dX9_wordHere_32 rfl rfl rfl ?_
    refine rf_iadd (n := 34) dX9_wordHere_33 rfl ?_
    refine rf_aload_n (n := 35) 0 dX9_wordHere_34 rfl rfl rfl ?_
    refine rf_getI (n := 38) hG dX9_wordHere_35 flX9_109 ki_9_20 sS_57 kk_57 rfl ?_
    refine rf_icmp_ge (tg := 69) (n := 41) dX9_wordHere_38 rfl rfl (fun c16 => ?_) (fun c16 => ?_)
    · exact pX9_wordHere_K69 hG _ _ _ r4 hr4 _
    · refine rf_aload_n (n := 42) 0 dX9_wordHere_41 rfl rfl rfl ?_
      refine rf_getR (n := 45) rr_57_1 kk_58 hG dX9_wordHere_42 flX9_7 ki_9_1 sS_57 kk_57 rfl ?_
      refine rf_aload_n (n := 46) 0 dX9_wordHere_45 rfl rfl rfl ?_
      refine rf_getI (n := 49) hG dX9_wordHere_46 flX9_119 ki_9_21 sS_57 kk_57 rfl ?_
      refine rf_iload_n (n := 50) 3 dX9_wordHere_49 rfl rfl rfl ?_
      refine rf_iadd (n := 51) dX9_wordHere_50 rfl ?_
      refine rf_iald (n := 52) hG dX9_wordHere_51 sS_58 kk_58 rfl (fun v12 => ?_)
      refine rf_ldcS (n := 54) rfl rfl dX9_wordHere_52 rfl ?_
      refine rf_iload_n (n := 55) 2 dX9_wordHere_54 rfl rfl rfl ?_
      refine rf_iload_n (n := 56) 3 dX9_wordHere_55 rfl rfl rfl ?_
      refine rf_iadd (n := 57) dX9_wordHere_56 rfl ?_
      refine rf_cX1I (n := 60) hG (okJ0_cA _ _) lVX9_149 hhJ0_charAt_5068e rfl dX9_wordHere_57 rfl (Nat.le_of_ble_eq_true rfl) (Nat.le_of_ble_eq_true rfl) (fun v13 m14 => ?_)
      refine rf_icmp_ne (tg := 69) (n := 63) dX9_wordHere_60 rfl rfl (fun c15 => ?_) (fun c15 => ?_)
      · exact pX9_wordHere_K69 hG _ _ _ r4 hr4 _
      · refine rf_iinc (lc2 := [some (.ref 57), some (.int l1), some (.int l2), some (.int (l3 + (1 : Int32)))]) (n := 66) (w := (1 : Int32)) 3 dX9_wordHere_63 rfl rfl rfl (Nat.le_of_ble_eq_true rfl) rfl rfl ?_
        refine rf_goto (tg := 15) dX9_wordHere_66 rfl ?_
        exact hr15 _ _
theorem pX9_wordHere_L15 {x : ax_X} {G : ax_G} (hG : ax_ok G) (l1 : Int32) (l2 : Int32) (r4 : Int32 → Int32 → ax_M → Option (Int32 × ax_M)) (hr4 : ∀ (a1 : Int32) (a2 : Int32) (μ : ax_M), ax_Rf mX9_wordHere 4 x (ax_Z ax_jI x G) G 0 0 4 [some (.ref 57), some (.int a1), some (.int a2), none] [] μ (r4 a1 a2 μ)) (n : Nat) (a3 : Int32) (μ : ax_M) : ax_Rf mX9_wordHere 4 x (ax_Z ax_jI x G) G 0 0 15 [some (.ref 57), some (.int l1), some (.int l2), some (.int a3)] [] μ (ax_lp1 (fX9_wordHere_B15 l1 l2 r4) n a3 μ) :=
  rf_lp1 (P := fun a3 μ t => ax_Rf mX9_wordHere 4 x (ax_Z ax_jI x G) G 0 0 15 [some (.ref 57), some (.int l1), some (.int l2), some (.int a3)] [] μ t) (fun _ _ => rf_none) (fun rc hrc a3 μ => pX9_wordHere_B15 hG l1 l2 r4 hr4 rc hrc a3 μ) n a3 μ
def fX9_wordHere_B4 (r4 : Int32 → Int32 → ax_M → Option (Int32 × ax_M)) (l1 : Int32) (l2 : Int32) (μ : ax_M) : Option (Int32 × ax_M) :=
  (ax_bd (fJ0_len μ) (fun v1 m2 => (if v1 ≤ l2 then (some ((-1 : Int32), m2)) else (ax_lp1 (fX9_wordHere_B15 l1 l2 r4) ax_FU (0 : Int32) m2))))
theorem pX9_wordHere_B4 {x : ax_X} {G : ax_G} (hG : ax_ok G) (r4 : Int32 → Int32 → ax_M → Option (Int32 × ax_M)) (hr4 : ∀ (a1 : Int32) (a2 : Int32) (μ : ax_M), ax_Rf mX9_wordHere 4 x (ax_Z ax_jI x G) G 0 0 4 [some (.ref 57), some (.int a1), some (.int a2), none] [] μ (r4 a1 a2 μ)) (l1 : Int32) (l2 : Int32) (μ : ax_M) : ax_Rf mX9_wordHere 4 x (ax_Z ax_jI x G) G 0 0 4 [some (.ref 57), some (.int l1), some (.int l2), none] [] μ (fX9_wordHere_B4 r4 l1 l2 μ) := by
  unfold fX9_wordHere_B4
  refine rf_iload_n (n := 5) 2 dX9_wordHere_4 rfl rfl rfl ?_
  refine rf_ldcS (n := 7) rfl rfl dX9_wordHere_5 rfl ?_
  refine rf_cX0I (n := 10) hG (okJ0_len _) lVX9_144 hhJ0_length_8abf5 rfl dX9_wordHere_7 rfl (Nat.le_of_ble_eq_true rfl) (Nat.le_of_ble_eq_true rfl) (fun v1 m2 => ?_)
  refine rf_icmp_ge (tg := 123) (n := 13) dX9_wordHere_10 rfl rfl (fun c18 => ?_) (fun c18 => ?_)
  · refine rf_iconst (n := 124) (-1 : Int32) dX9_wordHere_123 cciconst_m1 rfl ?_
    exact rf_retI rfl dX9_wordHere_124
  · refine rf_iconst (n := 14) (0 : Int32) dX9_wordHere_13 cciconst_0 rfl ?_
    refine rf_istore_n (lc2 := [some (.ref 57), some (.int l1), some (.int l2), some (.int (0 : Int32))]) (n := 15) 3 dX9_wordHere_14 rfl rfl (Nat.le_of_ble_eq_true rfl) rfl rfl ?_
    exact pX9_wordHere_L15 hG _ _ r4 hr4 _ _ _
theorem pX9_wordHere_L4 {x : ax_X} {G : ax_G} (hG : ax_ok G) (n : Nat) (a1 : Int32) (a2 : Int32) (μ : ax_M) : ax_Rf mX9_wordHere 4 x (ax_Z ax_jI x G) G 0 0 4 [some (.ref 57), some (.int a1), some (.int a2), none] [] μ (ax_lp2 (fX9_wordHere_B4) n a1 a2 μ) :=
  rf_lp2 (P := fun a1 a2 μ t => ax_Rf mX9_wordHere 4 x (ax_Z ax_jI x G) G 0 0 4 [some (.ref 57), some (.int a1), some (.int a2), none] [] μ t) (fun _ _ _ => rf_none) (fun rc hrc a1 a2 μ => pX9_wordHere_B4 hG rc hrc a1 a2 μ) n a1 a2 μ
def fX9_wordHere (μ : ax_M) : Option (Int32 × ax_M) :=
  (ax_lp2 (fX9_wordHere_B4) ax_FU (0 : Int32) (0 : Int32) μ)
theorem okX9_wordHere (μ : ax_M) : ax_Ok mX9_wordHere 4 ax_jI [.ref 57] μ (fX9_wordHere μ) := by
  refine ax_start (lc := [some (.ref 57), none, none, none]) 3 (by decide +kernel) rfl (Nat.le_of_ble_eq_true rfl) (fun x G hG => ?_)
  unfold fX9_wordHere
  refine rf_iconst (n := 1) (0 : Int32) dX9_wordHere_0 cciconst_0 rfl ?_
  refine rf_istore_n (lc2 := [some (.ref 57), some (.int (0 : Int32)), none, none]) (n := 2) 1 dX9_wordHere_1 rfl rfl (Nat.le_of_ble_eq_true rfl) rfl rfl ?_
  refine rf_iconst (n := 3) (0 : Int32) dX9_wordHere_2 cciconst_0 rfl ?_
  refine rf_istore_n (lc2 := [some (.ref 57), some (.int (0 : Int32)), some (.int (0 : Int32)), none]) (n := 4) 2 dX9_wordHere_3 rfl rfl (Nat.le_of_ble_eq_true rfl) rfl rfl ?_
  exact pX9_wordHere_L4 hG _ _ _ _
def fX9_nameHere_K53 (l1 : Int32) (s1 : Int32) (s2 : Int32) (r7 : Int32 → ax_M → Option (Unit × ax_M)) (μ : ax_M) : Option (Unit × ax_M) :=
  (ax_let (ax_wi μ 57 23 (s1 ||| s2)) (fun m2 => (r7 (l1 + (1 : Int32)) m2)))
theorem pX9_nameHere_K53 {x : ax_X} {G : ax_G} (hG : ax_ok G) (l1 : Int32) (s1 : Int32) (s2 : Int32) (r7 : Int32 → ax_M → Option (Unit × ax_M)) (hr7 : ∀ (a1 : Int32) (μ : ax_M), ax_Rf mX9_nameHere 0 x (ax_Z ax_jV x G) G 0 0 7 [some (.ref 57), some (.int a1)] [] μ (r7 a1 μ)) (μ : ax_M) : ax_Rf mX9_nameHere 0 x (ax_Z ax_jV x G) G 0 0 53 [some (.ref 57), some (.int l1)] [.int s2, .int s1, .ref 57] μ (fX9_nameHere_K53 l1 s1 s2 r7 μ) := by
  unfold fX9_nameHere_K53
  refine rf_ior (n := 54) dX9_nameHere_53 rfl ?_
  refine rf_pfI (n := 57) hG rfl dX9_nameHere_54 flX9_132 ki_9_23 nf_9_23 sS_57 kk_57 rfl (fun m2 => ?_)
  refine rf_iinc (lc2 := [some (.ref 57), some (.int (l1 + (1 : Int32)))]) (n := 60) (w := (1 : Int32)) 1 dX9_nameHere_57 rfl rfl rfl (Nat.le_of_ble_eq_true rfl) rfl rfl ?_
  refine rf_goto (tg := 7) dX9_nameHere_60 rfl ?_
  exact hr7 _ _
def fX9_nameHere_B7 (r7 : Int32 → ax_M → Option (Unit × ax_M)) (l1 : Int32) (μ : ax_M) : Option (Unit × ax_M) :=
  (if (6 : Int32) ≤ l1 then (some ((), μ)) else (if (μ.1 57 20) ≤ ((μ.1 57 21) + l1) then (fX9_nameHere_K53 l1 ((μ.1 57 23) <<< ((5 : Int32) &&& 31)) (0 : Int32) r7 μ) else (Option.bind (ax_rd μ 58 700 ((μ.1 57 21) + l1)) (fun v3 => (fX9_nameHere_K53 l1 ((μ.1 57 23) <<< ((5 : Int32) &&& 31)) ((v3 - (97 : Int32)) + (1 : Int32)) r7 μ)))))
theorem pX9_nameHere_B7 {x : ax_X} {G : ax_G} (hG : ax_ok G) (r7 : Int32 → ax_M → Option (Unit × ax_M)) (hr7 : ∀ (a1 : Int32) (μ : ax_M), ax_Rf mX9_nameHere 0 x (ax_Z ax_jV x G) G 0 0 7 [some (.ref 57), some (.int a1)] [] μ (r7 a1 μ)) (l1 : Int32) (μ : ax_M) : ax_Rf mX9_nameHere 0 x (ax_Z ax_jV x G) G 0 0 7 [some (.ref 57), some (.int l1)] [] μ (fX9_nameHere_B7 r7 l1 μ) := by
  unfold fX9_nameHere_B7
  refine rf_iload_n (n := 8) 1 dX9_nameHere_7 rfl rfl rfl ?_
  refine rf_bipush (n := 10) (6 : Int32) dX9_nameHere_8 ccbipush_6 rfl ?_
  refine rf_icmp_ge (tg := 63) (n := 13) dX9_nameHere_10 rfl rfl (fun c5 => ?_) (fun c5 => ?_)
  · exact rf_retV rfl dX9_nameHere_63
  · refine rf_aload_n (n := 14) 0 dX9_nameHere_13 rfl rfl rfl ?_
    refine rf_aload_n (n := 15) 0 dX9_nameHere_14 rfl rfl rfl ?_
    refine rf_getI (n := 18) hG dX9_nameHere_15 flX9_132 ki_9_23 sS_57 kk_57 rfl ?_
    refine rf_iconst (n := 19) (5 : Int32) dX9_nameHere_18 cciconst_5 rfl ?_
    refine rf_ishl (n := 20) dX9_nameHere_19 rfl ?_
    refine rf_aload_n (n := 21) 0 dX9_nameHere_20 rfl rfl rfl ?_
    refine rf_getI (n := 24) hG dX9_nameHere_21 flX9_119 ki_9_21 sS_57 kk_57 rfl ?_
    refine rf_iload_n (n := 25) 1 dX9_nameHere_24 rfl rfl rfl ?_
    refine rf_iadd (n := 26) dX9_nameHere_25 rfl ?_
    refine rf_aload_n (n := 27) 0 dX9_nameHere_26 rfl rfl rfl ?_
    refine rf_getI (n := 30) hG dX9_nameHere_27 flX9_109 ki_9_20 sS_57 kk_57 rfl ?_
    refine rf_icmp_ge (tg := 52) (n := 33) dX9_nameHere_30 rfl rfl (fun c4 => ?_) (fun c4 => ?_)
    · refine rf_iconst (n := 53) (0 : Int32) dX9_nameHere_52 cciconst_0 rfl ?_
      exact pX9_nameHere_K53 hG _ _ _ r7 hr7 _
    · refine rf_aload_n (n := 34) 0 dX9_nameHere_33 rfl rfl rfl ?_
      refine rf_getR (n := 37) rr_57_1 kk_58 hG dX9_nameHere_34 flX9_7 ki_9_1 sS_57 kk_57 rfl ?_
      refine rf_aload_n (n := 38) 0 dX9_nameHere_37 rfl rfl rfl ?_
      refine rf_getI (n := 41) hG dX9_nameHere_38 flX9_119 ki_9_21 sS_57 kk_57 rfl ?_
      refine rf_iload_n (n := 42) 1 dX9_nameHere_41 rfl rfl rfl ?_
      refine rf_iadd (n := 43) dX9_nameHere_42 rfl ?_
      refine rf_iald (n := 44) hG dX9_nameHere_43 sS_58 kk_58 rfl (fun v3 => ?_)
      refine rf_bipush (n := 46) (97 : Int32) dX9_nameHere_44 ccbipush_97 rfl ?_
      refine rf_isub (n := 47) dX9_nameHere_46 rfl ?_
      refine rf_iconst (n := 48) (1 : Int32) dX9_nameHere_47 cciconst_1 rfl ?_
      refine rf_iadd (n := 49) dX9_nameHere_48 rfl ?_
      refine rf_goto (tg := 53) dX9_nameHere_49 rfl ?_
      exact pX9_nameHere_K53 hG _ _ _ r7 hr7 _
theorem pX9_nameHere_L7 {x : ax_X} {G : ax_G} (hG : ax_ok G) (n : Nat) (a1 : Int32) (μ : ax_M) : ax_Rf mX9_nameHere 0 x (ax_Z ax_jV x G) G 0 0 7 [some (.ref 57), some (.int a1)] [] μ (ax_lp1 (fX9_nameHere_B7) n a1 μ) :=
  rf_lp1 (P := fun a1 μ t => ax_Rf mX9_nameHere 0 x (ax_Z ax_jV x G) G 0 0 7 [some (.ref 57), some (.int a1)] [] μ t) (fun _ _ => rf_none) (fun rc hrc a1 μ => pX9_nameHere_B7 hG rc hrc a1 μ) n a1 μ
def fX9_nameHere (μ : ax_M) : Option (Unit × ax_M) :=
  (ax_let (ax_wi μ 57 23 (0 : Int32)) (fun m1 => (ax_lp1 (fX9_nameHere_B7) ax_FU (0 : Int32) m1)))
theorem okX9_nameHere (μ : ax_M) : ax_Ok mX9_nameHere 0 ax_jV [.ref 57] μ (fX9_nameHere μ) := by
  refine ax_start (lc := [some (.ref 57), none]) 1 (by decide +kernel) rfl (Nat.le_of_ble_eq_true rfl) (fun x G hG => ?_)
  unfold fX9_nameHere
  refine rf_aload_n (n := 1) 0 dX9_nameHere_0 rfl rfl rfl ?_
  refine rf_iconst (n := 2) (0 : Int32) dX9_nameHere_1 cciconst_0 rfl ?_
  refine rf_pfI (n := 5) hG rfl dX9_nameHere_2 flX9_132 ki_9_23 nf_9_23 sS_57 kk_57 rfl (fun m1 => ?_)
  refine rf_iconst (n := 6) (0 : Int32) dX9_nameHere_5 cciconst_0 rfl ?_
  refine rf_istore_n (lc2 := [some (.ref 57), some (.int (0 : Int32))]) (n := 7) 1 dX9_nameHere_6 rfl rfl (Nat.le_of_ble_eq_true rfl) rfl rfl ?_
  exact pX9_nameHere_L7 hG _ _ _
def fX9_token_K18 (r0 : ax_M → Option (Unit × ax_M)) (μ : ax_M) : Option (Unit × ax_M) :=
  (ax_let (ax_wi μ 57 20 ((μ.1 57 20) + (1 : Int32))) (fun m3 => (r0 m3)))
theorem pX9_token_K18 {x : ax_X} {G : ax_G} (hG : ax_ok G) (r0 : ax_M → Option (Unit × ax_M)) (hr0 : ∀  (μ : ax_M), ax_Rf mX9_token 5 x (ax_Z ax_jV x G) G 0 0 0 [some (.ref 57), none] [] μ (r0  μ)) (μ : ax_M) : ax_Rf mX9_token 5 x (ax_Z ax_jV x G) G 0 0 18 [some (.ref 57), none] [] μ (fX9_token_K18 r0 μ) := by
  unfold fX9_token_K18
  refine rf_aload_n (n := 19) 0 dX9_token_18 rfl rfl rfl ?_
  refine rf_dupR (n := 20) dX9_token_19 rfl ?_
  refine rf_getI (n := 23) hG dX9_token_20 flX9_109 ki_9_20 sS_57 kk_57 rfl ?_
  refine rf_iconst (n := 24) (1 : Int32) dX9_token_23 cciconst_1 rfl ?_
  refine rf_iadd (n := 25) dX9_token_24 rfl ?_
  refine rf_pfI (n := 28) hG rfl dX9_token_25 flX9_109 ki_9_20 nf_9_20 sS_57 kk_57 rfl (fun m3 => ?_)
  refine rf_goto (tg := 0) dX9_token_28 rfl ?_
  exact hr0 _
def fX9_token_K245 (μ : ax_M) : Option (Unit × ax_M) :=
  (some ((), μ))
theorem pX9_token_K245 {x : ax_X} {G : ax_G} (hG : ax_ok G) (μ : ax_M) : ax_Rf mX9_token 5 x (ax_Z ax_jV x G) G 0 0 245 [none, none] [] μ (fX9_token_K245 μ) := by
  unfold fX9_token_K245
  exact rf_retV rfl dX9_token_245
def fX9_token_K232 (s1 : Int32) (μ : ax_M) : Option (Unit × ax_M) :=
  (ax_let (ax_wi μ 57 22 s1) (fun m13 => (ax_let (ax_wi m13 57 20 ((m13.1 57 20) + (1 : Int32))) (fun m14 => (fX9_token_K245 m14)))))
theorem pX9_token_K232 {x : ax_X} {G : ax_G} (hG : ax_ok G) (s1 : Int32) (μ : ax_M) : ax_Rf mX9_token 5 x (ax_Z ax_jV x G) G 0 0 232 [some (.ref 57), none] [.int s1, .ref 57] μ (fX9_token_K232 s1 μ) := by
  unfold fX9_token_K232
  refine rf_pfI (n := 235) hG rfl dX9_token_232 flX9_122 ki_9_22 nf_9_22 sS_57 kk_57 rfl (fun m13 => ?_)
  refine rf_aload_n (n := 236) 0 dX9_token_235 rfl rfl rfl ?_
  refine rf_dupR (n := 237) dX9_token_236 rfl ?_
  refine rf_getI (n := 240) hG dX9_token_237 flX9_109 ki_9_20 sS_57 kk_57 rfl ?_
  refine rf_iconst (n := 241) (1 : Int32) dX9_token_240 cciconst_1 rfl ?_
  refine rf_iadd (n := 242) dX9_token_241 rfl ?_
  refine rf_pfI (n := 245) hG rfl dX9_token_242 flX9_109 ki_9_20 nf_9_20 sS_57 kk_57 rfl (fun m14 => ?_)
  refine rf_mask (lc2 := [none, none]) [false, true] rfl ?_
  exact pX9_token_K245 hG _
def fX9_token_K204 (s1 : Int32) (r162 : ax_M → Option (Unit × ax_M)) (μ : ax_M) : Option (Unit × ax_M) :=
  (ax_let (ax_wi μ 57 23 s1) (fun m24 => (ax_let (ax_wi m24 57 20 ((m24.1 57 20) + (1 : Int32))) (fun m25 => (r162 m25)))))
theorem pX9_token_K204 {x : ax_X} {G : ax_G} (hG : ax_ok G) (s1 : Int32) (r162 : ax_M → Option (Unit × ax_M)) (hr162 : ∀  (μ : ax_M), ax_Rf mX9_token 5 x (ax_Z ax_jV x G) G 0 0 162 [some (.ref 57), none] [] μ (r162  μ)) (μ : ax_M) : ax_Rf mX9_token 5 x (ax_Z ax_jV x G) G 0 0 204 [some (.ref 57), none] [.int s1, .ref 57] μ (fX9_token_K204 s1 r162 μ) := by
  unfold fX9_token_K204
  refine rf_pfI (n := 207) hG rfl dX9_token_204 flX9_132 ki_9_23 nf_9_23 sS_57 kk_57 rfl (fun m24 => ?_)
  refine rf_aload_n (n := 208) 0 dX9_token_207 rfl rfl rfl ?_
  refine rf_dupR (n := 209) dX9_token_208 rfl ?_
  refine rf_getI (n := 212) hG dX9_token_209 flX9_109 ki_9_20 sS_57 kk_57 rfl ?_
  refine rf_iconst (n := 213) (1 : Int32) dX9_token_212 cciconst_1 rfl ?_
  refine rf_iadd (n := 214) dX9_token_213 rfl ?_
  refine rf_pfI (n := 217) hG rfl dX9_token_214 flX9_109 ki_9_20 nf_9_20 sS_57 kk_57 rfl (fun m25 => ?_)
  refine rf_goto (tg := 162) dX9_token_217 rfl ?_
  exact hr162 _
def fX9_token_B162 (r162 : ax_M → Option (Unit × ax_M)) (μ : ax_M) : Option (Unit × ax_M) :=
  (ax_bd (fX9_here μ) (fun v18 m19 => (ax_bd (fX9_isDigit v18 m19) (fun v20 m21 => (if v20 = 0 then (fX9_token_K245 m21) else (if (m21.1 57 23) ≤ (99999 : Int32) then (ax_bd (fX9_here m21) (fun v22 m23 => (fX9_token_K204 ((((10 : Int32) * (m21.1 57 23)) + v22) - (48 : Int32)) r162 m23))) else (fX9_token_K204 (m21.1 57 23) r162 m21)))))))
theorem pX9_token_B162 {x : ax_X} {G : ax_G} (hG : ax_ok G) (r162 : ax_M → Option (Unit × ax_M)) (hr162 : ∀  (μ : ax_M), ax_Rf mX9_token 5 x (ax_Z ax_jV x G) G 0 0 162 [some (.ref 57), none] [] μ (r162  μ)) (μ : ax_M) : ax_Rf mX9_token 5 x (ax_Z ax_jV x G) G 0 0 162 [some (.ref 57), none] [] μ (fX9_token_B162 r162  μ) := by
  unfold fX9_token_B162
  refine rf_aload_n (n := 163) 0 dX9_token_162 rfl rfl rfl ?_
  refine rf_cV0I (n := 166) hG (okX9_here _) lVX9_115 hhX9_here kk_57 sS_57 ⟨_, rfl, rfl⟩ dX9_token_163 rfl (Nat.le_of_ble_eq_true rfl) (Nat.le_of_ble_eq_true rfl) (fun v18 m19 => ?_)
  refine rf_cS1I (n := 169) hG (okX9_isDigit _ _) lSX9_138 hhX9_isDigit dX9_token_166 rfl (Nat.le_of_ble_eq_true rfl) (Nat.le_of_ble_eq_true rfl) (fun v20 m21 => ?_)
  refine rf_if_eq (tg := 245) (n := 172) dX9_token_169 rfl rfl (fun c27 => ?_) (fun c27 => ?_)
  · refine rf_mask (lc2 := [none, none]) [false, true] rfl ?_
    exact pX9_token_K245 hG _
  · refine rf_aload_n (n := 173) 0 dX9_token_172 rfl rfl rfl ?_
    refine rf_aload_n (n := 174) 0 dX9_token_173 rfl rfl rfl ?_
    refine rf_getI (n := 177) hG dX9_token_174 flX9_132 ki_9_23 sS_57 kk_57 rfl ?_
    refine rf_ldc (n := 179) dX9_token_177 ctX9_141 rfl ?_
    refine rf_icmp_le (tg := 189) (n := 182) dX9_token_179 rfl rfl (fun c26 => ?_) (fun c26 => ?_)
    · refine rf_bipush (n := 191) (10 : Int32) dX9_token_189 ccbipush_10 rfl ?_
      refine rf_aload_n (n := 192) 0 dX9_token_191 rfl rfl rfl ?_
      refine rf_getI (n := 195) hG dX9_token_192 flX9_132 ki_9_23 sS_57 kk_57 rfl ?_
      refine rf_imul (n := 196) dX9_token_195 rfl ?_
      refine rf_aload_n (n := 197) 0 dX9_token_196 rfl rfl rfl ?_
      refine rf_cV0I (n := 200) hG (okX9_here _) lVX9_115 hhX9_here kk_57 sS_57 ⟨_, rfl, rfl⟩ dX9_token_197 rfl (Nat.le_of_ble_eq_true rfl) (Nat.le_of_ble_eq_true rfl) (fun v22 m23 => ?_)
      refine rf_iadd (n := 201) dX9_token_200 rfl ?_
      refine rf_bipush (n := 203) (48 : Int32) dX9_token_201 ccbipush_48 rfl ?_
      refine rf_isub (n := 204) dX9_token_203 rfl ?_
      exact pX9_token_K204 hG _ r162 hr162 _
    · refine rf_aload_n (n := 183) 0 dX9_token_182 rfl rfl rfl ?_
      refine rf_getI (n := 186) hG dX9_token_183 flX9_132 ki_9_23 sS_57 kk_57 rfl ?_
      refine rf_goto (tg := 204) dX9_token_186 rfl ?_
      exact pX9_token_K204 hG _ r162 hr162 _
theorem pX9_token_L162 {x : ax_X} {G : ax_G} (hG : ax_ok G) (n : Nat) (μ : ax_M) : ax_Rf mX9_token 5 x (ax_Z ax_jV x G) G 0 0 162 [some (.ref 57), none] [] μ (ax_lp0 (fX9_token_B162) n  μ) :=
  rf_lp0 (P := fun  μ t => ax_Rf mX9_token 5 x (ax_Z ax_jV x G) G 0 0 162 [some (.ref 57), none] [] μ t) (fun  _ => rf_none) (fun rc hrc  μ => pX9_token_B162 hG rc hrc  μ) n  μ
def fX9_token_K127 (s1 : Int32) (μ : ax_M) : Option (Unit × ax_M) :=
  (ax_let (ax_wi μ 57 22 s1) (fun m36 => (if (m36.1 57 22) = (1 : Int32) then (ax_bd (fX9_nameHere m36) (fun _ m38 => (fX9_token_K245 m38))) else (fX9_token_K245 m36))))
theorem pX9_token_K127 {x : ax_X} {G : ax_G} (hG : ax_ok G) (s1 : Int32) (μ : ax_M) : ax_Rf mX9_token 5 x (ax_Z ax_jV x G) G 0 0 127 [some (.ref 57), none] [.int s1, .ref 57] μ (fX9_token_K127 s1 μ) := by
  unfold fX9_token_K127
  refine rf_pfI (n := 130) hG rfl dX9_token_127 flX9_122 ki_9_22 nf_9_22 sS_57 kk_57 rfl (fun m36 => ?_)
  refine rf_aload_n (n := 131) 0 dX9_token_130 rfl rfl rfl ?_
  refine rf_getI (n := 134) hG dX9_token_131 flX9_122 ki_9_22 sS_57 kk_57 rfl ?_
  refine rf_iconst (n := 135) (1 : Int32) dX9_token_134 cciconst_1 rfl ?_
  refine rf_icmp_ne (tg := 245) (n := 138) dX9_token_135 rfl rfl (fun c39 => ?_) (fun c39 => ?_)
  · refine rf_mask (lc2 := [none, none]) [false, true] rfl ?_
    exact pX9_token_K245 hG _
  · refine rf_aload_n (n := 139) 0 dX9_token_138 rfl rfl rfl ?_
    refine rf_cV0V (n := 142) hG (okX9_nameHere _) lVX9_135 hhX9_nameHere kk_57 sS_57 ⟨_, rfl, rfl⟩ dX9_token_139 rfl (Nat.le_of_ble_eq_true rfl) (Nat.le_of_ble_eq_true rfl) (fun _ m38 => ?_)
    refine rf_goto (tg := 245) dX9_token_142 rfl ?_
    refine rf_mask (lc2 := [none, none]) [false, true] rfl ?_
    exact pX9_token_K245 hG _
def fX9_token_B64 (r64 : ax_M → Option (Unit × ax_M)) (μ : ax_M) : Option (Unit × ax_M) :=
  (ax_bd (fX9_here μ) (fun v29 m30 => (ax_bd (fX9_isSmall v29 m30) (fun v31 m32 => (if v31 = 0 then (ax_bd (fX9_wordHere m32) (fun v33 m34 => (ax_let (ax_wi m34 57 23 v33) (fun m35 => (if (m35.1 57 23) = (-1 : Int32) then (if ((m35.1 57 20) - (m35.1 57 21)) ≤ (6 : Int32) then (fX9_token_K127 (1 : Int32) m35) else (fX9_token_K127 (5 : Int32) m35)) else (fX9_token_K127 (0 : Int32) m35)))))) else (ax_let (ax_wi m32 57 20 ((m32.1 57 20) + (1 : Int32))) (fun m42 => (r64 m42))))))))
theorem pX9_token_B64 {x : ax_X} {G : ax_G} (hG : ax_ok G) (r64 : ax_M → Option (Unit × ax_M)) (hr64 : ∀  (μ : ax_M), ax_Rf mX9_token 5 x (ax_Z ax_jV x G) G 0 0 64 [some (.ref 57), none] [] μ (r64  μ)) (μ : ax_M) : ax_Rf mX9_token 5 x (ax_Z ax_jV x G) G 0 0 64 [some (.ref 57), none] [] μ (fX9_token_B64 r64  μ) := by
  unfold fX9_token_B64
  refine rf_aload_n (n := 65) 0 dX9_token_64 rfl rfl rfl ?_
  refine rf_cV0I (n := 68) hG (okX9_here _) lVX9_115 hhX9_here kk_57 sS_57 ⟨_, rfl, rfl⟩ dX9_token_65 rfl (Nat.le_of_ble_eq_true rfl) (Nat.le_of_ble_eq_true rfl) (fun v29 m30 => ?_)
  refine rf_cS1I (n := 71) hG (okX9_isSmall _ _) lSX9_125 hhX9_isSmall dX9_token_68 rfl (Nat.le_of_ble_eq_true rfl) (Nat.le_of_ble_eq_true rfl) (fun v31 m32 => ?_)
  refine rf_if_eq (tg := 87) (n := 74) dX9_token_71 rfl rfl (fun c43 => ?_) (fun c43 => ?_)
  · refine rf_aload_n (n := 88) 0 dX9_token_87 rfl rfl rfl ?_
    refine rf_aload_n (n := 89) 0 dX9_token_88 rfl rfl rfl ?_
    refine rf_cV0I (n := 92) hG (okX9_wordHere _) lVX9_129 hhX9_wordHere kk_57 sS_57 ⟨_, rfl, rfl⟩ dX9_token_89 rfl (Nat.le_of_ble_eq_true rfl) (Nat.le_of_ble_eq_true rfl) (fun v33 m34 => ?_)
    refine rf_pfI (n := 95) hG rfl dX9_token_92 flX9_132 ki_9_23 nf_9_23 sS_57 kk_57 rfl (fun m35 => ?_)
    refine rf_aload_n (n := 96) 0 dX9_token_95 rfl rfl rfl ?_
    refine rf_aload_n (n := 97) 0 dX9_token_96 rfl rfl rfl ?_
    refine rf_getI (n := 100) hG dX9_token_97 flX9_132 ki_9_23 sS_57 kk_57 rfl ?_
    refine rf_iconst (n := 101) (-1 : Int32) dX9_token_100 cciconst_m1 rfl ?_
    refine rf_icmp_eq (tg := 108) (n := 104) dX9_token_101 rfl rfl (fun c41 => ?_) (fun c41 => ?_)
    · refine rf_aload_n (n := 109) 0 dX9_token_108 rfl rfl rfl ?_
      refine rf_getI (n := 112) hG dX9_token_109 flX9_109 ki_9_20 sS_57 kk_57 rfl ?_
      refine rf_aload_n (n := 113) 0 dX9_token_112 rfl rfl rfl ?_
      refine rf_getI (n := 116) hG dX9_token_113 flX9_119 ki_9_21 sS_57 kk_57 rfl ?_
      refine rf_isub (n := 117) dX9_token_116 rfl ?_
      refine rf_bipush (n := 119) (6 : Int32) dX9_token_117 ccbipush_6 rfl ?_
      refine rf_icmp_le (tg := 126) (n := 122) dX9_token_119 rfl rfl (fun c40 => ?_) (fun c40 => ?_)
      · refine rf_iconst (n := 127) (1 : Int32) dX9_token_126 cciconst_1 rfl ?_
        exact pX9_token_K127 hG _ _
      · refine rf_iconst (n := 123) (5 : Int32) dX9_token_122 cciconst_5 rfl ?_
        refine rf_goto (tg := 127) dX9_token_123 rfl ?_
        exact pX9_token_K127 hG _ _
    · refine rf_iconst (n := 105) (0 : Int32) dX9_token_104 cciconst_0 rfl ?_
      refine rf_goto (tg := 127) dX9_token_105 rfl ?_
      exact pX9_token_K127 hG _ _
  · refine rf_aload_n (n := 75) 0 dX9_token_74 rfl rfl rfl ?_
    refine rf_dupR (n := 76) dX9_token_75 rfl ?_
    refine rf_getI (n := 79) hG dX9_token_76 flX9_109 ki_9_20 sS_57 kk_57 rfl ?_
    refine rf_iconst (n := 80) (1 : Int32) dX9_token_79 cciconst_1 rfl ?_
    refine rf_iadd (n := 81) dX9_token_80 rfl ?_
    refine rf_pfI (n := 84) hG rfl dX9_token_81 flX9_109 ki_9_20 nf_9_20 sS_57 kk_57 rfl (fun m42 => ?_)
    refine rf_goto (tg := 64) dX9_token_84 rfl ?_
    exact hr64 _
theorem pX9_token_L64 {x : ax_X} {G : ax_G} (hG : ax_ok G) (n : Nat) (μ : ax_M) : ax_Rf mX9_token 5 x (ax_Z ax_jV x G) G 0 0 64 [some (.ref 57), none] [] μ (ax_lp0 (fX9_token_B64) n  μ) :=
  rf_lp0 (P := fun  μ t => ax_Rf mX9_token 5 x (ax_Z ax_jV x G) G 0 0 64 [some (.ref 57), none] [] μ t) (fun  _ => rf_none) (fun rc hrc  μ => pX9_token_B64 hG rc hrc  μ) n  μ
def fX9_token_B0 (r0 : ax_M → Option (Unit × ax_M)) (μ : ax_M) : Option (Unit × ax_M) :=
  (ax_bd (fX9_here μ) (fun v1 m2 => (if v1 = (10 : Int32) then (fX9_token_K18 r0 m2) else (ax_bd (fX9_here m2) (fun v4 m5 => (if v4 = (32 : Int32) then (fX9_token_K18 r0 m5) else (ax_let (ax_wi m5 57 21 (m5.1 57 20)) (fun m6 => (ax_bd (fX9_here m6) (fun v7 m8 => (if v7 = (-1 : Int32) then (ax_let (ax_wi m8 57 22 (4 : Int32)) (fun m45 => (fX9_token_K245 m45))) else (ax_bd (fX9_isSmall v7 m8) (fun v9 m10 => (if v9 = 0 then (ax_bd (fX9_isDigit v7 m10) (fun v11 m12 => (if v11 = 0 then (if v7 = (59 : Int32) then (fX9_token_K232 (3 : Int32) m12) else (fX9_token_K232 (5 : Int32) m12)) else (ax_let (ax_wi m12 57 22 (2 : Int32)) (fun m16 => (ax_let (ax_wi m16 57 23 (0 : Int32)) (fun m17 => (ax_lp0 (fX9_token_B162) ax_FU m17)))))))) else (ax_lp0 (fX9_token_B64) ax_FU m10)))))))))))))))
theorem pX9_token_B0 {x : ax_X} {G : ax_G} (hG : ax_ok G) (r0 : ax_M → Option (Unit × ax_M)) (hr0 : ∀  (μ : ax_M), ax_Rf mX9_token 5 x (ax_Z ax_jV x G) G 0 0 0 [some (.ref 57), none] [] μ (r0  μ)) (μ : ax_M) : ax_Rf mX9_token 5 x (ax_Z ax_jV x G) G 0 0 0 [some (.ref 57), none] [] μ (fX9_token_B0 r0  μ) := by
  unfold fX9_token_B0
  refine rf_aload_n (n := 1) 0 dX9_token_0 rfl rfl rfl ?_
  refine rf_cV0I (n := 4) hG (okX9_here _) lVX9_115 hhX9_here kk_57 sS_57 ⟨_, rfl, rfl⟩ dX9_token_1 rfl (Nat.le_of_ble_eq_true rfl) (Nat.le_of_ble_eq_true rfl) (fun v1 m2 => ?_)
  refine rf_bipush (n := 6) (10 : Int32) dX9_token_4 ccbipush_10 rfl ?_
  refine rf_icmp_eq (tg := 18) (n := 9) dX9_token_6 rfl rfl (fun c48 => ?_) (fun c48 => ?_)
  · exact pX9_token_K18 hG r0 hr0 _
  · refine rf_aload_n (n := 10) 0 dX9_token_9 rfl rfl rfl ?_
    refine rf_cV0I (n := 13) hG (okX9_here _) lVX9_115 hhX9_here kk_57 sS_57 ⟨_, rfl, rfl⟩ dX9_token_10 rfl (Nat.le_of_ble_eq_true rfl) (Nat.le_of_ble_eq_true rfl) (fun v4 m5 => ?_)
    refine rf_bipush (n := 15) (32 : Int32) dX9_token_13 ccbipush_32 rfl ?_
    refine rf_icmp_ne (tg := 31) (n := 18) dX9_token_15 rfl rfl (fun c47 => ?_) (fun c47 => ?_)
    · refine rf_aload_n (n := 32) 0 dX9_token_31 rfl rfl rfl ?_
      refine rf_aload_n (n := 33) 0 dX9_token_32 rfl rfl rfl ?_
      refine rf_getI (n := 36) hG dX9_token_33 flX9_109 ki_9_20 sS_57 kk_57 rfl ?_
      refine rf_pfI (n := 39) hG rfl dX9_token_36 flX9_119 ki_9_21 nf_9_21 sS_57 kk_57 rfl (fun m6 => ?_)
      refine rf_aload_n (n := 40) 0 dX9_token_39 rfl rfl rfl ?_
      refine rf_cV0I (n := 43) hG (okX9_here _) lVX9_115 hhX9_here kk_57 sS_57 ⟨_, rfl, rfl⟩ dX9_token_40 rfl (Nat.le_of_ble_eq_true rfl) (Nat.le_of_ble_eq_true rfl) (fun v7 m8 => ?_)
      refine rf_istore_n (lc2 := [some (.ref 57), some (.int v7)]) (n := 44) 1 dX9_token_43 rfl rfl (Nat.le_of_ble_eq_true rfl) rfl rfl ?_
      refine rf_iload_n (n := 45) 1 dX9_token_44 rfl rfl rfl ?_
      refine rf_iconst (n := 46) (-1 : Int32) dX9_token_45 cciconst_m1 rfl ?_
      refine rf_icmp_ne (tg := 57) (n := 49) dX9_token_46 rfl rfl (fun c46 => ?_) (fun c46 => ?_)
      · refine rf_iload_n (n := 58) 1 dX9_token_57 rfl rfl rfl ?_
        refine rf_cS1I (n := 61) hG (okX9_isSmall _ _) lSX9_125 hhX9_isSmall dX9_token_58 rfl (Nat.le_of_ble_eq_true rfl) (Nat.le_of_ble_eq_true rfl) (fun v9 m10 => ?_)
        refine rf_if_eq (tg := 145) (n := 64) dX9_token_61 rfl rfl (fun c44 => ?_) (fun c44 => ?_)
        · refine rf_iload_n (n := 146) 1 dX9_token_145 rfl rfl rfl ?_
          refine rf_cS1I (n := 149) hG (okX9_isDigit _ _) lSX9_138 hhX9_isDigit dX9_token_146 rfl (Nat.le_of_ble_eq_true rfl) (Nat.le_of_ble_eq_true rfl) (fun v11 m12 => ?_)
          refine rf_if_eq (tg := 220) (n := 152) dX9_token_149 rfl rfl (fun c28 => ?_) (fun c28 => ?_)
          · refine rf_aload_n (n := 221) 0 dX9_token_220 rfl rfl rfl ?_
            refine rf_iload_n (n := 222) 1 dX9_token_221 rfl rfl rfl ?_
            refine rf_bipush (n := 224) (59 : Int32) dX9_token_222 ccbipush_59 rfl ?_
            refine rf_icmp_ne (tg := 231) (n := 227) dX9_token_224 rfl rfl (fun c15 => ?_) (fun c15 => ?_)
            · refine rf_iconst (n := 232) (5 : Int32) dX9_token_231 cciconst_5 rfl ?_
              refine rf_mask (lc2 := [some (.ref 57), none]) [true, false] rfl ?_
              exact pX9_token_K232 hG _ _
            · refine rf_iconst (n := 228) (3 : Int32) dX9_token_227 cciconst_3 rfl ?_
              refine rf_goto (tg := 232) dX9_token_228 rfl ?_
              refine rf_mask (lc2 := [some (.ref 57), none]) [true, false] rfl ?_
              exact pX9_token_K232 hG _ _
          · refine rf_aload_n (n := 153) 0 dX9_token_152 rfl rfl rfl ?_
            refine rf_iconst (n := 154) (2 : Int32) dX9_token_153 cciconst_2 rfl ?_
            refine rf_pfI (n := 157) hG rfl dX9_token_154 flX9_122 ki_9_22 nf_9_22 sS_57 kk_57 rfl (fun m16 => ?_)
            refine rf_aload_n (n := 158) 0 dX9_token_157 rfl rfl rfl ?_
            refine rf_iconst (n := 159) (0 : Int32) dX9_token_158 cciconst_0 rfl ?_
            refine rf_pfI (n := 162) hG rfl dX9_token_159 flX9_132 ki_9_23 nf_9_23 sS_57 kk_57 rfl (fun m17 => ?_)
            refine rf_mask (lc2 := [some (.ref 57), none]) [true, false] rfl ?_
            exact pX9_token_L162 hG _ _
        · refine rf_mask (lc2 := [some (.ref 57), none]) [true, false] rfl ?_
          exact pX9_token_L64 hG _ _
      · refine rf_aload_n (n := 50) 0 dX9_token_49 rfl rfl rfl ?_
        refine rf_iconst (n := 51) (4 : Int32) dX9_token_50 cciconst_4 rfl ?_
        refine rf_pfI (n := 54) hG rfl dX9_token_51 flX9_122 ki_9_22 nf_9_22 sS_57 kk_57 rfl (fun m45 => ?_)
        refine rf_goto (tg := 245) dX9_token_54 rfl ?_
        refine rf_mask (lc2 := [none, none]) [false, false] rfl ?_
        exact pX9_token_K245 hG _
    · exact pX9_token_K18 hG r0 hr0 _
theorem pX9_token_L0 {x : ax_X} {G : ax_G} (hG : ax_ok G) (n : Nat) (μ : ax_M) : ax_Rf mX9_token 5 x (ax_Z ax_jV x G) G 0 0 0 [some (.ref 57), none] [] μ (ax_lp0 (fX9_token_B0) n  μ) :=
  rf_lp0 (P := fun  μ t => ax_Rf mX9_token 5 x (ax_Z ax_jV x G) G 0 0 0 [some (.ref 57), none] [] μ t) (fun  _ => rf_none) (fun rc hrc  μ => pX9_token_B0 hG rc hrc  μ) n  μ
def fX9_token (μ : ax_M) : Option (Unit × ax_M) :=
  (ax_lp0 (fX9_token_B0) ax_FU μ)
theorem okX9_token (μ : ax_M) : ax_Ok mX9_token 5 ax_jV [.ref 57] μ (fX9_token μ) := by
  refine ax_start (lc := [some (.ref 57), none]) 1 (by decide +kernel) rfl (Nat.le_of_ble_eq_true rfl) (fun x G hG => ?_)
  unfold fX9_token
  exact pX9_token_L0 hG _ _
def fX9_reading (p1 : Int32) (μ : ax_M) : Option (Int32 × ax_M) :=
  (Option.bind (ax_rd μ 59 12 ((6 : Int32) + p1)) (fun v1 => (some (v1, μ))))
theorem okX9_reading (p1 : Int32) (μ : ax_M) : ax_Ok mX9_reading 0 ax_jI [.ref 57, .int p1] μ (fX9_reading p1 μ) := by
  refine ax_start (lc := [some (.ref 57), some (.int p1)]) 0 (by decide +kernel) rfl (Nat.le_of_ble_eq_true rfl) (fun x G hG => ?_)
  unfold fX9_reading
  refine rf_aload_n (n := 1) 0 dX9_reading_0 rfl rfl rfl ?_
  refine rf_getR (n := 4) rr_57_3 kk_59 hG dX9_reading_1 flX9_13 ki_9_3 sS_57 kk_57 rfl ?_
  refine rf_bipush (n := 6) (6 : Int32) dX9_reading_4 ccbipush_6 rfl ?_
  refine rf_iload_n (n := 7) 1 dX9_reading_6 rfl rfl rfl ?_
  refine rf_iadd (n := 8) dX9_reading_7 rfl ?_
  refine rf_iald (n := 9) hG dX9_reading_8 sS_59 kk_59 rfl (fun v1 => ?_)
  exact rf_retI rfl dX9_reading_9
def fX9_goOn_K11 (μ : ax_M) : Option (Unit × ax_M) :=
  (some ((), μ))
theorem pX9_goOn_K11 {x : ax_X} {G : ax_G} (hG : ax_ok G) (μ : ax_M) : ax_Rf mX9_goOn 6 x (ax_Z ax_jV x G) G 0 0 11 [none] [] μ (fX9_goOn_K11 μ) := by
  unfold fX9_goOn_K11
  exact rf_retV rfl dX9_goOn_11
def fX9_goOn (μ : ax_M) : Option (Unit × ax_M) :=
  (if (μ.1 57 24) = 0 then (ax_bd (fX9_token μ) (fun _ m2 => (fX9_goOn_K11 m2))) else (fX9_goOn_K11 μ))
theorem okX9_goOn (μ : ax_M) : ax_Ok mX9_goOn 6 ax_jV [.ref 57] μ (fX9_goOn μ) := by
  refine ax_start (lc := [some (.ref 57)]) 0 (by decide +kernel) rfl (Nat.le_of_ble_eq_true rfl) (fun x G hG => ?_)
  unfold fX9_goOn
  refine rf_aload_n (n := 1) 0 dX9_goOn_0 rfl rfl rfl ?_
  refine rf_getI (n := 4) hG dX9_goOn_1 flX9_153 ki_9_24 sS_57 kk_57 rfl ?_
  refine rf_if_ne (tg := 11) (n := 7) dX9_goOn_4 rfl rfl (fun c3 => ?_) (fun c3 => ?_)
  · refine rf_mask (lc2 := [none]) [false] rfl ?_
    exact pX9_goOn_K11 hG _
  · refine rf_aload_n (n := 8) 0 dX9_goOn_7 rfl rfl rfl ?_
    refine rf_cV0V (n := 11) hG (okX9_token _) lVX9_159 hhX9_token kk_57 sS_57 ⟨_, rfl, rfl⟩ dX9_goOn_8 rfl (Nat.le_of_ble_eq_true rfl) (Nat.le_of_ble_eq_true rfl) (fun _ m2 => ?_)
    refine rf_mask (lc2 := [none]) [false] rfl ?_
    exact pX9_goOn_K11 hG _
def fX9_foundIn_B3 (l1 : Int32) (l2 : Int32) (l3 : Int32) (r3 : Int32 → ax_M → Option (Int32 × ax_M)) (l4 : Int32) (μ : ax_M) : Option (Int32 × ax_M) :=
  (if l2 ≤ l4 then (some ((-1 : Int32), μ)) else (Option.bind (ax_rd μ 64 20 (l1 + l4)) (fun v1 => (if v1 = l3 then (some (l4, μ)) else (r3 (l4 + (1 : Int32)) μ)))))
theorem pX9_foundIn_B3 {x : ax_X} {G : ax_G} (hG : ax_ok G) (l1 : Int32) (l2 : Int32) (l3 : Int32) (r3 : Int32 → ax_M → Option (Int32 × ax_M)) (hr3 : ∀ (a4 : Int32) (μ : ax_M), ax_Rf mX9_foundIn 0 x (ax_Z ax_jI x G) G 0 0 3 [some (.ref 64), some (.int l1), some (.int l2), some (.int l3), some (.int a4)] [] μ (r3 a4 μ)) (l4 : Int32) (μ : ax_M) : ax_Rf mX9_foundIn 0 x (ax_Z ax_jI x G) G 0 0 3 [some (.ref 64), some (.int l1), some (.int l2), some (.int l3), some (.int l4)] [] μ (fX9_foundIn_B3 l1 l2 l3 r3 l4 μ) := by
  unfold fX9_foundIn_B3
  refine rf_iload (n := 5) 4 dX9_foundIn_3 rfl rfl ?_
  refine rf_iload_n (n := 6) 2 dX9_foundIn_5 rfl rfl rfl ?_
  refine rf_icmp_ge (tg := 28) (n := 9) dX9_foundIn_6 rfl rfl (fun c3 => ?_) (fun c3 => ?_)
  · refine rf_iconst (n := 29) (-1 : Int32) dX9_foundIn_28 cciconst_m1 rfl ?_
    exact rf_retI rfl dX9_foundIn_29
  · refine rf_aload_n (n := 10) 0 dX9_foundIn_9 rfl rfl rfl ?_
    refine rf_iload_n (n := 11) 1 dX9_foundIn_10 rfl rfl rfl ?_
    refine rf_iload (n := 13) 4 dX9_foundIn_11 rfl rfl ?_
    refine rf_iadd (n := 14) dX9_foundIn_13 rfl ?_
    refine rf_iald (n := 15) hG dX9_foundIn_14 sS_64 kk_64 rfl (fun v1 => ?_)
    refine rf_iload_n (n := 16) 3 dX9_foundIn_15 rfl rfl rfl ?_
    refine rf_icmp_ne (tg := 22) (n := 19) dX9_foundIn_16 rfl rfl (fun c2 => ?_) (fun c2 => ?_)
    · refine rf_iinc (lc2 := [some (.ref 64), some (.int l1), some (.int l2), some (.int l3), some (.int (l4 + (1 : Int32)))]) (n := 25) (w := (1 : Int32)) 4 dX9_foundIn_22 rfl rfl rfl (Nat.le_of_ble_eq_true rfl) rfl rfl ?_
      refine rf_goto (tg := 3) dX9_foundIn_25 rfl ?_
      exact hr3 _ _
    · refine rf_iload (n := 21) 4 dX9_foundIn_19 rfl rfl ?_
      exact rf_retI rfl dX9_foundIn_21
theorem pX9_foundIn_L3 {x : ax_X} {G : ax_G} (hG : ax_ok G) (l1 : Int32) (l2 : Int32) (l3 : Int32) (n : Nat) (a4 : Int32) (μ : ax_M) : ax_Rf mX9_foundIn 0 x (ax_Z ax_jI x G) G 0 0 3 [some (.ref 64), some (.int l1), some (.int l2), some (.int l3), some (.int a4)] [] μ (ax_lp1 (fX9_foundIn_B3 l1 l2 l3) n a4 μ) :=
  rf_lp1 (P := fun a4 μ t => ax_Rf mX9_foundIn 0 x (ax_Z ax_jI x G) G 0 0 3 [some (.ref 64), some (.int l1), some (.int l2), some (.int l3), some (.int a4)] [] μ t) (fun _ _ => rf_none) (fun rc hrc a4 μ => pX9_foundIn_B3 hG l1 l2 l3 rc hrc a4 μ) n a4 μ
def fX9_foundIn (p1 : Int32) (p2 : Int32) (p3 : Int32) (μ : ax_M) : Option (Int32 × ax_M) :=
  (ax_lp1 (fX9_foundIn_B3 p1 p2 p3) ax_FU (0 : Int32) μ)
theorem okX9_foundIn (p1 : Int32) (p2 : Int32) (p3 : Int32) (μ : ax_M) : ax_Ok mX9_foundIn 0 ax_jI [.ref 64, .int p1, .int p2, .int p3] μ (fX9_foundIn p1 p2 p3 μ) := by
  refine ax_start (lc := [some (.ref 64), some (.int p1), some (.int p2), some (.int p3), none]) 1 (by decide +kernel) rfl (Nat.le_of_ble_eq_true rfl) (fun x G hG => ?_)
  unfold fX9_foundIn
  refine rf_iconst (n := 1) (0 : Int32) dX9_foundIn_0 cciconst_0 rfl ?_
  refine rf_istore (lc2 := [some (.ref 64), some (.int p1), some (.int p2), some (.int p3), some (.int (0 : Int32))]) (n := 3) 4 dX9_foundIn_1 rfl (Nat.le_of_ble_eq_true rfl) rfl rfl ?_
  exact pX9_foundIn_L3 hG _ _ _ _ _ _
def fX9_wrong (p1 : Int32) (μ : ax_M) : Option (Unit × ax_M) :=
  (if (μ.1 57 24) = 0 then (ax_let (ax_wi μ 57 24 p1) (fun m1 => (ax_let (ax_wi m1 57 25 (m1.1 57 21)) (fun m2 => (some ((), m2)))))) else (some ((), μ)))
theorem okX9_wrong (p1 : Int32) (μ : ax_M) : ax_Ok mX9_wrong 0 ax_jV [.ref 57, .int p1] μ (fX9_wrong p1 μ) := by
  refine ax_start (lc := [some (.ref 57), some (.int p1)]) 0 (by decide +kernel) rfl (Nat.le_of_ble_eq_true rfl) (fun x G hG => ?_)
  unfold fX9_wrong
  refine rf_aload_n (n := 1) 0 dX9_wrong_0 rfl rfl rfl ?_
  refine rf_getI (n := 4) hG dX9_wrong_1 flX9_153 ki_9_24 sS_57 kk_57 rfl ?_
  refine rf_if_eq (tg := 8) (n := 7) dX9_wrong_4 rfl rfl (fun c3 => ?_) (fun c3 => ?_)
  · refine rf_aload_n (n := 9) 0 dX9_wrong_8 rfl rfl rfl ?_
    refine rf_iload_n (n := 10) 1 dX9_wrong_9 rfl rfl rfl ?_
    refine rf_pfI (n := 13) hG rfl dX9_wrong_10 flX9_153 ki_9_24 nf_9_24 sS_57 kk_57 rfl (fun m1 => ?_)
    refine rf_aload_n (n := 14) 0 dX9_wrong_13 rfl rfl rfl ?_
    refine rf_aload_n (n := 15) 0 dX9_wrong_14 rfl rfl rfl ?_
    refine rf_getI (n := 18) hG dX9_wrong_15 flX9_119 ki_9_21 sS_57 kk_57 rfl ?_
    refine rf_pfI (n := 21) hG rfl dX9_wrong_18 flX9_156 ki_9_25 nf_9_25 sS_57 kk_57 rfl (fun m2 => ?_)
    exact rf_retV rfl dX9_wrong_21
  · exact rf_retV rfl dX9_wrong_7
def fX9_newName_K47 (l2 : Int32) (l3 : Int32) (μ : ax_M) : Option (Unit × ax_M) :=
  (if (μ.1 57 24) = 0 then (Option.bind (ax_wr μ 64 20 (l2 + l3) (μ.1 57 23)) (fun m5 => (ax_bd (fX9_token m5) (fun _ m7 => (some ((), m7)))))) else (some ((), μ)))
theorem pX9_newName_K47 {x : ax_X} {G : ax_G} (hG : ax_ok G) (l2 : Int32) (l3 : Int32) (μ : ax_M) : ax_Rf mX9_newName 7 x (ax_Z ax_jV x G) G 0 0 47 [some (.ref 57), some (.ref 64), some (.int l2), some (.int l3)] [] μ (fX9_newName_K47 l2 l3 μ) := by
  unfold fX9_newName_K47
  refine rf_aload_n (n := 48) 0 dX9_newName_47 rfl rfl rfl ?_
  refine rf_getI (n := 51) hG dX9_newName_48 flX9_153 ki_9_24 sS_57 kk_57 rfl ?_
  refine rf_if_eq (tg := 55) (n := 54) dX9_newName_51 rfl rfl (fun c8 => ?_) (fun c8 => ?_)
  · refine rf_aload_n (n := 56) 1 dX9_newName_55 rfl rfl rfl ?_
    refine rf_iload_n (n := 57) 2 dX9_newName_56 rfl rfl rfl ?_
    refine rf_iload_n (n := 58) 3 dX9_newName_57 rfl rfl rfl ?_
    refine rf_iadd (n := 59) dX9_newName_58 rfl ?_
    refine rf_aload_n (n := 60) 0 dX9_newName_59 rfl rfl rfl ?_
    refine rf_getI (n := 63) hG dX9_newName_60 flX9_132 ki_9_23 sS_57 kk_57 rfl ?_
    refine rf_iast (n := 64) hG dX9_newName_63 sS_64 kk_64 rfl (fun m5 => ?_)
    refine rf_aload_n (n := 65) 0 dX9_newName_64 rfl rfl rfl ?_
    refine rf_cV0V (n := 68) hG (okX9_token _) lVX9_159 hhX9_token kk_57 sS_57 ⟨_, rfl, rfl⟩ dX9_newName_65 rfl (Nat.le_of_ble_eq_true rfl) (Nat.le_of_ble_eq_true rfl) (fun _ m7 => ?_)
    exact rf_retV rfl dX9_newName_68
  · exact rf_retV rfl dX9_newName_54
def fX9_newName (p2 : Int32) (p3 : Int32) (μ : ax_M) : Option (Unit × ax_M) :=
  (ax_bd (fX9_goOn μ) (fun _ m2 => (if (m2.1 57 24) = 0 then (if (m2.1 57 22) = (1 : Int32) then (ax_bd (fX9_foundIn p2 p3 (m2.1 57 23) m2) (fun v3 m4 => (if v3 = (-1 : Int32) then (fX9_newName_K47 p2 p3 m4) else (ax_bd (fX9_wrong (3 : Int32) m4) (fun _ m10 => (fX9_newName_K47 p2 p3 m10)))))) else (ax_bd (fX9_wrong (1 : Int32) m2) (fun _ m13 => (fX9_newName_K47 p2 p3 m13)))) else (some ((), m2)))))
theorem okX9_newName (p2 : Int32) (p3 : Int32) (μ : ax_M) : ax_Ok mX9_newName 7 ax_jV [.ref 57, .ref 64, .int p2, .int p3] μ (fX9_newName p2 p3 μ) := by
  refine ax_start (lc := [some (.ref 57), some (.ref 64), some (.int p2), some (.int p3)]) 0 (by decide +kernel) rfl (Nat.le_of_ble_eq_true rfl) (fun x G hG => ?_)
  unfold fX9_newName
  refine rf_aload_n (n := 1) 0 dX9_newName_0 rfl rfl rfl ?_
  refine rf_cV0V (n := 4) hG (okX9_goOn _) lVX9_166 hhX9_goOn kk_57 sS_57 ⟨_, rfl, rfl⟩ dX9_newName_1 rfl (Nat.le_of_ble_eq_true rfl) (Nat.le_of_ble_eq_true rfl) (fun _ m2 => ?_)
  refine rf_aload_n (n := 5) 0 dX9_newName_4 rfl rfl rfl ?_
  refine rf_getI (n := 8) hG dX9_newName_5 flX9_153 ki_9_24 sS_57 kk_57 rfl ?_
  refine rf_if_eq (tg := 12) (n := 11) dX9_newName_8 rfl rfl (fun c15 => ?_) (fun c15 => ?_)
  · refine rf_aload_n (n := 13) 0 dX9_newName_12 rfl rfl rfl ?_
    refine rf_getI (n := 16) hG dX9_newName_13 flX9_122 ki_9_22 sS_57 kk_57 rfl ?_
    refine rf_iconst (n := 17) (1 : Int32) dX9_newName_16 cciconst_1 rfl ?_
    refine rf_icmp_eq (tg := 28) (n := 20) dX9_newName_17 rfl rfl (fun c14 => ?_) (fun c14 => ?_)
    · refine rf_aload_n (n := 29) 1 dX9_newName_28 rfl rfl rfl ?_
      refine rf_iload_n (n := 30) 2 dX9_newName_29 rfl rfl rfl ?_
      refine rf_iload_n (n := 31) 3 dX9_newName_30 rfl rfl rfl ?_
      refine rf_aload_n (n := 32) 0 dX9_newName_31 rfl rfl rfl ?_
      refine rf_getI (n := 35) hG dX9_newName_32 flX9_132 ki_9_23 sS_57 kk_57 rfl ?_
      refine rf_cS4I (n := 38) hG (okX9_foundIn _ _ _ _) lSX9_177 hhX9_foundIn dX9_newName_35 rfl (Nat.le_of_ble_eq_true rfl) (Nat.le_of_ble_eq_true rfl) (fun v3 m4 => ?_)
      refine rf_iconst (n := 39) (-1 : Int32) dX9_newName_38 cciconst_m1 rfl ?_
      refine rf_icmp_eq (tg := 47) (n := 42) dX9_newName_39 rfl rfl (fun c11 => ?_) (fun c11 => ?_)
      · exact pX9_newName_K47 hG _ _ _
      · refine rf_aload_n (n := 43) 0 dX9_newName_42 rfl rfl rfl ?_
        refine rf_iconst (n := 44) (3 : Int32) dX9_newName_43 cciconst_3 rfl ?_
        refine rf_cV1V (n := 47) hG (okX9_wrong _ _) lVX9_162 hhX9_wrong kk_57 sS_57 ⟨_, rfl, rfl⟩ dX9_newName_44 rfl (Nat.le_of_ble_eq_true rfl) (Nat.le_of_ble_eq_true rfl) (fun _ m10 => ?_)
        exact pX9_newName_K47 hG _ _ _
    · refine rf_aload_n (n := 21) 0 dX9_newName_20 rfl rfl rfl ?_
      refine rf_iconst (n := 22) (1 : Int32) dX9_newName_21 cciconst_1 rfl ?_
      refine rf_cV1V (n := 25) hG (okX9_wrong _ _) lVX9_162 hhX9_wrong kk_57 sS_57 ⟨_, rfl, rfl⟩ dX9_newName_22 rfl (Nat.le_of_ble_eq_true rfl) (Nat.le_of_ble_eq_true rfl) (fun _ m13 => ?_)
      refine rf_goto (tg := 47) dX9_newName_25 rfl ?_
      exact pX9_newName_K47 hG _ _ _
  · exact rf_retV rfl dX9_newName_11
def fX9_foundIn_1_B3 (l1 : Int32) (l2 : Int32) (l3 : Int32) (r3 : Int32 → ax_M → Option (Int32 × ax_M)) (l4 : Int32) (μ : ax_M) : Option (Int32 × ax_M) :=
  (if l2 ≤ l4 then (some ((-1 : Int32), μ)) else (Option.bind (ax_rd μ 61 8 (l1 + l4)) (fun v1 => (if v1 = l3 then (some (l4, μ)) else (r3 (l4 + (1 : Int32)) μ)))))
theorem pX9_foundIn_1_B3 {x : ax_X} {G : ax_G} (hG : ax_ok G) (l1 : Int32) (l2 : Int32) (l3 : Int32) (r3 : Int32 → ax_M → Option (Int32 × ax_M)) (hr3 : ∀ (a4 : Int32) (μ : ax_M), ax_Rf mX9_foundIn 0 x (ax_Z ax_jI x G) G 0 0 3 [some (.ref 61), some (.int l1), some (.int l2), some (.int l3), some (.int a4)] [] μ (r3 a4 μ)) (l4 : Int32) (μ : ax_M) : ax_Rf mX9_foundIn 0 x (ax_Z ax_jI x G) G 0 0 3 [some (.ref 61), some (.int l1), some (.int l2), some (.int l3), some (.int l4)] [] μ (fX9_foundIn_1_B3 l1 l2 l3 r3 l4 μ) := by
  unfold fX9_foundIn_1_B3
  refine rf_iload (n := 5) 4 dX9_foundIn_3 rfl rfl ?_
  refine rf_iload_n (n := 6) 2 dX9_foundIn_5 rfl rfl rfl ?_
  refine rf_icmp_ge (tg := 28) (n := 9) dX9_foundIn_6 rfl rfl (fun c3 => ?_) (fun c3 => ?_)
  · refine rf_iconst (n := 29) (-1 : Int32) dX9_foundIn_28 cciconst_m1 rfl ?_
    exact rf_retI rfl dX9_foundIn_29
  · refine rf_aload_n (n := 10) 0 dX9_foundIn_9 rfl rfl rfl ?_
    refine rf_iload_n (n := 11) 1 dX9_foundIn_10 rfl rfl rfl ?_
    refine rf_iload (n := 13) 4 dX9_foundIn_11 rfl rfl ?_
    refine rf_iadd (n := 14) dX9_foundIn_13 rfl ?_
    refine rf_iald (n := 15) hG dX9_foundIn_14 sS_61 kk_61 rfl (fun v1 => ?_)
    refine rf_iload_n (n := 16) 3 dX9_foundIn_15 rfl rfl rfl ?_
    refine rf_icmp_ne (tg := 22) (n := 19) dX9_foundIn_16 rfl rfl (fun c2 => ?_) (fun c2 => ?_)
    · refine rf_iinc (lc2 := [some (.ref 61), some (.int l1), some (.int l2), some (.int l3), some (.int (l4 + (1 : Int32)))]) (n := 25) (w := (1 : Int32)) 4 dX9_foundIn_22 rfl rfl rfl (Nat.le_of_ble_eq_true rfl) rfl rfl ?_
      refine rf_goto (tg := 3) dX9_foundIn_25 rfl ?_
      exact hr3 _ _
    · refine rf_iload (n := 21) 4 dX9_foundIn_19 rfl rfl ?_
      exact rf_retI rfl dX9_foundIn_21
theorem pX9_foundIn_1_L3 {x : ax_X} {G : ax_G} (hG : ax_ok G) (l1 : Int32) (l2 : Int32) (l3 : Int32) (n : Nat) (a4 : Int32) (μ : ax_M) : ax_Rf mX9_foundIn 0 x (ax_Z ax_jI x G) G 0 0 3 [some (.ref 61), some (.int l1), some (.int l2), some (.int l3), some (.int a4)] [] μ (ax_lp1 (fX9_foundIn_1_B3 l1 l2 l3) n a4 μ) :=
  rf_lp1 (P := fun a4 μ t => ax_Rf mX9_foundIn 0 x (ax_Z ax_jI x G) G 0 0 3 [some (.ref 61), some (.int l1), some (.int l2), some (.int l3), some (.int a4)] [] μ t) (fun _ _ => rf_none) (fun rc hrc a4 μ => pX9_foundIn_1_B3 hG l1 l2 l3 rc hrc a4 μ) n a4 μ
def fX9_foundIn_1 (p1 : Int32) (p2 : Int32) (p3 : Int32) (μ : ax_M) : Option (Int32 × ax_M) :=
  (ax_lp1 (fX9_foundIn_1_B3 p1 p2 p3) ax_FU (0 : Int32) μ)
theorem okX9_foundIn_1 (p1 : Int32) (p2 : Int32) (p3 : Int32) (μ : ax_M) : ax_Ok mX9_foundIn 0 ax_jI [.ref 61, .int p1, .int p2, .int p3] μ (fX9_foundIn_1 p1 p2 p3 μ) := by
  refine ax_start (lc := [some (.ref 61), some (.int p1), some (.int p2), some (.int p3), none]) 1 (by decide +kernel) rfl (Nat.le_of_ble_eq_true rfl) (fun x G hG => ?_)
  unfold fX9_foundIn_1
  refine rf_iconst (n := 1) (0 : Int32) dX9_foundIn_0 cciconst_0 rfl ?_
  refine rf_istore (lc2 := [some (.ref 61), some (.int p1), some (.int p2), some (.int p3), some (.int (0 : Int32))]) (n := 3) 4 dX9_foundIn_1 rfl (Nat.le_of_ble_eq_true rfl) rfl rfl ?_
  exact pX9_foundIn_1_L3 hG _ _ _ _ _ _
def fX9_oldName_K68 (s0 : Int32) (μ : ax_M) : Option (Int32 × ax_M) :=
  (some (s0, μ))
theorem pX9_oldName_K68 {x : ax_X} {G : ax_G} (hG : ax_ok G) (s0 : Int32) (μ : ax_M) : ax_Rf mX9_oldName 1 x (ax_Z ax_jI x G) G 0 0 68 [none, none, none, none, none] [.int s0] μ (fX9_oldName_K68 s0 μ) := by
  unfold fX9_oldName_K68
  exact rf_retI rfl dX9_oldName_68
def fX9_oldName_K56 (l4 : Int32) (μ : ax_M) : Option (Int32 × ax_M) :=
  (if l4 = (-1 : Int32) then (fX9_oldName_K68 (0 : Int32) μ) else (fX9_oldName_K68 l4 μ))
theorem pX9_oldName_K56 {x : ax_X} {G : ax_G} (hG : ax_ok G) (l4 : Int32) (μ : ax_M) : ax_Rf mX9_oldName 1 x (ax_Z ax_jI x G) G 0 0 56 [none, none, none, none, some (.int l4)] [] μ (fX9_oldName_K56 l4 μ) := by
  unfold fX9_oldName_K56
  refine rf_iload (n := 58) 4 dX9_oldName_56 rfl rfl ?_
  refine rf_iconst (n := 59) (-1 : Int32) dX9_oldName_58 cciconst_m1 rfl ?_
  refine rf_icmp_ne (tg := 66) (n := 62) dX9_oldName_59 rfl rfl (fun c1 => ?_) (fun c1 => ?_)
  · refine rf_iload (n := 68) 4 dX9_oldName_66 rfl rfl ?_
    refine rf_mask (lc2 := [none, none, none, none, none]) [true, true, true, true, false] rfl ?_
    exact pX9_oldName_K68 hG _ _
  · refine rf_iconst (n := 63) (0 : Int32) dX9_oldName_62 cciconst_0 rfl ?_
    refine rf_goto (tg := 68) dX9_oldName_63 rfl ?_
    refine rf_mask (lc2 := [none, none, none, none, none]) [true, true, true, true, false] rfl ?_
    exact pX9_oldName_K68 hG _ _
def fX9_oldName_K43 (s0 : Int32) (μ : ax_M) : Option (Int32 × ax_M) :=
  (if s0 = (-1 : Int32) then (ax_bd (fX9_wrong (4 : Int32) μ) (fun _ m3 => (fX9_oldName_K56 s0 m3))) else (fX9_oldName_K56 s0 μ))
theorem pX9_oldName_K43 {x : ax_X} {G : ax_G} (hG : ax_ok G) (s0 : Int32) (μ : ax_M) : ax_Rf mX9_oldName 1 x (ax_Z ax_jI x G) G 0 0 43 [some (.ref 57), none, none, none, none] [.int s0] μ (fX9_oldName_K43 s0 μ) := by
  unfold fX9_oldName_K43
  refine rf_istore (lc2 := [some (.ref 57), none, none, none, some (.int s0)]) (n := 45) 4 dX9_oldName_43 rfl (Nat.le_of_ble_eq_true rfl) rfl rfl ?_
  refine rf_iload (n := 47) 4 dX9_oldName_45 rfl rfl ?_
  refine rf_iconst (n := 48) (-1 : Int32) dX9_oldName_47 cciconst_m1 rfl ?_
  refine rf_icmp_ne (tg := 56) (n := 51) dX9_oldName_48 rfl rfl (fun c4 => ?_) (fun c4 => ?_)
  · refine rf_mask (lc2 := [none, none, none, none, some (.int s0)]) [false, true, true, true, true] rfl ?_
    exact pX9_oldName_K56 hG _ _
  · refine rf_aload_n (n := 52) 0 dX9_oldName_51 rfl rfl rfl ?_
    refine rf_iconst (n := 53) (4 : Int32) dX9_oldName_52 cciconst_4 rfl ?_
    refine rf_cV1V (n := 56) hG (okX9_wrong _ _) lVX9_162 hhX9_wrong kk_57 sS_57 ⟨_, rfl, rfl⟩ dX9_oldName_53 rfl (Nat.le_of_ble_eq_true rfl) (Nat.le_of_ble_eq_true rfl) (fun _ m3 => ?_)
    refine rf_mask (lc2 := [none, none, none, none, some (.int s0)]) [false, true, true, true, true] rfl ?_
    exact pX9_oldName_K56 hG _ _
def fX9_oldName_K22 (l2 : Int32) (l3 : Int32) (μ : ax_M) : Option (Int32 × ax_M) :=
  (if (μ.1 57 24) = 0 then (ax_bd (fX9_foundIn_1 l2 l3 (μ.1 57 23) μ) (fun v5 m6 => (fX9_oldName_K43 v5 m6))) else (fX9_oldName_K43 (0 : Int32) μ))
theorem pX9_oldName_K22 {x : ax_X} {G : ax_G} (hG : ax_ok G) (l2 : Int32) (l3 : Int32) (μ : ax_M) : ax_Rf mX9_oldName 1 x (ax_Z ax_jI x G) G 0 0 22 [some (.ref 57), some (.ref 61), some (.int l2), some (.int l3), none] [] μ (fX9_oldName_K22 l2 l3 μ) := by
  unfold fX9_oldName_K22
  refine rf_aload_n (n := 23) 0 dX9_oldName_22 rfl rfl rfl ?_
  refine rf_getI (n := 26) hG dX9_oldName_23 flX9_153 ki_9_24 sS_57 kk_57 rfl ?_
  refine rf_if_ne (tg := 42) (n := 29) dX9_oldName_26 rfl rfl (fun c7 => ?_) (fun c7 => ?_)
  · refine rf_iconst (n := 43) (0 : Int32) dX9_oldName_42 cciconst_0 rfl ?_
    refine rf_mask (lc2 := [some (.ref 57), none, none, none, none]) [true, false, false, false, true] rfl ?_
    exact pX9_oldName_K43 hG _ _
  · refine rf_aload_n (n := 30) 1 dX9_oldName_29 rfl rfl rfl ?_
    refine rf_iload_n (n := 31) 2 dX9_oldName_30 rfl rfl rfl ?_
    refine rf_iload_n (n := 32) 3 dX9_oldName_31 rfl rfl rfl ?_
    refine rf_aload_n (n := 33) 0 dX9_oldName_32 rfl rfl rfl ?_
    refine rf_getI (n := 36) hG dX9_oldName_33 flX9_132 ki_9_23 sS_57 kk_57 rfl ?_
    refine rf_cS4I (n := 39) hG (okX9_foundIn_1 _ _ _ _) lSX9_177 hhX9_foundIn dX9_oldName_36 rfl (Nat.le_of_ble_eq_true rfl) (Nat.le_of_ble_eq_true rfl) (fun v5 m6 => ?_)
    refine rf_goto (tg := 43) dX9_oldName_39 rfl ?_
    refine rf_mask (lc2 := [some (.ref 57), none, none, none, none]) [true, false, false, false, true] rfl ?_
    exact pX9_oldName_K43 hG _ _
def fX9_oldName (p2 : Int32) (p3 : Int32) (μ : ax_M) : Option (Int32 × ax_M) :=
  (if (μ.1 57 24) = 0 then (if (μ.1 57 22) = (1 : Int32) then (fX9_oldName_K22 p2 p3 μ) else (ax_bd (fX9_wrong (1 : Int32) μ) (fun _ m9 => (fX9_oldName_K22 p2 p3 m9)))) else (some ((0 : Int32), μ)))
theorem okX9_oldName (p2 : Int32) (p3 : Int32) (μ : ax_M) : ax_Ok mX9_oldName 1 ax_jI [.ref 57, .ref 61, .int p2, .int p3] μ (fX9_oldName p2 p3 μ) := by
  refine ax_start (lc := [some (.ref 57), some (.ref 61), some (.int p2), some (.int p3), none]) 1 (by decide +kernel) rfl (Nat.le_of_ble_eq_true rfl) (fun x G hG => ?_)
  unfold fX9_oldName
  refine rf_aload_n (n := 1) 0 dX9_oldName_0 rfl rfl rfl ?_
  refine rf_getI (n := 4) hG dX9_oldName_1 flX9_153 ki_9_24 sS_57 kk_57 rfl ?_
  refine rf_if_eq (tg := 9) (n := 7) dX9_oldName_4 rfl rfl (fun c11 => ?_) (fun c11 => ?_)
  · refine rf_aload_n (n := 10) 0 dX9_oldName_9 rfl rfl rfl ?_
    refine rf_getI (n := 13) hG dX9_oldName_10 flX9_122 ki_9_22 sS_57 kk_57 rfl ?_
    refine rf_iconst (n := 14) (1 : Int32) dX9_oldName_13 cciconst_1 rfl ?_
    refine rf_icmp_eq (tg := 22) (n := 17) dX9_oldName_14 rfl rfl (fun c10 => ?_) (fun c10 => ?_)
    · exact pX9_oldName_K22 hG _ _ _
    · refine rf_aload_n (n := 18) 0 dX9_oldName_17 rfl rfl rfl ?_
      refine rf_iconst (n := 19) (1 : Int32) dX9_oldName_18 cciconst_1 rfl ?_
      refine rf_cV1V (n := 22) hG (okX9_wrong _ _) lVX9_162 hhX9_wrong kk_57 sS_57 ⟨_, rfl, rfl⟩ dX9_oldName_19 rfl (Nat.le_of_ble_eq_true rfl) (Nat.le_of_ble_eq_true rfl) (fun _ m9 => ?_)
      exact pX9_oldName_K22 hG _ _ _
  · refine rf_iconst (n := 8) (0 : Int32) dX9_oldName_7 cciconst_0 rfl ?_
    exact rf_retI rfl dX9_oldName_8
def fX9_numeral_K61 (s0 : Int32) (μ : ax_M) : Option (Int32 × ax_M) :=
  (ax_bd (fX9_goOn μ) (fun _ m4 => (some (s0, m4))))
theorem pX9_numeral_K61 {x : ax_X} {G : ax_G} (hG : ax_ok G) (s0 : Int32) (μ : ax_M) : ax_Rf mX9_numeral 7 x (ax_Z ax_jI x G) G 0 0 61 [some (.ref 57), none, none, none] [.int s0] μ (fX9_numeral_K61 s0 μ) := by
  unfold fX9_numeral_K61
  refine rf_istore_n (lc2 := [some (.ref 57), none, none, some (.int s0)]) (n := 62) 3 dX9_numeral_61 rfl rfl (Nat.le_of_ble_eq_true rfl) rfl rfl ?_
  refine rf_aload_n (n := 63) 0 dX9_numeral_62 rfl rfl rfl ?_
  refine rf_cV0V (n := 66) hG (okX9_goOn _) lVX9_166 hhX9_goOn kk_57 sS_57 ⟨_, rfl, rfl⟩ dX9_numeral_63 rfl (Nat.le_of_ble_eq_true rfl) (Nat.le_of_ble_eq_true rfl) (fun _ m4 => ?_)
  refine rf_iload_n (n := 67) 3 dX9_numeral_66 rfl rfl rfl ?_
  exact rf_retI rfl dX9_numeral_67
def fX9_numeral_K46 (l1 : Int32) (μ : ax_M) : Option (Int32 × ax_M) :=
  (if (μ.1 57 24) = 0 then (fX9_numeral_K61 (μ.1 57 23) μ) else (fX9_numeral_K61 l1 μ))
theorem pX9_numeral_K46 {x : ax_X} {G : ax_G} (hG : ax_ok G) (l1 : Int32) (μ : ax_M) : ax_Rf mX9_numeral 7 x (ax_Z ax_jI x G) G 0 0 46 [some (.ref 57), some (.int l1), none, none] [] μ (fX9_numeral_K46 l1 μ) := by
  unfold fX9_numeral_K46
  refine rf_aload_n (n := 47) 0 dX9_numeral_46 rfl rfl rfl ?_
  refine rf_getI (n := 50) hG dX9_numeral_47 flX9_153 ki_9_24 sS_57 kk_57 rfl ?_
  refine rf_if_ne (tg := 60) (n := 53) dX9_numeral_50 rfl rfl (fun c5 => ?_) (fun c5 => ?_)
  · refine rf_iload_n (n := 61) 1 dX9_numeral_60 rfl rfl rfl ?_
    refine rf_mask (lc2 := [some (.ref 57), none, none, none]) [true, false, true, true] rfl ?_
    exact pX9_numeral_K61 hG _ _
  · refine rf_aload_n (n := 54) 0 dX9_numeral_53 rfl rfl rfl ?_
    refine rf_getI (n := 57) hG dX9_numeral_54 flX9_132 ki_9_23 sS_57 kk_57 rfl ?_
    refine rf_goto (tg := 61) dX9_numeral_57 rfl ?_
    refine rf_mask (lc2 := [some (.ref 57), none, none, none]) [true, false, true, true] rfl ?_
    exact pX9_numeral_K61 hG _ _
def fX9_numeral_K41 (l1 : Int32) (μ : ax_M) : Option (Int32 × ax_M) :=
  (ax_bd (fX9_wrong (2 : Int32) μ) (fun _ m2 => (fX9_numeral_K46 l1 m2)))
theorem pX9_numeral_K41 {x : ax_X} {G : ax_G} (hG : ax_ok G) (l1 : Int32) (μ : ax_M) : ax_Rf mX9_numeral 7 x (ax_Z ax_jI x G) G 0 0 41 [some (.ref 57), some (.int l1), none, none] [] μ (fX9_numeral_K41 l1 μ) := by
  unfold fX9_numeral_K41
  refine rf_aload_n (n := 42) 0 dX9_numeral_41 rfl rfl rfl ?_
  refine rf_iconst (n := 43) (2 : Int32) dX9_numeral_42 cciconst_2 rfl ?_
  refine rf_cV1V (n := 46) hG (okX9_wrong _ _) lVX9_162 hhX9_wrong kk_57 sS_57 ⟨_, rfl, rfl⟩ dX9_numeral_43 rfl (Nat.le_of_ble_eq_true rfl) (Nat.le_of_ble_eq_true rfl) (fun _ m2 => ?_)
  exact pX9_numeral_K46 hG _ _
def fX9_numeral (p1 : Int32) (p2 : Int32) (μ : ax_M) : Option (Int32 × ax_M) :=
  (if (μ.1 57 24) = 0 then (if (μ.1 57 22) = (2 : Int32) then (if (μ.1 57 23) < p1 then (fX9_numeral_K41 p1 μ) else (if (μ.1 57 23) ≤ p2 then (fX9_numeral_K46 p1 μ) else (fX9_numeral_K41 p1 μ))) else (ax_bd (fX9_wrong (1 : Int32) μ) (fun _ m9 => (fX9_numeral_K46 p1 m9)))) else (some (p1, μ)))
theorem okX9_numeral (p1 : Int32) (p2 : Int32) (μ : ax_M) : ax_Ok mX9_numeral 7 ax_jI [.ref 57, .int p1, .int p2] μ (fX9_numeral p1 p2 μ) := by
  refine ax_start (lc := [some (.ref 57), some (.int p1), some (.int p2), none]) 1 (by decide +kernel) rfl (Nat.le_of_ble_eq_true rfl) (fun x G hG => ?_)
  unfold fX9_numeral
  refine rf_aload_n (n := 1) 0 dX9_numeral_0 rfl rfl rfl ?_
  refine rf_getI (n := 4) hG dX9_numeral_1 flX9_153 ki_9_24 sS_57 kk_57 rfl ?_
  refine rf_if_eq (tg := 9) (n := 7) dX9_numeral_4 rfl rfl (fun c11 => ?_) (fun c11 => ?_)
  · refine rf_aload_n (n := 10) 0 dX9_numeral_9 rfl rfl rfl ?_
    refine rf_getI (n := 13) hG dX9_numeral_10 flX9_122 ki_9_22 sS_57 kk_57 rfl ?_
    refine rf_iconst (n := 14) (2 : Int32) dX9_numeral_13 cciconst_2 rfl ?_
    refine rf_icmp_eq (tg := 25) (n := 17) dX9_numeral_14 rfl rfl (fun c10 => ?_) (fun c10 => ?_)
    · refine rf_aload_n (n := 26) 0 dX9_numeral_25 rfl rfl rfl ?_
      refine rf_getI (n := 29) hG dX9_numeral_26 flX9_132 ki_9_23 sS_57 kk_57 rfl ?_
      refine rf_iload_n (n := 30) 1 dX9_numeral_29 rfl rfl rfl ?_
      refine rf_icmp_lt (tg := 41) (n := 33) dX9_numeral_30 rfl rfl (fun c7 => ?_) (fun c7 => ?_)
      · refine rf_mask (lc2 := [some (.ref 57), some (.int p1), none, none]) [true, true, false, true] rfl ?_
        exact pX9_numeral_K41 hG _ _
      · refine rf_aload_n (n := 34) 0 dX9_numeral_33 rfl rfl rfl ?_
        refine rf_getI (n := 37) hG dX9_numeral_34 flX9_132 ki_9_23 sS_57 kk_57 rfl ?_
        refine rf_iload_n (n := 38) 2 dX9_numeral_37 rfl rfl rfl ?_
        refine rf_icmp_le (tg := 46) (n := 41) dX9_numeral_38 rfl rfl (fun c6 => ?_) (fun c6 => ?_)
        · refine rf_mask (lc2 := [some (.ref 57), some (.int p1), none, none]) [true, true, false, true] rfl ?_
          exact pX9_numeral_K46 hG _ _
        · refine rf_mask (lc2 := [some (.ref 57), some (.int p1), none, none]) [true, true, false, true] rfl ?_
          exact pX9_numeral_K41 hG _ _
    · refine rf_aload_n (n := 18) 0 dX9_numeral_17 rfl rfl rfl ?_
      refine rf_iconst (n := 19) (1 : Int32) dX9_numeral_18 cciconst_1 rfl ?_
      refine rf_cV1V (n := 22) hG (okX9_wrong _ _) lVX9_162 hhX9_wrong kk_57 sS_57 ⟨_, rfl, rfl⟩ dX9_numeral_19 rfl (Nat.le_of_ble_eq_true rfl) (Nat.le_of_ble_eq_true rfl) (fun _ m9 => ?_)
      refine rf_goto (tg := 46) dX9_numeral_22 rfl ?_
      refine rf_mask (lc2 := [some (.ref 57), some (.int p1), none, none]) [true, true, false, true] rfl ?_
      exact pX9_numeral_K46 hG _ _
  · refine rf_iload_n (n := 8) 1 dX9_numeral_7 rfl rfl rfl ?_
    exact rf_retI rfl dX9_numeral_8
def fX9_readCell_K20 (l1 : Int32) (l2 : Int32) (μ : ax_M) : Option (Unit × ax_M) :=
  (ax_bd (fX9_reading (2 : Int32) μ) (fun v4 m5 => (ax_bd (fX9_newName (10 : Int32) v4 m5) (fun _ m7 => (ax_bd (fX9_reading (1 : Int32) m7) (fun v8 m9 => (ax_bd (fX9_oldName (4 : Int32) v8 m9) (fun v10 m11 => (ax_bd (fX9_goOn m11) (fun _ m13 => (ax_bd (fX9_numeral (0 : Int32) (99 : Int32) m13) (fun v14 m15 => (ax_bd (fX9_numeral (0 : Int32) (99 : Int32) m15) (fun v16 m17 => (ax_bd (fX9_numeral (0 : Int32) (99 : Int32) m17) (fun v18 m19 => (if (m19.1 57 24) = 0 then (Option.bind (ax_wr m19 65 20 l2 v10) (fun m20 => (Option.bind (ax_wr m20 66 20 l2 v14) (fun m21 => (Option.bind (ax_wr m21 67 20 l2 v16) (fun m22 => (Option.bind (ax_wr m22 68 20 l2 v18) (fun m23 => (Option.bind (ax_wz m23 69 20 l2 l1) (fun m24 => (ax_bd (fX9_reading (2 : Int32) m24) (fun v25 m26 => (ax_bd (fX9_reads (2 : Int32) (v25 + (1 : Int32)) m26) (fun _ m28 => (some ((), m28)))))))))))))))) else (some ((), m19)))))))))))))))))))
theorem pX9_readCell_K20 {x : ax_X} {G : ax_G} (hG : ax_ok G) (l1 : Int32) (l2 : Int32) (μ : ax_M) : ax_Rf mX9_readCell 8 x (ax_Z ax_jV x G) G 0 0 20 [some (.ref 57), some (.int l1), some (.int l2), none, none, none, none] [] μ (fX9_readCell_K20 l1 l2 μ) := by
  unfold fX9_readCell_K20
  refine rf_aload_n (n := 21) 0 dX9_readCell_20 rfl rfl rfl ?_
  refine rf_aload_n (n := 22) 0 dX9_readCell_21 rfl rfl rfl ?_
  refine rf_getR (n := 25) rr_57_8 kk_64 hG dX9_readCell_22 flX9_29 ki_9_8 sS_57 kk_57 rfl ?_
  refine rf_bipush (n := 27) (10 : Int32) dX9_readCell_25 ccbipush_10 rfl ?_
  refine rf_aload_n (n := 28) 0 dX9_readCell_27 rfl rfl rfl ?_
  refine rf_iconst (n := 29) (2 : Int32) dX9_readCell_28 cciconst_2 rfl ?_
  refine rf_cV1I (n := 32) hG (okX9_reading _ _) lVX9_181 hhX9_reading kk_57 sS_57 ⟨_, rfl, rfl⟩ dX9_readCell_29 rfl (Nat.le_of_ble_eq_true rfl) (Nat.le_of_ble_eq_true rfl) (fun v4 m5 => ?_)
  refine rf_cV3V (n := 35) hG (okX9_newName _ _ _) lVX9_185 hhX9_newName kk_57 sS_57 ⟨_, rfl, rfl⟩ dX9_readCell_32 rfl (Nat.le_of_ble_eq_true rfl) (Nat.le_of_ble_eq_true rfl) (fun _ m7 => ?_)
  refine rf_aload_n (n := 36) 0 dX9_readCell_35 rfl rfl rfl ?_
  refine rf_aload_n (n := 37) 0 dX9_readCell_36 rfl rfl rfl ?_
  refine rf_getR (n := 40) rr_57_5 kk_61 hG dX9_readCell_37 flX9_20 ki_9_5 sS_57 kk_57 rfl ?_
  refine rf_iconst (n := 41) (4 : Int32) dX9_readCell_40 cciconst_4 rfl ?_
  refine rf_aload_n (n := 42) 0 dX9_readCell_41 rfl rfl rfl ?_
  refine rf_iconst (n := 43) (1 : Int32) dX9_readCell_42 cciconst_1 rfl ?_
  refine rf_cV1I (n := 46) hG (okX9_reading _ _) lVX9_181 hhX9_reading kk_57 sS_57 ⟨_, rfl, rfl⟩ dX9_readCell_43 rfl (Nat.le_of_ble_eq_true rfl) (Nat.le_of_ble_eq_true rfl) (fun v8 m9 => ?_)
  refine rf_cV3I (n := 49) hG (okX9_oldName _ _ _) lVX9_189 hhX9_oldName kk_57 sS_57 ⟨_, rfl, rfl⟩ dX9_readCell_46 rfl (Nat.le_of_ble_eq_true rfl) (Nat.le_of_ble_eq_true rfl) (fun v10 m11 => ?_)
  refine rf_istore_n (lc2 := [some (.ref 57), some (.int l1), some (.int l2), some (.int v10), none, none, none]) (n := 50) 3 dX9_readCell_49 rfl rfl (Nat.le_of_ble_eq_true rfl) rfl rfl ?_
  refine rf_aload_n (n := 51) 0 dX9_readCell_50 rfl rfl rfl ?_
  refine rf_cV0V (n := 54) hG (okX9_goOn _) lVX9_166 hhX9_goOn kk_57 sS_57 ⟨_, rfl, rfl⟩ dX9_readCell_51 rfl (Nat.le_of_ble_eq_true rfl) (Nat.le_of_ble_eq_true rfl) (fun _ m13 => ?_)
  refine rf_aload_n (n := 55) 0 dX9_readCell_54 rfl rfl rfl ?_
  refine rf_iconst (n := 56) (0 : Int32) dX9_readCell_55 cciconst_0 rfl ?_
  refine rf_bipush (n := 58) (99 : Int32) dX9_readCell_56 ccbipush_99 rfl ?_
  refine rf_cV2I (n := 61) hG (okX9_numeral _ _ _) lVX9_169 hhX9_numeral kk_57 sS_57 ⟨_, rfl, rfl⟩ dX9_readCell_58 rfl (Nat.le_of_ble_eq_true rfl) (Nat.le_of_ble_eq_true rfl) (fun v14 m15 => ?_)
  refine rf_istore (lc2 := [some (.ref 57), some (.int l1), some (.int l2), some (.int v10), some (.int v14), none, none]) (n := 63) 4 dX9_readCell_61 rfl (Nat.le_of_ble_eq_true rfl) rfl rfl ?_
  refine rf_aload_n (n := 64) 0 dX9_readCell_63 rfl rfl rfl ?_
  refine rf_iconst (n := 65) (0 : Int32) dX9_readCell_64 cciconst_0 rfl ?_
  refine rf_bipush (n := 67) (99 : Int32) dX9_readCell_65 ccbipush_99 rfl ?_
  refine rf_cV2I (n := 70) hG (okX9_numeral _ _ _) lVX9_169 hhX9_numeral kk_57 sS_57 ⟨_, rfl, rfl⟩ dX9_readCell_67 rfl (Nat.le_of_ble_eq_true rfl) (Nat.le_of_ble_eq_true rfl) (fun v16 m17 => ?_)
  refine rf_istore (lc2 := [some (.ref 57), some (.int l1), some (.int l2), some (.int v10), some (.int v14), some (.int v16), none]) (n := 72) 5 dX9_readCell_70 rfl (Nat.le_of_ble_eq_true rfl) rfl rfl ?_
  refine rf_aload_n (n := 73) 0 dX9_readCell_72 rfl rfl rfl ?_
  refine rf_iconst (n := 74) (0 : Int32) dX9_readCell_73 cciconst_0 rfl ?_
  refine rf_bipush (n := 76) (99 : Int32) dX9_readCell_74 ccbipush_99 rfl ?_
  refine rf_cV2I (n := 79) hG (okX9_numeral _ _ _) lVX9_169 hhX9_numeral kk_57 sS_57 ⟨_, rfl, rfl⟩ dX9_readCell_76 rfl (Nat.le_of_ble_eq_true rfl) (Nat.le_of_ble_eq_true rfl) (fun v18 m19 => ?_)
  refine rf_istore (lc2 := [some (.ref 57), some (.int l1), some (.int l2), some (.int v10), some (.int v14), some (.int v16), some (.int v18)]) (n := 81) 6 dX9_readCell_79 rfl (Nat.le_of_ble_eq_true rfl) rfl rfl ?_
  refine rf_aload_n (n := 82) 0 dX9_readCell_81 rfl rfl rfl ?_
  refine rf_getI (n := 85) hG dX9_readCell_82 flX9_153 ki_9_24 sS_57 kk_57 rfl ?_
  refine rf_if_eq (tg := 89) (n := 88) dX9_readCell_85 rfl rfl (fun c29 => ?_) (fun c29 => ?_)
  · refine rf_aload_n (n := 90) 0 dX9_readCell_89 rfl rfl rfl ?_
    refine rf_getR (n := 93) rr_57_9 kk_65 hG dX9_readCell_90 flX9_32 ki_9_9 sS_57 kk_57 rfl ?_
    refine rf_iload_n (n := 94) 2 dX9_readCell_93 rfl rfl rfl ?_
    refine rf_iload_n (n := 95) 3 dX9_readCell_94 rfl rfl rfl ?_
    refine rf_iast (n := 96) hG dX9_readCell_95 sS_65 kk_65 rfl (fun m20 => ?_)
    refine rf_aload_n (n := 97) 0 dX9_readCell_96 rfl rfl rfl ?_
    refine rf_getR (n := 100) rr_57_10 kk_66 hG dX9_readCell_97 flX9_35 ki_9_10 sS_57 kk_57 rfl ?_
    refine rf_iload_n (n := 101) 2 dX9_readCell_100 rfl rfl rfl ?_
    refine rf_iload (n := 103) 4 dX9_readCell_101 rfl rfl ?_
    refine rf_iast (n := 104) hG dX9_readCell_103 sS_66 kk_66 rfl (fun m21 => ?_)
    refine rf_aload_n (n := 105) 0 dX9_readCell_104 rfl rfl rfl ?_
    refine rf_getR (n := 108) rr_57_11 kk_67 hG dX9_readCell_105 flX9_38 ki_9_11 sS_57 kk_57 rfl ?_
    refine rf_iload_n (n := 109) 2 dX9_readCell_108 rfl rfl rfl ?_
    refine rf_iload (n := 111) 5 dX9_readCell_109 rfl rfl ?_
    refine rf_iast (n := 112) hG dX9_readCell_111 sS_67 kk_67 rfl (fun m22 => ?_)
    refine rf_aload_n (n := 113) 0 dX9_readCell_112 rfl rfl rfl ?_
    refine rf_getR (n := 116) rr_57_12 kk_68 hG dX9_readCell_113 flX9_41 ki_9_12 sS_57 kk_57 rfl ?_
    refine rf_iload_n (n := 117) 2 dX9_readCell_116 rfl rfl rfl ?_
    refine rf_iload (n := 119) 6 dX9_readCell_117 rfl rfl ?_
    refine rf_iast (n := 120) hG dX9_readCell_119 sS_68 kk_68 rfl (fun m23 => ?_)
    refine rf_aload_n (n := 121) 0 dX9_readCell_120 rfl rfl rfl ?_
    refine rf_getR (n := 124) rr_57_13 kk_69 hG dX9_readCell_121 flX9_44 ki_9_13 sS_57 kk_57 rfl ?_
    refine rf_iload_n (n := 125) 2 dX9_readCell_124 rfl rfl rfl ?_
    refine rf_iload_n (n := 126) 1 dX9_readCell_125 rfl rfl rfl ?_
    refine rf_zast (n := 127) hG dX9_readCell_126 sS_69 kk_69 rfl (fun m24 => ?_)
    refine rf_aload_n (n := 128) 0 dX9_readCell_127 rfl rfl rfl ?_
    refine rf_iconst (n := 129) (2 : Int32) dX9_readCell_128 cciconst_2 rfl ?_
    refine rf_aload_n (n := 130) 0 dX9_readCell_129 rfl rfl rfl ?_
    refine rf_iconst (n := 131) (2 : Int32) dX9_readCell_130 cciconst_2 rfl ?_
    refine rf_cV1I (n := 134) hG (okX9_reading _ _) lVX9_181 hhX9_reading kk_57 sS_57 ⟨_, rfl, rfl⟩ dX9_readCell_131 rfl (Nat.le_of_ble_eq_true rfl) (Nat.le_of_ble_eq_true rfl) (fun v25 m26 => ?_)
    refine rf_iconst (n := 135) (1 : Int32) dX9_readCell_134 cciconst_1 rfl ?_
    refine rf_iadd (n := 136) dX9_readCell_135 rfl ?_
    refine rf_cV2V (n := 139) hG (okX9_reads _ _ _) lVX9_173 hhX9_reads kk_57 sS_57 ⟨_, rfl, rfl⟩ dX9_readCell_136 rfl (Nat.le_of_ble_eq_true rfl) (Nat.le_of_ble_eq_true rfl) (fun _ m28 => ?_)
    exact rf_retV rfl dX9_readCell_139
  · exact rf_retV rfl dX9_readCell_88
def fX9_readCell (p1 : Int32) (μ : ax_M) : Option (Unit × ax_M) :=
  (ax_bd (fX9_reading (2 : Int32) μ) (fun v1 m2 => (ax_let ((10 : Int32) + v1) (fun v3 => (if v3 = (20 : Int32) then (ax_bd (fX9_wrong (2 : Int32) m2) (fun _ m31 => (fX9_readCell_K20 p1 v3 m31))) else (fX9_readCell_K20 p1 v3 m2))))))
theorem okX9_readCell (p1 : Int32) (μ : ax_M) : ax_Ok mX9_readCell 8 ax_jV [.ref 57, .int p1] μ (fX9_readCell p1 μ) := by
  refine ax_start (lc := [some (.ref 57), some (.int p1), none, none, none, none, none]) 5 (by decide +kernel) rfl (Nat.le_of_ble_eq_true rfl) (fun x G hG => ?_)
  unfold fX9_readCell
  refine rf_bipush (n := 2) (10 : Int32) dX9_readCell_0 ccbipush_10 rfl ?_
  refine rf_aload_n (n := 3) 0 dX9_readCell_2 rfl rfl rfl ?_
  refine rf_iconst (n := 4) (2 : Int32) dX9_readCell_3 cciconst_2 rfl ?_
  refine rf_cV1I (n := 7) hG (okX9_reading _ _) lVX9_181 hhX9_reading kk_57 sS_57 ⟨_, rfl, rfl⟩ dX9_readCell_4 rfl (Nat.le_of_ble_eq_true rfl) (Nat.le_of_ble_eq_true rfl) (fun v1 m2 => ?_)
  refine rf_iadd (n := 8) dX9_readCell_7 rfl ?_
  refine rf_letI (fun v3 => ?_)
  refine rf_istore_n (lc2 := [some (.ref 57), some (.int p1), some (.int v3), none, none, none, none]) (n := 9) 2 dX9_readCell_8 rfl rfl (Nat.le_of_ble_eq_true rfl) rfl rfl ?_
  refine rf_iload_n (n := 10) 2 dX9_readCell_9 rfl rfl rfl ?_
  refine rf_bipush (n := 12) (20 : Int32) dX9_readCell_10 ccbipush_20 rfl ?_
  refine rf_icmp_ne (tg := 20) (n := 15) dX9_readCell_12 rfl rfl (fun c32 => ?_) (fun c32 => ?_)
  · exact pX9_readCell_K20 hG _ _ _
  · refine rf_aload_n (n := 16) 0 dX9_readCell_15 rfl rfl rfl ?_
    refine rf_iconst (n := 17) (2 : Int32) dX9_readCell_16 cciconst_2 rfl ?_
    refine rf_cV1V (n := 20) hG (okX9_wrong _ _) lVX9_162 hhX9_wrong kk_57 sS_57 ⟨_, rfl, rfl⟩ dX9_readCell_17 rfl (Nat.le_of_ble_eq_true rfl) (Nat.le_of_ble_eq_true rfl) (fun _ m31 => ?_)
    exact pX9_readCell_K20 hG _ _ _
def fX9_readOnce_K14 (l1 : Int32) (l2 : Int32) (l3 : Int32) (l4 : Int32) (μ : ax_M) : Option (Unit × ax_M) :=
  (Option.bind (ax_wz μ 60 7 l1 (1 : Int32)) (fun m2 => (ax_bd (fX9_goOn m2) (fun _ m4 => (ax_bd (fX9_numeral l3 l4 m4) (fun v5 m6 => (ax_bd (fX9_reads l2 v5 m6) (fun _ m8 => (some ((), m8))))))))))
theorem pX9_readOnce_K14 {x : ax_X} {G : ax_G} (hG : ax_ok G) (l1 : Int32) (l2 : Int32) (l3 : Int32) (l4 : Int32) (μ : ax_M) : ax_Rf mX9_readOnce 8 x (ax_Z ax_jV x G) G 0 0 14 [some (.ref 57), some (.int l1), some (.int l2), some (.int l3), some (.int l4)] [] μ (fX9_readOnce_K14 l1 l2 l3 l4 μ) := by
  unfold fX9_readOnce_K14
  refine rf_aload_n (n := 15) 0 dX9_readOnce_14 rfl rfl rfl ?_
  refine rf_getR (n := 18) rr_57_4 kk_60 hG dX9_readOnce_15 flX9_16 ki_9_4 sS_57 kk_57 rfl ?_
  refine rf_iload_n (n := 19) 1 dX9_readOnce_18 rfl rfl rfl ?_
  refine rf_iconst (n := 20) (1 : Int32) dX9_readOnce_19 cciconst_1 rfl ?_
  refine rf_zast (n := 21) hG dX9_readOnce_20 sS_60 kk_60 rfl (fun m2 => ?_)
  refine rf_aload_n (n := 22) 0 dX9_readOnce_21 rfl rfl rfl ?_
  refine rf_cV0V (n := 25) hG (okX9_goOn _) lVX9_166 hhX9_goOn kk_57 sS_57 ⟨_, rfl, rfl⟩ dX9_readOnce_22 rfl (Nat.le_of_ble_eq_true rfl) (Nat.le_of_ble_eq_true rfl) (fun _ m4 => ?_)
  refine rf_aload_n (n := 26) 0 dX9_readOnce_25 rfl rfl rfl ?_
  refine rf_iload_n (n := 27) 2 dX9_readOnce_26 rfl rfl rfl ?_
  refine rf_aload_n (n := 28) 0 dX9_readOnce_27 rfl rfl rfl ?_
  refine rf_iload_n (n := 29) 3 dX9_readOnce_28 rfl rfl rfl ?_
  refine rf_iload (n := 31) 4 dX9_readOnce_29 rfl rfl ?_
  refine rf_cV2I (n := 34) hG (okX9_numeral _ _ _) lVX9_169 hhX9_numeral kk_57 sS_57 ⟨_, rfl, rfl⟩ dX9_readOnce_31 rfl (Nat.le_of_ble_eq_true rfl) (Nat.le_of_ble_eq_true rfl) (fun v5 m6 => ?_)
  refine rf_cV2V (n := 37) hG (okX9_reads _ _ _) lVX9_173 hhX9_reads kk_57 sS_57 ⟨_, rfl, rfl⟩ dX9_readOnce_34 rfl (Nat.le_of_ble_eq_true rfl) (Nat.le_of_ble_eq_true rfl) (fun _ m8 => ?_)
  exact rf_retV rfl dX9_readOnce_37
def fX9_readOnce (p1 : Int32) (p2 : Int32) (p3 : Int32) (p4 : Int32) (μ : ax_M) : Option (Unit × ax_M) :=
  (Option.bind (ax_rd μ 60 7 p1) (fun v1 => (if v1 = 0 then (fX9_readOnce_K14 p1 p2 p3 p4 μ) else (ax_bd (fX9_wrong (3 : Int32) μ) (fun _ m10 => (fX9_readOnce_K14 p1 p2 p3 p4 m10))))))
theorem okX9_readOnce (p1 : Int32) (p2 : Int32) (p3 : Int32) (p4 : Int32) (μ : ax_M) : ax_Ok mX9_readOnce 8 ax_jV [.ref 57, .int p1, .int p2, .int p3, .int p4] μ (fX9_readOnce p1 p2 p3 p4 μ) := by
  refine ax_start (lc := [some (.ref 57), some (.int p1), some (.int p2), some (.int p3), some (.int p4)]) 0 (by decide +kernel) rfl (Nat.le_of_ble_eq_true rfl) (fun x G hG => ?_)
  unfold fX9_readOnce
  refine rf_aload_n (n := 1) 0 dX9_readOnce_0 rfl rfl rfl ?_
  refine rf_getR (n := 4) rr_57_4 kk_60 hG dX9_readOnce_1 flX9_16 ki_9_4 sS_57 kk_57 rfl ?_
  refine rf_iload_n (n := 5) 1 dX9_readOnce_4 rfl rfl rfl ?_
  refine rf_zald (n := 6) hG dX9_readOnce_5 sS_60 kk_60 rfl (fun v1 => ?_)
  refine rf_if_eq (tg := 14) (n := 9) dX9_readOnce_6 rfl rfl (fun c11 => ?_) (fun c11 => ?_)
  · exact pX9_readOnce_K14 hG _ _ _ _ _
  · refine rf_aload_n (n := 10) 0 dX9_readOnce_9 rfl rfl rfl ?_
    refine rf_iconst (n := 11) (3 : Int32) dX9_readOnce_10 cciconst_3 rfl ?_
    refine rf_cV1V (n := 14) hG (okX9_wrong _ _) lVX9_162 hhX9_wrong kk_57 sS_57 ⟨_, rfl, rfl⟩ dX9_readOnce_11 rfl (Nat.le_of_ble_eq_true rfl) (Nat.le_of_ble_eq_true rfl) (fun _ m10 => ?_)
    exact pX9_readOnce_K14 hG _ _ _ _ _
def fX9_oldName_1_K68 (s0 : Int32) (μ : ax_M) : Option (Int32 × ax_M) :=
  (some (s0, μ))
theorem pX9_oldName_1_K68 {x : ax_X} {G : ax_G} (hG : ax_ok G) (s0 : Int32) (μ : ax_M) : ax_Rf mX9_oldName 1 x (ax_Z ax_jI x G) G 0 0 68 [none, none, none, none, none] [.int s0] μ (fX9_oldName_1_K68 s0 μ) := by
  unfold fX9_oldName_1_K68
  exact rf_retI rfl dX9_oldName_68
def fX9_oldName_1_K56 (l4 : Int32) (μ : ax_M) : Option (Int32 × ax_M) :=
  (if l4 = (-1 : Int32) then (fX9_oldName_1_K68 (0 : Int32) μ) else (fX9_oldName_1_K68 l4 μ))
theorem pX9_oldName_1_K56 {x : ax_X} {G : ax_G} (hG : ax_ok G) (l4 : Int32) (μ : ax_M) : ax_Rf mX9_oldName 1 x (ax_Z ax_jI x G) G 0 0 56 [none, none, none, none, some (.int l4)] [] μ (fX9_oldName_1_K56 l4 μ) := by
  unfold fX9_oldName_1_K56
  refine rf_iload (n := 58) 4 dX9_oldName_56 rfl rfl ?_
  refine rf_iconst (n := 59) (-1 : Int32) dX9_oldName_58 cciconst_m1 rfl ?_
  refine rf_icmp_ne (tg := 66) (n := 62) dX9_oldName_59 rfl rfl (fun c1 => ?_) (fun c1 => ?_)
  · refine rf_iload (n := 68) 4 dX9_oldName_66 rfl rfl ?_
    refine rf_mask (lc2 := [none, none, none, none, none]) [true, true, true, true, false] rfl ?_
    exact pX9_oldName_1_K68 hG _ _
  · refine rf_iconst (n := 63) (0 : Int32) dX9_oldName_62 cciconst_0 rfl ?_
    refine rf_goto (tg := 68) dX9_oldName_63 rfl ?_
    refine rf_mask (lc2 := [none, none, none, none, none]) [true, true, true, true, false] rfl ?_
    exact pX9_oldName_1_K68 hG _ _
def fX9_oldName_1_K43 (s0 : Int32) (μ : ax_M) : Option (Int32 × ax_M) :=
  (if s0 = (-1 : Int32) then (ax_bd (fX9_wrong (4 : Int32) μ) (fun _ m3 => (fX9_oldName_1_K56 s0 m3))) else (fX9_oldName_1_K56 s0 μ))
theorem pX9_oldName_1_K43 {x : ax_X} {G : ax_G} (hG : ax_ok G) (s0 : Int32) (μ : ax_M) : ax_Rf mX9_oldName 1 x (ax_Z ax_jI x G) G 0 0 43 [some (.ref 57), none, none, none, none] [.int s0] μ (fX9_oldName_1_K43 s0 μ) := by
  unfold fX9_oldName_1_K43
  refine rf_istore (lc2 := [some (.ref 57), none, none, none, some (.int s0)]) (n := 45) 4 dX9_oldName_43 rfl (Nat.le_of_ble_eq_true rfl) rfl rfl ?_
  refine rf_iload (n := 47) 4 dX9_oldName_45 rfl rfl ?_
  refine rf_iconst (n := 48) (-1 : Int32) dX9_oldName_47 cciconst_m1 rfl ?_
  refine rf_icmp_ne (tg := 56) (n := 51) dX9_oldName_48 rfl rfl (fun c4 => ?_) (fun c4 => ?_)
  · refine rf_mask (lc2 := [none, none, none, none, some (.int s0)]) [false, true, true, true, true] rfl ?_
    exact pX9_oldName_1_K56 hG _ _
  · refine rf_aload_n (n := 52) 0 dX9_oldName_51 rfl rfl rfl ?_
    refine rf_iconst (n := 53) (4 : Int32) dX9_oldName_52 cciconst_4 rfl ?_
    refine rf_cV1V (n := 56) hG (okX9_wrong _ _) lVX9_162 hhX9_wrong kk_57 sS_57 ⟨_, rfl, rfl⟩ dX9_oldName_53 rfl (Nat.le_of_ble_eq_true rfl) (Nat.le_of_ble_eq_true rfl) (fun _ m3 => ?_)
    refine rf_mask (lc2 := [none, none, none, none, some (.int s0)]) [false, true, true, true, true] rfl ?_
    exact pX9_oldName_1_K56 hG _ _
def fX9_oldName_1_K22 (l2 : Int32) (l3 : Int32) (μ : ax_M) : Option (Int32 × ax_M) :=
  (if (μ.1 57 24) = 0 then (ax_bd (fX9_foundIn l2 l3 (μ.1 57 23) μ) (fun v5 m6 => (fX9_oldName_1_K43 v5 m6))) else (fX9_oldName_1_K43 (0 : Int32) μ))
theorem pX9_oldName_1_K22 {x : ax_X} {G : ax_G} (hG : ax_ok G) (l2 : Int32) (l3 : Int32) (μ : ax_M) : ax_Rf mX9_oldName 1 x (ax_Z ax_jI x G) G 0 0 22 [some (.ref 57), some (.ref 64), some (.int l2), some (.int l3), none] [] μ (fX9_oldName_1_K22 l2 l3 μ) := by
  unfold fX9_oldName_1_K22
  refine rf_aload_n (n := 23) 0 dX9_oldName_22 rfl rfl rfl ?_
  refine rf_getI (n := 26) hG dX9_oldName_23 flX9_153 ki_9_24 sS_57 kk_57 rfl ?_
  refine rf_if_ne (tg := 42) (n := 29) dX9_oldName_26 rfl rfl (fun c7 => ?_) (fun c7 => ?_)
  · refine rf_iconst (n := 43) (0 : Int32) dX9_oldName_42 cciconst_0 rfl ?_
    refine rf_mask (lc2 := [some (.ref 57), none, none, none, none]) [true, false, false, false, true] rfl ?_
    exact pX9_oldName_1_K43 hG _ _
  · refine rf_aload_n (n := 30) 1 dX9_oldName_29 rfl rfl rfl ?_
    refine rf_iload_n (n := 31) 2 dX9_oldName_30 rfl rfl rfl ?_
    refine rf_iload_n (n := 32) 3 dX9_oldName_31 rfl rfl rfl ?_
    refine rf_aload_n (n := 33) 0 dX9_oldName_32 rfl rfl rfl ?_
    refine rf_getI (n := 36) hG dX9_oldName_33 flX9_132 ki_9_23 sS_57 kk_57 rfl ?_
    refine rf_cS4I (n := 39) hG (okX9_foundIn _ _ _ _) lSX9_177 hhX9_foundIn dX9_oldName_36 rfl (Nat.le_of_ble_eq_true rfl) (Nat.le_of_ble_eq_true rfl) (fun v5 m6 => ?_)
    refine rf_goto (tg := 43) dX9_oldName_39 rfl ?_
    refine rf_mask (lc2 := [some (.ref 57), none, none, none, none]) [true, false, false, false, true] rfl ?_
    exact pX9_oldName_1_K43 hG _ _
def fX9_oldName_1 (p2 : Int32) (p3 : Int32) (μ : ax_M) : Option (Int32 × ax_M) :=
  (if (μ.1 57 24) = 0 then (if (μ.1 57 22) = (1 : Int32) then (fX9_oldName_1_K22 p2 p3 μ) else (ax_bd (fX9_wrong (1 : Int32) μ) (fun _ m9 => (fX9_oldName_1_K22 p2 p3 m9)))) else (some ((0 : Int32), μ)))
theorem okX9_oldName_1 (p2 : Int32) (p3 : Int32) (μ : ax_M) : ax_Ok mX9_oldName 1 ax_jI [.ref 57, .ref 64, .int p2, .int p3] μ (fX9_oldName_1 p2 p3 μ) := by
  refine ax_start (lc := [some (.ref 57), some (.ref 64), some (.int p2), some (.int p3), none]) 1 (by decide +kernel) rfl (Nat.le_of_ble_eq_true rfl) (fun x G hG => ?_)
  unfold fX9_oldName_1
  refine rf_aload_n (n := 1) 0 dX9_oldName_0 rfl rfl rfl ?_
  refine rf_getI (n := 4) hG dX9_oldName_1 flX9_153 ki_9_24 sS_57 kk_57 rfl ?_
  refine rf_if_eq (tg := 9) (n := 7) dX9_oldName_4 rfl rfl (fun c11 => ?_) (fun c11 => ?_)
  · refine rf_aload_n (n := 10) 0 dX9_oldName_9 rfl rfl rfl ?_
    refine rf_getI (n := 13) hG dX9_oldName_10 flX9_122 ki_9_22 sS_57 kk_57 rfl ?_
    refine rf_iconst (n := 14) (1 : Int32) dX9_oldName_13 cciconst_1 rfl ?_
    refine rf_icmp_eq (tg := 22) (n := 17) dX9_oldName_14 rfl rfl (fun c10 => ?_) (fun c10 => ?_)
    · exact pX9_oldName_1_K22 hG _ _ _
    · refine rf_aload_n (n := 18) 0 dX9_oldName_17 rfl rfl rfl ?_
      refine rf_iconst (n := 19) (1 : Int32) dX9_oldName_18 cciconst_1 rfl ?_
      refine rf_cV1V (n := 22) hG (okX9_wrong _ _) lVX9_162 hhX9_wrong kk_57 sS_57 ⟨_, rfl, rfl⟩ dX9_oldName_19 rfl (Nat.le_of_ble_eq_true rfl) (Nat.le_of_ble_eq_true rfl) (fun _ m9 => ?_)
      exact pX9_oldName_1_K22 hG _ _ _
  · refine rf_iconst (n := 8) (0 : Int32) dX9_oldName_7 cciconst_0 rfl ?_
    exact rf_retI rfl dX9_oldName_8
def fX9_pathOf_K39 (l1 : Int32) (l2 : Int32) (l3 : Int32) (l4 : Int32) (l5 : Int32) (r3 : Int32 → ax_M → Option (Int32 × ax_M)) (μ : ax_M) : Option (Int32 × ax_M) :=
  (r3 (l5 + (1 : Int32)) μ)
theorem pX9_pathOf_K39 {x : ax_X} {G : ax_G} (hG : ax_ok G) (l1 : Int32) (l2 : Int32) (l3 : Int32) (l4 : Int32) (l5 : Int32) (r3 : Int32 → ax_M → Option (Int32 × ax_M)) (hr3 : ∀ (a5 : Int32) (μ : ax_M), ax_Rf mX9_pathOf 0 x (ax_Z ax_jI x G) G 0 0 3 [some (.ref 57), some (.int l1), some (.int l2), some (.int l3), some (.int l4), some (.int a5)] [] μ (r3 a5 μ)) (μ : ax_M) : ax_Rf mX9_pathOf 0 x (ax_Z ax_jI x G) G 0 0 39 [some (.ref 57), some (.int l1), some (.int l2), some (.int l3), some (.int l4), some (.int l5)] [] μ (fX9_pathOf_K39 l1 l2 l3 l4 l5 r3 μ) := by
  unfold fX9_pathOf_K39
  refine rf_iinc (lc2 := [some (.ref 57), some (.int l1), some (.int l2), some (.int l3), some (.int l4), some (.int (l5 + (1 : Int32)))]) (n := 42) (w := (1 : Int32)) 5 dX9_pathOf_39 rfl rfl rfl (Nat.le_of_ble_eq_true rfl) rfl rfl ?_
  refine rf_goto (tg := 3) dX9_pathOf_42 rfl ?_
  exact hr3 _ _
def fX9_pathOf_B3 (l1 : Int32) (l2 : Int32) (l3 : Int32) (l4 : Int32) (r3 : Int32 → ax_M → Option (Int32 × ax_M)) (l5 : Int32) (μ : ax_M) : Option (Int32 × ax_M) :=
  (if l2 ≤ l5 then (some ((-1 : Int32), μ)) else (Option.bind (ax_rd μ 70 48 (l1 + l5)) (fun v1 => (if v1 = l3 then (Option.bind (ax_rd μ 71 48 (l1 + l5)) (fun v2 => (if v2 = l4 then (some (l5, μ)) else (fX9_pathOf_K39 l1 l2 l3 l4 l5 r3 μ)))) else (fX9_pathOf_K39 l1 l2 l3 l4 l5 r3 μ)))))
theorem pX9_pathOf_B3 {x : ax_X} {G : ax_G} (hG : ax_ok G) (l1 : Int32) (l2 : Int32) (l3 : Int32) (l4 : Int32) (r3 : Int32 → ax_M → Option (Int32 × ax_M)) (hr3 : ∀ (a5 : Int32) (μ : ax_M), ax_Rf mX9_pathOf 0 x (ax_Z ax_jI x G) G 0 0 3 [some (.ref 57), some (.int l1), some (.int l2), some (.int l3), some (.int l4), some (.int a5)] [] μ (r3 a5 μ)) (l5 : Int32) (μ : ax_M) : ax_Rf mX9_pathOf 0 x (ax_Z ax_jI x G) G 0 0 3 [some (.ref 57), some (.int l1), some (.int l2), some (.int l3), some (.int l4), some (.int l5)] [] μ (fX9_pathOf_B3 l1 l2 l3 l4 r3 l5 μ) := by
  unfold fX9_pathOf_B3
  refine rf_iload (n := 5) 5 dX9_pathOf_3 rfl rfl ?_
  refine rf_iload_n (n := 6) 2 dX9_pathOf_5 rfl rfl rfl ?_
  refine rf_icmp_ge (tg := 45) (n := 9) dX9_pathOf_6 rfl rfl (fun c5 => ?_) (fun c5 => ?_)
  · refine rf_iconst (n := 46) (-1 : Int32) dX9_pathOf_45 cciconst_m1 rfl ?_
    exact rf_retI rfl dX9_pathOf_46
  · refine rf_aload_n (n := 10) 0 dX9_pathOf_9 rfl rfl rfl ?_
    refine rf_getR (n := 13) rr_57_14 kk_70 hG dX9_pathOf_10 flX9_47 ki_9_14 sS_57 kk_57 rfl ?_
    refine rf_iload_n (n := 14) 1 dX9_pathOf_13 rfl rfl rfl ?_
    refine rf_iload (n := 16) 5 dX9_pathOf_14 rfl rfl ?_
    refine rf_iadd (n := 17) dX9_pathOf_16 rfl ?_
    refine rf_iald (n := 18) hG dX9_pathOf_17 sS_70 kk_70 rfl (fun v1 => ?_)
    refine rf_iload_n (n := 19) 3 dX9_pathOf_18 rfl rfl rfl ?_
    refine rf_icmp_ne (tg := 39) (n := 22) dX9_pathOf_19 rfl rfl (fun c4 => ?_) (fun c4 => ?_)
    · exact pX9_pathOf_K39 hG _ _ _ _ _ r3 hr3 _
    · refine rf_aload_n (n := 23) 0 dX9_pathOf_22 rfl rfl rfl ?_
      refine rf_getR (n := 26) rr_57_15 kk_71 hG dX9_pathOf_23 flX9_50 ki_9_15 sS_57 kk_57 rfl ?_
      refine rf_iload_n (n := 27) 1 dX9_pathOf_26 rfl rfl rfl ?_
      refine rf_iload (n := 29) 5 dX9_pathOf_27 rfl rfl ?_
      refine rf_iadd (n := 30) dX9_pathOf_29 rfl ?_
      refine rf_iald (n := 31) hG dX9_pathOf_30 sS_71 kk_71 rfl (fun v2 => ?_)
      refine rf_iload (n := 33) 4 dX9_pathOf_31 rfl rfl ?_
      refine rf_icmp_ne (tg := 39) (n := 36) dX9_pathOf_33 rfl rfl (fun c3 => ?_) (fun c3 => ?_)
      · exact pX9_pathOf_K39 hG _ _ _ _ _ r3 hr3 _
      · refine rf_iload (n := 38) 5 dX9_pathOf_36 rfl rfl ?_
        exact rf_retI rfl dX9_pathOf_38
theorem pX9_pathOf_L3 {x : ax_X} {G : ax_G} (hG : ax_ok G) (l1 : Int32) (l2 : Int32) (l3 : Int32) (l4 : Int32) (n : Nat) (a5 : Int32) (μ : ax_M) : ax_Rf mX9_pathOf 0 x (ax_Z ax_jI x G) G 0 0 3 [some (.ref 57), some (.int l1), some (.int l2), some (.int l3), some (.int l4), some (.int a5)] [] μ (ax_lp1 (fX9_pathOf_B3 l1 l2 l3 l4) n a5 μ) :=
  rf_lp1 (P := fun a5 μ t => ax_Rf mX9_pathOf 0 x (ax_Z ax_jI x G) G 0 0 3 [some (.ref 57), some (.int l1), some (.int l2), some (.int l3), some (.int l4), some (.int a5)] [] μ t) (fun _ _ => rf_none) (fun rc hrc a5 μ => pX9_pathOf_B3 hG l1 l2 l3 l4 rc hrc a5 μ) n a5 μ
def fX9_pathOf (p1 : Int32) (p2 : Int32) (p3 : Int32) (p4 : Int32) (μ : ax_M) : Option (Int32 × ax_M) :=
  (ax_lp1 (fX9_pathOf_B3 p1 p2 p3 p4) ax_FU (0 : Int32) μ)
theorem okX9_pathOf (p1 : Int32) (p2 : Int32) (p3 : Int32) (p4 : Int32) (μ : ax_M) : ax_Ok mX9_pathOf 0 ax_jI [.ref 57, .int p1, .int p2, .int p3, .int p4] μ (fX9_pathOf p1 p2 p3 p4 μ) := by
  refine ax_start (lc := [some (.ref 57), some (.int p1), some (.int p2), some (.int p3), some (.int p4), none]) 1 (by decide +kernel) rfl (Nat.le_of_ble_eq_true rfl) (fun x G hG => ?_)
  unfold fX9_pathOf
  refine rf_iconst (n := 1) (0 : Int32) dX9_pathOf_0 cciconst_0 rfl ?_
  refine rf_istore (lc2 := [some (.ref 57), some (.int p1), some (.int p2), some (.int p3), some (.int p4), some (.int (0 : Int32))]) (n := 3) 5 dX9_pathOf_1 rfl (Nat.le_of_ble_eq_true rfl) rfl rfl ?_
  exact pX9_pathOf_L3 hG _ _ _ _ _ _ _
def fX9_readPath_K89 (l1 : Int32) (l2 : Int32) (l3 : Int32) (μ : ax_M) : Option (Unit × ax_M) :=
  (ax_bd (fX9_goOn μ) (fun _ m17 => (ax_bd (fX9_numeral (0 : Int32) (999 : Int32) m17) (fun v18 m19 => (ax_bd (fX9_numeral (0 : Int32) v18 m19) (fun v20 m21 => (if (m21.1 57 24) = 0 then (Option.bind (ax_wr m21 70 48 l1 l2) (fun m22 => (Option.bind (ax_wr m22 71 48 l1 l3) (fun m23 => (Option.bind (ax_wr m23 72 48 l1 v18) (fun m24 => (Option.bind (ax_wr m24 73 48 l1 v20) (fun m25 => (ax_bd (fX9_reading (3 : Int32) m25) (fun v26 m27 => (ax_bd (fX9_reads (3 : Int32) (v26 + (1 : Int32)) m27) (fun _ m29 => (some ((), m29)))))))))))))) else (some ((), m21)))))))))
theorem pX9_readPath_K89 {x : ax_X} {G : ax_G} (hG : ax_ok G) (l1 : Int32) (l2 : Int32) (l3 : Int32) (μ : ax_M) : ax_Rf mX9_readPath 8 x (ax_Z ax_jV x G) G 0 0 89 [some (.ref 57), some (.int l1), some (.int l2), some (.int l3), none, none] [] μ (fX9_readPath_K89 l1 l2 l3 μ) := by
  unfold fX9_readPath_K89
  refine rf_aload_n (n := 90) 0 dX9_readPath_89 rfl rfl rfl ?_
  refine rf_cV0V (n := 93) hG (okX9_goOn _) lVX9_166 hhX9_goOn kk_57 sS_57 ⟨_, rfl, rfl⟩ dX9_readPath_90 rfl (Nat.le_of_ble_eq_true rfl) (Nat.le_of_ble_eq_true rfl) (fun _ m17 => ?_)
  refine rf_aload_n (n := 94) 0 dX9_readPath_93 rfl rfl rfl ?_
  refine rf_iconst (n := 95) (0 : Int32) dX9_readPath_94 cciconst_0 rfl ?_
  refine rf_sipush (n := 98) (999 : Int32) dX9_readPath_95 ccsipush_999 rfl ?_
  refine rf_cV2I (n := 101) hG (okX9_numeral _ _ _) lVX9_169 hhX9_numeral kk_57 sS_57 ⟨_, rfl, rfl⟩ dX9_readPath_98 rfl (Nat.le_of_ble_eq_true rfl) (Nat.le_of_ble_eq_true rfl) (fun v18 m19 => ?_)
  refine rf_istore (lc2 := [some (.ref 57), some (.int l1), some (.int l2), some (.int l3), some (.int v18), none]) (n := 103) 4 dX9_readPath_101 rfl (Nat.le_of_ble_eq_true rfl) rfl rfl ?_
  refine rf_aload_n (n := 104) 0 dX9_readPath_103 rfl rfl rfl ?_
  refine rf_iconst (n := 105) (0 : Int32) dX9_readPath_104 cciconst_0 rfl ?_
  refine rf_iload (n := 107) 4 dX9_readPath_105 rfl rfl ?_
  refine rf_cV2I (n := 110) hG (okX9_numeral _ _ _) lVX9_169 hhX9_numeral kk_57 sS_57 ⟨_, rfl, rfl⟩ dX9_readPath_107 rfl (Nat.le_of_ble_eq_true rfl) (Nat.le_of_ble_eq_true rfl) (fun v20 m21 => ?_)
  refine rf_istore (lc2 := [some (.ref 57), some (.int l1), some (.int l2), some (.int l3), some (.int v18), some (.int v20)]) (n := 112) 5 dX9_readPath_110 rfl (Nat.le_of_ble_eq_true rfl) rfl rfl ?_
  refine rf_aload_n (n := 113) 0 dX9_readPath_112 rfl rfl rfl ?_
  refine rf_getI (n := 116) hG dX9_readPath_113 flX9_153 ki_9_24 sS_57 kk_57 rfl ?_
  refine rf_if_eq (tg := 120) (n := 119) dX9_readPath_116 rfl rfl (fun c30 => ?_) (fun c30 => ?_)
  · refine rf_aload_n (n := 121) 0 dX9_readPath_120 rfl rfl rfl ?_
    refine rf_getR (n := 124) rr_57_14 kk_70 hG dX9_readPath_121 flX9_47 ki_9_14 sS_57 kk_57 rfl ?_
    refine rf_iload_n (n := 125) 1 dX9_readPath_124 rfl rfl rfl ?_
    refine rf_iload_n (n := 126) 2 dX9_readPath_125 rfl rfl rfl ?_
    refine rf_iast (n := 127) hG dX9_readPath_126 sS_70 kk_70 rfl (fun m22 => ?_)
    refine rf_aload_n (n := 128) 0 dX9_readPath_127 rfl rfl rfl ?_
    refine rf_getR (n := 131) rr_57_15 kk_71 hG dX9_readPath_128 flX9_50 ki_9_15 sS_57 kk_57 rfl ?_
    refine rf_iload_n (n := 132) 1 dX9_readPath_131 rfl rfl rfl ?_
    refine rf_iload_n (n := 133) 3 dX9_readPath_132 rfl rfl rfl ?_
    refine rf_iast (n := 134) hG dX9_readPath_133 sS_71 kk_71 rfl (fun m23 => ?_)
    refine rf_aload_n (n := 135) 0 dX9_readPath_134 rfl rfl rfl ?_
    refine rf_getR (n := 138) rr_57_16 kk_72 hG dX9_readPath_135 flX9_53 ki_9_16 sS_57 kk_57 rfl ?_
    refine rf_iload_n (n := 139) 1 dX9_readPath_138 rfl rfl rfl ?_
    refine rf_iload (n := 141) 4 dX9_readPath_139 rfl rfl ?_
    refine rf_iast (n := 142) hG dX9_readPath_141 sS_72 kk_72 rfl (fun m24 => ?_)
    refine rf_aload_n (n := 143) 0 dX9_readPath_142 rfl rfl rfl ?_
    refine rf_getR (n := 146) rr_57_17 kk_73 hG dX9_readPath_143 flX9_56 ki_9_17 sS_57 kk_57 rfl ?_
    refine rf_iload_n (n := 147) 1 dX9_readPath_146 rfl rfl rfl ?_
    refine rf_iload (n := 149) 5 dX9_readPath_147 rfl rfl ?_
    refine rf_iast (n := 150) hG dX9_readPath_149 sS_73 kk_73 rfl (fun m25 => ?_)
    refine rf_aload_n (n := 151) 0 dX9_readPath_150 rfl rfl rfl ?_
    refine rf_iconst (n := 152) (3 : Int32) dX9_readPath_151 cciconst_3 rfl ?_
    refine rf_aload_n (n := 153) 0 dX9_readPath_152 rfl rfl rfl ?_
    refine rf_iconst (n := 154) (3 : Int32) dX9_readPath_153 cciconst_3 rfl ?_
    refine rf_cV1I (n := 157) hG (okX9_reading _ _) lVX9_181 hhX9_reading kk_57 sS_57 ⟨_, rfl, rfl⟩ dX9_readPath_154 rfl (Nat.le_of_ble_eq_true rfl) (Nat.le_of_ble_eq_true rfl) (fun v26 m27 => ?_)
    refine rf_iconst (n := 158) (1 : Int32) dX9_readPath_157 cciconst_1 rfl ?_
    refine rf_iadd (n := 159) dX9_readPath_158 rfl ?_
    refine rf_cV2V (n := 162) hG (okX9_reads _ _ _) lVX9_173 hhX9_reads kk_57 sS_57 ⟨_, rfl, rfl⟩ dX9_readPath_159 rfl (Nat.le_of_ble_eq_true rfl) (Nat.le_of_ble_eq_true rfl) (fun _ m29 => ?_)
    exact rf_retV rfl dX9_readPath_162
  · exact rf_retV rfl dX9_readPath_119
def fX9_readPath_K20 (l1 : Int32) (μ : ax_M) : Option (Unit × ax_M) :=
  (ax_bd (fX9_goOn μ) (fun _ m5 => (ax_bd (fX9_reading (2 : Int32) m5) (fun v6 m7 => (ax_bd (fX9_oldName_1 (10 : Int32) v6 m7) (fun v8 m9 => (ax_bd (fX9_goOn m9) (fun _ m11 => (ax_bd (fX9_reading (2 : Int32) m11) (fun v12 m13 => (ax_bd (fX9_oldName_1 (10 : Int32) v12 m13) (fun v14 m15 => (if (m15.1 57 24) = 0 then (ax_bd (fX9_reading (3 : Int32) m15) (fun v31 m32 => (ax_bd (fX9_pathOf (24 : Int32) v31 v8 v14 m32) (fun v33 m34 => (if v33 = (-1 : Int32) then (fX9_readPath_K89 l1 v8 v14 m34) else (ax_bd (fX9_wrong (3 : Int32) m34) (fun _ m36 => (fX9_readPath_K89 l1 v8 v14 m36)))))))) else (fX9_readPath_K89 l1 v8 v14 m15))))))))))))))
theorem pX9_readPath_K20 {x : ax_X} {G : ax_G} (hG : ax_ok G) (l1 : Int32) (μ : ax_M) : ax_Rf mX9_readPath 8 x (ax_Z ax_jV x G) G 0 0 20 [some (.ref 57), some (.int l1), none, none, none, none] [] μ (fX9_readPath_K20 l1 μ) := by
  unfold fX9_readPath_K20
  refine rf_aload_n (n := 21) 0 dX9_readPath_20 rfl rfl rfl ?_
  refine rf_cV0V (n := 24) hG (okX9_goOn _) lVX9_166 hhX9_goOn kk_57 sS_57 ⟨_, rfl, rfl⟩ dX9_readPath_21 rfl (Nat.le_of_ble_eq_true rfl) (Nat.le_of_ble_eq_true rfl) (fun _ m5 => ?_)
  refine rf_aload_n (n := 25) 0 dX9_readPath_24 rfl rfl rfl ?_
  refine rf_aload_n (n := 26) 0 dX9_readPath_25 rfl rfl rfl ?_
  refine rf_getR (n := 29) rr_57_8 kk_64 hG dX9_readPath_26 flX9_29 ki_9_8 sS_57 kk_57 rfl ?_
  refine rf_bipush (n := 31) (10 : Int32) dX9_readPath_29 ccbipush_10 rfl ?_
  refine rf_aload_n (n := 32) 0 dX9_readPath_31 rfl rfl rfl ?_
  refine rf_iconst (n := 33) (2 : Int32) dX9_readPath_32 cciconst_2 rfl ?_
  refine rf_cV1I (n := 36) hG (okX9_reading _ _) lVX9_181 hhX9_reading kk_57 sS_57 ⟨_, rfl, rfl⟩ dX9_readPath_33 rfl (Nat.le_of_ble_eq_true rfl) (Nat.le_of_ble_eq_true rfl) (fun v6 m7 => ?_)
  refine rf_cV3I (n := 39) hG (okX9_oldName_1 _ _ _) lVX9_189 hhX9_oldName kk_57 sS_57 ⟨_, rfl, rfl⟩ dX9_readPath_36 rfl (Nat.le_of_ble_eq_true rfl) (Nat.le_of_ble_eq_true rfl) (fun v8 m9 => ?_)
  refine rf_istore_n (lc2 := [some (.ref 57), some (.int l1), some (.int v8), none, none, none]) (n := 40) 2 dX9_readPath_39 rfl rfl (Nat.le_of_ble_eq_true rfl) rfl rfl ?_
  refine rf_aload_n (n := 41) 0 dX9_readPath_40 rfl rfl rfl ?_
  refine rf_cV0V (n := 44) hG (okX9_goOn _) lVX9_166 hhX9_goOn kk_57 sS_57 ⟨_, rfl, rfl⟩ dX9_readPath_41 rfl (Nat.le_of_ble_eq_true rfl) (Nat.le_of_ble_eq_true rfl) (fun _ m11 => ?_)
  refine rf_aload_n (n := 45) 0 dX9_readPath_44 rfl rfl rfl ?_
  refine rf_aload_n (n := 46) 0 dX9_readPath_45 rfl rfl rfl ?_
  refine rf_getR (n := 49) rr_57_8 kk_64 hG dX9_readPath_46 flX9_29 ki_9_8 sS_57 kk_57 rfl ?_
  refine rf_bipush (n := 51) (10 : Int32) dX9_readPath_49 ccbipush_10 rfl ?_
  refine rf_aload_n (n := 52) 0 dX9_readPath_51 rfl rfl rfl ?_
  refine rf_iconst (n := 53) (2 : Int32) dX9_readPath_52 cciconst_2 rfl ?_
  refine rf_cV1I (n := 56) hG (okX9_reading _ _) lVX9_181 hhX9_reading kk_57 sS_57 ⟨_, rfl, rfl⟩ dX9_readPath_53 rfl (Nat.le_of_ble_eq_true rfl) (Nat.le_of_ble_eq_true rfl) (fun v12 m13 => ?_)
  refine rf_cV3I (n := 59) hG (okX9_oldName_1 _ _ _) lVX9_189 hhX9_oldName kk_57 sS_57 ⟨_, rfl, rfl⟩ dX9_readPath_56 rfl (Nat.le_of_ble_eq_true rfl) (Nat.le_of_ble_eq_true rfl) (fun v14 m15 => ?_)
  refine rf_istore_n (lc2 := [some (.ref 57), some (.int l1), some (.int v8), some (.int v14), none, none]) (n := 60) 3 dX9_readPath_59 rfl rfl (Nat.le_of_ble_eq_true rfl) rfl rfl ?_
  refine rf_aload_n (n := 61) 0 dX9_readPath_60 rfl rfl rfl ?_
  refine rf_getI (n := 64) hG dX9_readPath_61 flX9_153 ki_9_24 sS_57 kk_57 rfl ?_
  refine rf_if_ne (tg := 89) (n := 67) dX9_readPath_64 rfl rfl (fun c38 => ?_) (fun c38 => ?_)
  · exact pX9_readPath_K89 hG _ _ _ _
  · refine rf_aload_n (n := 68) 0 dX9_readPath_67 rfl rfl rfl ?_
    refine rf_bipush (n := 70) (24 : Int32) dX9_readPath_68 ccbipush_24 rfl ?_
    refine rf_aload_n (n := 71) 0 dX9_readPath_70 rfl rfl rfl ?_
    refine rf_iconst (n := 72) (3 : Int32) dX9_readPath_71 cciconst_3 rfl ?_
    refine rf_cV1I (n := 75) hG (okX9_reading _ _) lVX9_181 hhX9_reading kk_57 sS_57 ⟨_, rfl, rfl⟩ dX9_readPath_72 rfl (Nat.le_of_ble_eq_true rfl) (Nat.le_of_ble_eq_true rfl) (fun v31 m32 => ?_)
    refine rf_iload_n (n := 76) 2 dX9_readPath_75 rfl rfl rfl ?_
    refine rf_iload_n (n := 77) 3 dX9_readPath_76 rfl rfl rfl ?_
    refine rf_cV4I (n := 80) hG (okX9_pathOf _ _ _ _ _) lVX9_193 hhX9_pathOf kk_57 sS_57 ⟨_, rfl, rfl⟩ dX9_readPath_77 rfl (Nat.le_of_ble_eq_true rfl) (Nat.le_of_ble_eq_true rfl) (fun v33 m34 => ?_)
    refine rf_iconst (n := 81) (-1 : Int32) dX9_readPath_80 cciconst_m1 rfl ?_
    refine rf_icmp_eq (tg := 89) (n := 84) dX9_readPath_81 rfl rfl (fun c37 => ?_) (fun c37 => ?_)
    · exact pX9_readPath_K89 hG _ _ _ _
    · refine rf_aload_n (n := 85) 0 dX9_readPath_84 rfl rfl rfl ?_
      refine rf_iconst (n := 86) (3 : Int32) dX9_readPath_85 cciconst_3 rfl ?_
      refine rf_cV1V (n := 89) hG (okX9_wrong _ _) lVX9_162 hhX9_wrong kk_57 sS_57 ⟨_, rfl, rfl⟩ dX9_readPath_86 rfl (Nat.le_of_ble_eq_true rfl) (Nat.le_of_ble_eq_true rfl) (fun _ m36 => ?_)
      exact pX9_readPath_K89 hG _ _ _ _
def fX9_readPath (μ : ax_M) : Option (Unit × ax_M) :=
  (ax_bd (fX9_reading (3 : Int32) μ) (fun v1 m2 => (ax_let ((24 : Int32) + v1) (fun v3 => (if v3 = (48 : Int32) then (ax_bd (fX9_wrong (2 : Int32) m2) (fun _ m40 => (fX9_readPath_K20 v3 m40))) else (fX9_readPath_K20 v3 m2))))))
theorem okX9_readPath (μ : ax_M) : ax_Ok mX9_readPath 8 ax_jV [.ref 57] μ (fX9_readPath μ) := by
  refine ax_start (lc := [some (.ref 57), none, none, none, none, none]) 5 (by decide +kernel) rfl (Nat.le_of_ble_eq_true rfl) (fun x G hG => ?_)
  unfold fX9_readPath
  refine rf_bipush (n := 2) (24 : Int32) dX9_readPath_0 ccbipush_24 rfl ?_
  refine rf_aload_n (n := 3) 0 dX9_readPath_2 rfl rfl rfl ?_
  refine rf_iconst (n := 4) (3 : Int32) dX9_readPath_3 cciconst_3 rfl ?_
  refine rf_cV1I (n := 7) hG (okX9_reading _ _) lVX9_181 hhX9_reading kk_57 sS_57 ⟨_, rfl, rfl⟩ dX9_readPath_4 rfl (Nat.le_of_ble_eq_true rfl) (Nat.le_of_ble_eq_true rfl) (fun v1 m2 => ?_)
  refine rf_iadd (n := 8) dX9_readPath_7 rfl ?_
  refine rf_letI (fun v3 => ?_)
  refine rf_istore_n (lc2 := [some (.ref 57), some (.int v3), none, none, none, none]) (n := 9) 1 dX9_readPath_8 rfl rfl (Nat.le_of_ble_eq_true rfl) rfl rfl ?_
  refine rf_iload_n (n := 10) 1 dX9_readPath_9 rfl rfl rfl ?_
  refine rf_bipush (n := 12) (48 : Int32) dX9_readPath_10 ccbipush_48 rfl ?_
  refine rf_icmp_ne (tg := 20) (n := 15) dX9_readPath_12 rfl rfl (fun c41 => ?_) (fun c41 => ?_)
  · exact pX9_readPath_K20 hG _ _
  · refine rf_aload_n (n := 16) 0 dX9_readPath_15 rfl rfl rfl ?_
    refine rf_iconst (n := 17) (2 : Int32) dX9_readPath_16 cciconst_2 rfl ?_
    refine rf_cV1V (n := 20) hG (okX9_wrong _ _) lVX9_162 hhX9_wrong kk_57 sS_57 ⟨_, rfl, rfl⟩ dX9_readPath_17 rfl (Nat.le_of_ble_eq_true rfl) (Nat.le_of_ble_eq_true rfl) (fun _ m40 => ?_)
    exact pX9_readPath_K20 hG _ _
def fX9_newName_1_K47 (l2 : Int32) (l3 : Int32) (μ : ax_M) : Option (Unit × ax_M) :=
  (if (μ.1 57 24) = 0 then (Option.bind (ax_wr μ 61 8 (l2 + l3) (μ.1 57 23)) (fun m5 => (ax_bd (fX9_token m5) (fun _ m7 => (some ((), m7)))))) else (some ((), μ)))
theorem pX9_newName_1_K47 {x : ax_X} {G : ax_G} (hG : ax_ok G) (l2 : Int32) (l3 : Int32) (μ : ax_M) : ax_Rf mX9_newName 7 x (ax_Z ax_jV x G) G 0 0 47 [some (.ref 57), some (.ref 61), some (.int l2), some (.int l3)] [] μ (fX9_newName_1_K47 l2 l3 μ) := by
  unfold fX9_newName_1_K47
  refine rf_aload_n (n := 48) 0 dX9_newName_47 rfl rfl rfl ?_
  refine rf_getI (n := 51) hG dX9_newName_48 flX9_153 ki_9_24 sS_57 kk_57 rfl ?_
  refine rf_if_eq (tg := 55) (n := 54) dX9_newName_51 rfl rfl (fun c8 => ?_) (fun c8 => ?_)
  · refine rf_aload_n (n := 56) 1 dX9_newName_55 rfl rfl rfl ?_
    refine rf_iload_n (n := 57) 2 dX9_newName_56 rfl rfl rfl ?_
    refine rf_iload_n (n := 58) 3 dX9_newName_57 rfl rfl rfl ?_
    refine rf_iadd (n := 59) dX9_newName_58 rfl ?_
    refine rf_aload_n (n := 60) 0 dX9_newName_59 rfl rfl rfl ?_
    refine rf_getI (n := 63) hG dX9_newName_60 flX9_132 ki_9_23 sS_57 kk_57 rfl ?_
    refine rf_iast (n := 64) hG dX9_newName_63 sS_61 kk_61 rfl (fun m5 => ?_)
    refine rf_aload_n (n := 65) 0 dX9_newName_64 rfl rfl rfl ?_
    refine rf_cV0V (n := 68) hG (okX9_token _) lVX9_159 hhX9_token kk_57 sS_57 ⟨_, rfl, rfl⟩ dX9_newName_65 rfl (Nat.le_of_ble_eq_true rfl) (Nat.le_of_ble_eq_true rfl) (fun _ m7 => ?_)
    exact rf_retV rfl dX9_newName_68
  · exact rf_retV rfl dX9_newName_54
def fX9_newName_1 (p2 : Int32) (p3 : Int32) (μ : ax_M) : Option (Unit × ax_M) :=
  (ax_bd (fX9_goOn μ) (fun _ m2 => (if (m2.1 57 24) = 0 then (if (m2.1 57 22) = (1 : Int32) then (ax_bd (fX9_foundIn_1 p2 p3 (m2.1 57 23) m2) (fun v3 m4 => (if v3 = (-1 : Int32) then (fX9_newName_1_K47 p2 p3 m4) else (ax_bd (fX9_wrong (3 : Int32) m4) (fun _ m10 => (fX9_newName_1_K47 p2 p3 m10)))))) else (ax_bd (fX9_wrong (1 : Int32) m2) (fun _ m13 => (fX9_newName_1_K47 p2 p3 m13)))) else (some ((), m2)))))
theorem okX9_newName_1 (p2 : Int32) (p3 : Int32) (μ : ax_M) : ax_Ok mX9_newName 7 ax_jV [.ref 57, .ref 61, .int p2, .int p3] μ (fX9_newName_1 p2 p3 μ) := by
  refine ax_start (lc := [some (.ref 57), some (.ref 61), some (.int p2), some (.int p3)]) 0 (by decide +kernel) rfl (Nat.le_of_ble_eq_true rfl) (fun x G hG => ?_)
  unfold fX9_newName_1
  refine rf_aload_n (n := 1) 0 dX9_newName_0 rfl rfl rfl ?_
  refine rf_cV0V (n := 4) hG (okX9_goOn _) lVX9_166 hhX9_goOn kk_57 sS_57 ⟨_, rfl, rfl⟩ dX9_newName_1 rfl (Nat.le_of_ble_eq_true rfl) (Nat.le_of_ble_eq_true rfl) (fun _ m2 => ?_)
  refine rf_aload_n (n := 5) 0 dX9_newName_4 rfl rfl rfl ?_
  refine rf_getI (n := 8) hG dX9_newName_5 flX9_153 ki_9_24 sS_57 kk_57 rfl ?_
  refine rf_if_eq (tg := 12) (n := 11) dX9_newName_8 rfl rfl (fun c15 => ?_) (fun c15 => ?_)
  · refine rf_aload_n (n := 13) 0 dX9_newName_12 rfl rfl rfl ?_
    refine rf_getI (n := 16) hG dX9_newName_13 flX9_122 ki_9_22 sS_57 kk_57 rfl ?_
    refine rf_iconst (n := 17) (1 : Int32) dX9_newName_16 cciconst_1 rfl ?_
    refine rf_icmp_eq (tg := 28) (n := 20) dX9_newName_17 rfl rfl (fun c14 => ?_) (fun c14 => ?_)
    · refine rf_aload_n (n := 29) 1 dX9_newName_28 rfl rfl rfl ?_
      refine rf_iload_n (n := 30) 2 dX9_newName_29 rfl rfl rfl ?_
      refine rf_iload_n (n := 31) 3 dX9_newName_30 rfl rfl rfl ?_
      refine rf_aload_n (n := 32) 0 dX9_newName_31 rfl rfl rfl ?_
      refine rf_getI (n := 35) hG dX9_newName_32 flX9_132 ki_9_23 sS_57 kk_57 rfl ?_
      refine rf_cS4I (n := 38) hG (okX9_foundIn_1 _ _ _ _) lSX9_177 hhX9_foundIn dX9_newName_35 rfl (Nat.le_of_ble_eq_true rfl) (Nat.le_of_ble_eq_true rfl) (fun v3 m4 => ?_)
      refine rf_iconst (n := 39) (-1 : Int32) dX9_newName_38 cciconst_m1 rfl ?_
      refine rf_icmp_eq (tg := 47) (n := 42) dX9_newName_39 rfl rfl (fun c11 => ?_) (fun c11 => ?_)
      · exact pX9_newName_1_K47 hG _ _ _
      · refine rf_aload_n (n := 43) 0 dX9_newName_42 rfl rfl rfl ?_
        refine rf_iconst (n := 44) (3 : Int32) dX9_newName_43 cciconst_3 rfl ?_
        refine rf_cV1V (n := 47) hG (okX9_wrong _ _) lVX9_162 hhX9_wrong kk_57 sS_57 ⟨_, rfl, rfl⟩ dX9_newName_44 rfl (Nat.le_of_ble_eq_true rfl) (Nat.le_of_ble_eq_true rfl) (fun _ m10 => ?_)
        exact pX9_newName_1_K47 hG _ _ _
    · refine rf_aload_n (n := 21) 0 dX9_newName_20 rfl rfl rfl ?_
      refine rf_iconst (n := 22) (1 : Int32) dX9_newName_21 cciconst_1 rfl ?_
      refine rf_cV1V (n := 25) hG (okX9_wrong _ _) lVX9_162 hhX9_wrong kk_57 sS_57 ⟨_, rfl, rfl⟩ dX9_newName_22 rfl (Nat.le_of_ble_eq_true rfl) (Nat.le_of_ble_eq_true rfl) (fun _ m13 => ?_)
      refine rf_goto (tg := 47) dX9_newName_25 rfl ?_
      exact pX9_newName_1_K47 hG _ _ _
  · exact rf_retV rfl dX9_newName_11
def fX9_readPhase_K19 (l1 : Int32) (μ : ax_M) : Option (Unit × ax_M) :=
  (ax_bd (fX9_reading (1 : Int32) μ) (fun v4 m5 => (ax_bd (fX9_newName_1 (4 : Int32) v4 m5) (fun _ m7 => (ax_bd (fX9_numeral (0 : Int32) (63 : Int32) m7) (fun v8 m9 => (ax_bd (fX9_numeral (1 : Int32) (63 : Int32) m9) (fun v10 m11 => (if (m11.1 57 24) = 0 then (Option.bind (ax_wr m11 62 8 l1 v8) (fun m12 => (Option.bind (ax_wr m12 63 8 l1 v10) (fun m13 => (ax_bd (fX9_reading (1 : Int32) m13) (fun v14 m15 => (ax_bd (fX9_reads (1 : Int32) (v14 + (1 : Int32)) m15) (fun _ m17 => (some ((), m17)))))))))) else (some ((), m11)))))))))))
theorem pX9_readPhase_K19 {x : ax_X} {G : ax_G} (hG : ax_ok G) (l1 : Int32) (μ : ax_M) : ax_Rf mX9_readPhase 8 x (ax_Z ax_jV x G) G 0 0 19 [some (.ref 57), some (.int l1), none, none] [] μ (fX9_readPhase_K19 l1 μ) := by
  unfold fX9_readPhase_K19
  refine rf_aload_n (n := 20) 0 dX9_readPhase_19 rfl rfl rfl ?_
  refine rf_aload_n (n := 21) 0 dX9_readPhase_20 rfl rfl rfl ?_
  refine rf_getR (n := 24) rr_57_5 kk_61 hG dX9_readPhase_21 flX9_20 ki_9_5 sS_57 kk_57 rfl ?_
  refine rf_iconst (n := 25) (4 : Int32) dX9_readPhase_24 cciconst_4 rfl ?_
  refine rf_aload_n (n := 26) 0 dX9_readPhase_25 rfl rfl rfl ?_
  refine rf_iconst (n := 27) (1 : Int32) dX9_readPhase_26 cciconst_1 rfl ?_
  refine rf_cV1I (n := 30) hG (okX9_reading _ _) lVX9_181 hhX9_reading kk_57 sS_57 ⟨_, rfl, rfl⟩ dX9_readPhase_27 rfl (Nat.le_of_ble_eq_true rfl) (Nat.le_of_ble_eq_true rfl) (fun v4 m5 => ?_)
  refine rf_cV3V (n := 33) hG (okX9_newName_1 _ _ _) lVX9_185 hhX9_newName kk_57 sS_57 ⟨_, rfl, rfl⟩ dX9_readPhase_30 rfl (Nat.le_of_ble_eq_true rfl) (Nat.le_of_ble_eq_true rfl) (fun _ m7 => ?_)
  refine rf_aload_n (n := 34) 0 dX9_readPhase_33 rfl rfl rfl ?_
  refine rf_iconst (n := 35) (0 : Int32) dX9_readPhase_34 cciconst_0 rfl ?_
  refine rf_bipush (n := 37) (63 : Int32) dX9_readPhase_35 ccbipush_63 rfl ?_
  refine rf_cV2I (n := 40) hG (okX9_numeral _ _ _) lVX9_169 hhX9_numeral kk_57 sS_57 ⟨_, rfl, rfl⟩ dX9_readPhase_37 rfl (Nat.le_of_ble_eq_true rfl) (Nat.le_of_ble_eq_true rfl) (fun v8 m9 => ?_)
  refine rf_istore_n (lc2 := [some (.ref 57), some (.int l1), some (.int v8), none]) (n := 41) 2 dX9_readPhase_40 rfl rfl (Nat.le_of_ble_eq_true rfl) rfl rfl ?_
  refine rf_aload_n (n := 42) 0 dX9_readPhase_41 rfl rfl rfl ?_
  refine rf_iconst (n := 43) (1 : Int32) dX9_readPhase_42 cciconst_1 rfl ?_
  refine rf_bipush (n := 45) (63 : Int32) dX9_readPhase_43 ccbipush_63 rfl ?_
  refine rf_cV2I (n := 48) hG (okX9_numeral _ _ _) lVX9_169 hhX9_numeral kk_57 sS_57 ⟨_, rfl, rfl⟩ dX9_readPhase_45 rfl (Nat.le_of_ble_eq_true rfl) (Nat.le_of_ble_eq_true rfl) (fun v10 m11 => ?_)
  refine rf_istore_n (lc2 := [some (.ref 57), some (.int l1), some (.int v8), some (.int v10)]) (n := 49) 3 dX9_readPhase_48 rfl rfl (Nat.le_of_ble_eq_true rfl) rfl rfl ?_
  refine rf_aload_n (n := 50) 0 dX9_readPhase_49 rfl rfl rfl ?_
  refine rf_getI (n := 53) hG dX9_readPhase_50 flX9_153 ki_9_24 sS_57 kk_57 rfl ?_
  refine rf_if_eq (tg := 57) (n := 56) dX9_readPhase_53 rfl rfl (fun c18 => ?_) (fun c18 => ?_)
  · refine rf_aload_n (n := 58) 0 dX9_readPhase_57 rfl rfl rfl ?_
    refine rf_getR (n := 61) rr_57_6 kk_62 hG dX9_readPhase_58 flX9_23 ki_9_6 sS_57 kk_57 rfl ?_
    refine rf_iload_n (n := 62) 1 dX9_readPhase_61 rfl rfl rfl ?_
    refine rf_iload_n (n := 63) 2 dX9_readPhase_62 rfl rfl rfl ?_
    refine rf_iast (n := 64) hG dX9_readPhase_63 sS_62 kk_62 rfl (fun m12 => ?_)
    refine rf_aload_n (n := 65) 0 dX9_readPhase_64 rfl rfl rfl ?_
    refine rf_getR (n := 68) rr_57_7 kk_63 hG dX9_readPhase_65 flX9_26 ki_9_7 sS_57 kk_57 rfl ?_
    refine rf_iload_n (n := 69) 1 dX9_readPhase_68 rfl rfl rfl ?_
    refine rf_iload_n (n := 70) 3 dX9_readPhase_69 rfl rfl rfl ?_
    refine rf_iast (n := 71) hG dX9_readPhase_70 sS_63 kk_63 rfl (fun m13 => ?_)
    refine rf_aload_n (n := 72) 0 dX9_readPhase_71 rfl rfl rfl ?_
    refine rf_iconst (n := 73) (1 : Int32) dX9_readPhase_72 cciconst_1 rfl ?_
    refine rf_aload_n (n := 74) 0 dX9_readPhase_73 rfl rfl rfl ?_
    refine rf_iconst (n := 75) (1 : Int32) dX9_readPhase_74 cciconst_1 rfl ?_
    refine rf_cV1I (n := 78) hG (okX9_reading _ _) lVX9_181 hhX9_reading kk_57 sS_57 ⟨_, rfl, rfl⟩ dX9_readPhase_75 rfl (Nat.le_of_ble_eq_true rfl) (Nat.le_of_ble_eq_true rfl) (fun v14 m15 => ?_)
    refine rf_iconst (n := 79) (1 : Int32) dX9_readPhase_78 cciconst_1 rfl ?_
    refine rf_iadd (n := 80) dX9_readPhase_79 rfl ?_
    refine rf_cV2V (n := 83) hG (okX9_reads _ _ _) lVX9_173 hhX9_reads kk_57 sS_57 ⟨_, rfl, rfl⟩ dX9_readPhase_80 rfl (Nat.le_of_ble_eq_true rfl) (Nat.le_of_ble_eq_true rfl) (fun _ m17 => ?_)
    exact rf_retV rfl dX9_readPhase_83
  · exact rf_retV rfl dX9_readPhase_56
def fX9_readPhase (μ : ax_M) : Option (Unit × ax_M) :=
  (ax_bd (fX9_reading (1 : Int32) μ) (fun v1 m2 => (ax_let ((4 : Int32) + v1) (fun v3 => (if v3 = (8 : Int32) then (ax_bd (fX9_wrong (2 : Int32) m2) (fun _ m20 => (fX9_readPhase_K19 v3 m20))) else (fX9_readPhase_K19 v3 m2))))))
theorem okX9_readPhase (μ : ax_M) : ax_Ok mX9_readPhase 8 ax_jV [.ref 57] μ (fX9_readPhase μ) := by
  refine ax_start (lc := [some (.ref 57), none, none, none]) 3 (by decide +kernel) rfl (Nat.le_of_ble_eq_true rfl) (fun x G hG => ?_)
  unfold fX9_readPhase
  refine rf_iconst (n := 1) (4 : Int32) dX9_readPhase_0 cciconst_4 rfl ?_
  refine rf_aload_n (n := 2) 0 dX9_readPhase_1 rfl rfl rfl ?_
  refine rf_iconst (n := 3) (1 : Int32) dX9_readPhase_2 cciconst_1 rfl ?_
  refine rf_cV1I (n := 6) hG (okX9_reading _ _) lVX9_181 hhX9_reading kk_57 sS_57 ⟨_, rfl, rfl⟩ dX9_readPhase_3 rfl (Nat.le_of_ble_eq_true rfl) (Nat.le_of_ble_eq_true rfl) (fun v1 m2 => ?_)
  refine rf_iadd (n := 7) dX9_readPhase_6 rfl ?_
  refine rf_letI (fun v3 => ?_)
  refine rf_istore_n (lc2 := [some (.ref 57), some (.int v3), none, none]) (n := 8) 1 dX9_readPhase_7 rfl rfl (Nat.le_of_ble_eq_true rfl) rfl rfl ?_
  refine rf_iload_n (n := 9) 1 dX9_readPhase_8 rfl rfl rfl ?_
  refine rf_bipush (n := 11) (8 : Int32) dX9_readPhase_9 ccbipush_8 rfl ?_
  refine rf_icmp_ne (tg := 19) (n := 14) dX9_readPhase_11 rfl rfl (fun c21 => ?_) (fun c21 => ?_)
  · exact pX9_readPhase_K19 hG _ _
  · refine rf_aload_n (n := 15) 0 dX9_readPhase_14 rfl rfl rfl ?_
    refine rf_iconst (n := 16) (2 : Int32) dX9_readPhase_15 cciconst_2 rfl ?_
    refine rf_cV1V (n := 19) hG (okX9_wrong _ _) lVX9_162 hhX9_wrong kk_57 sS_57 ⟨_, rfl, rfl⟩ dX9_readPhase_16 rfl (Nat.le_of_ble_eq_true rfl) (Nat.le_of_ble_eq_true rfl) (fun _ m20 => ?_)
    exact pX9_readPhase_K19 hG _ _
