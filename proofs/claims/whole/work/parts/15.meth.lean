def fX1_gapOf_K73 (l2 : Int32) (l3 : Int32) (s0 : Int32) (μ : ax_M) : Option (Int32 × ax_M) :=
  (Option.bind (ax_rd μ 9 10 l2) (fun v12 => (some ((((l3 + ((64 : Int32) * (μ.1 2 16))) - s0) - ((64 : Int32) * v12)), μ))))
theorem pX1_gapOf_K73 {x : ax_X} {G : ax_G} (hG : ax_ok G) (l2 : Int32) (l3 : Int32) (s0 : Int32) (μ : ax_M) : ax_Rf mX1_gapOf 1 x (ax_Z ax_jI x G) G 0 0 73 [some (.ref 2), none, some (.int l2), some (.int l3), none] [.int s0] μ (fX1_gapOf_K73 l2 l3 s0 μ) := by
  unfold fX1_gapOf_K73
  refine rf_istore (lc2 := [some (.ref 2), none, some (.int l2), some (.int l3), some (.int s0)]) (n := 75) 4 dX1_gapOf_73 rfl (Nat.le_of_ble_eq_true rfl) rfl rfl ?_
  refine rf_iload_n (n := 76) 3 dX1_gapOf_75 rfl rfl rfl ?_
  refine rf_bipush (n := 78) (64 : Int32) dX1_gapOf_76 ccbipush_64 rfl ?_
  refine rf_aload_n (n := 79) 0 dX1_gapOf_78 rfl rfl rfl ?_
  refine rf_getI (n := 82) hG dX1_gapOf_79 flX1_48 ki_1_16 sS_2 kk_2 rfl ?_
  refine rf_imul (n := 83) dX1_gapOf_82 rfl ?_
  refine rf_iadd (n := 84) dX1_gapOf_83 rfl ?_
  refine rf_iload (n := 86) 4 dX1_gapOf_84 rfl rfl ?_
  refine rf_isub (n := 87) dX1_gapOf_86 rfl ?_
  refine rf_bipush (n := 89) (64 : Int32) dX1_gapOf_87 ccbipush_64 rfl ?_
  refine rf_aload_n (n := 90) 0 dX1_gapOf_89 rfl rfl rfl ?_
  refine rf_getR (n := 93) rr_2_6 kk_9 hG dX1_gapOf_90 flX1_30 ki_1_6 sS_2 kk_2 rfl ?_
  refine rf_iload_n (n := 94) 2 dX1_gapOf_93 rfl rfl rfl ?_
  refine rf_iald (n := 95) hG dX1_gapOf_94 sS_9 kk_9 rfl (fun v12 => ?_)
  refine rf_imul (n := 96) dX1_gapOf_95 rfl ?_
  refine rf_isub (n := 97) dX1_gapOf_96 rfl ?_
  exact rf_retI rfl dX1_gapOf_97
def fX1_gapOf (p1 : Int32) (μ : ax_M) : Option (Int32 × ax_M) :=
  (Option.bind (ax_rd μ 12 24 p1) (fun v1 => (Option.bind (ax_rd μ 11 24 p1) (fun v2 => (Option.bind (ax_rd μ 10 10 v2) (fun v3 => (Option.bind (ax_rd μ 14 24 p1) (fun v4 => (ax_bd (fX1_shiftOf p1 μ) (fun v5 m6 => (ax_let (((64 : Int32) * ((v3 + v4) - (μ.1 2 17))) - (v5 * (m6.1 2 16))) (fun v7 => (ax_bd (fX1_isFlop v1 m6) (fun v8 m9 => (if v8 = 0 then (Option.bind (ax_rd m9 7 10 v1) (fun v10 => (Option.bind (ax_rd m9 5 4 v10) (fun v11 => (fX1_gapOf_K73 v1 v7 (v11 * (m9.1 2 16)) m9))))) else (fX1_gapOf_K73 v1 v7 (0 : Int32) m9))))))))))))))))
theorem okX1_gapOf (p1 : Int32) (μ : ax_M) : ax_Ok mX1_gapOf 1 ax_jI [.ref 2, .int p1] μ (fX1_gapOf p1 μ) := by
  refine ax_start (lc := [some (.ref 2), some (.int p1), none, none, none]) 3 (by decide +kernel) rfl (Nat.le_of_ble_eq_true rfl) (fun x G hG => ?_)
  unfold fX1_gapOf
  refine rf_aload_n (n := 1) 0 dX1_gapOf_0 rfl rfl rfl ?_
  refine rf_getR (n := 4) rr_2_9 kk_12 hG dX1_gapOf_1 flX1_39 ki_1_9 sS_2 kk_2 rfl ?_
  refine rf_iload_n (n := 5) 1 dX1_gapOf_4 rfl rfl rfl ?_
  refine rf_iald (n := 6) hG dX1_gapOf_5 sS_12 kk_12 rfl (fun v1 => ?_)
  refine rf_istore_n (lc2 := [some (.ref 2), some (.int p1), some (.int v1), none, none]) (n := 7) 2 dX1_gapOf_6 rfl rfl (Nat.le_of_ble_eq_true rfl) rfl rfl ?_
  refine rf_bipush (n := 9) (64 : Int32) dX1_gapOf_7 ccbipush_64 rfl ?_
  refine rf_aload_n (n := 10) 0 dX1_gapOf_9 rfl rfl rfl ?_
  refine rf_getR (n := 13) rr_2_7 kk_10 hG dX1_gapOf_10 flX1_33 ki_1_7 sS_2 kk_2 rfl ?_
  refine rf_aload_n (n := 14) 0 dX1_gapOf_13 rfl rfl rfl ?_
  refine rf_getR (n := 17) rr_2_8 kk_11 hG dX1_gapOf_14 flX1_36 ki_1_8 sS_2 kk_2 rfl ?_
  refine rf_iload_n (n := 18) 1 dX1_gapOf_17 rfl rfl rfl ?_
  refine rf_iald (n := 19) hG dX1_gapOf_18 sS_11 kk_11 rfl (fun v2 => ?_)
  refine rf_iald (n := 20) hG dX1_gapOf_19 sS_10 kk_10 rfl (fun v3 => ?_)
  refine rf_aload_n (n := 21) 0 dX1_gapOf_20 rfl rfl rfl ?_
  refine rf_getR (n := 24) rr_2_11 kk_14 hG dX1_gapOf_21 flX1_45 ki_1_11 sS_2 kk_2 rfl ?_
  refine rf_iload_n (n := 25) 1 dX1_gapOf_24 rfl rfl rfl ?_
  refine rf_iald (n := 26) hG dX1_gapOf_25 sS_14 kk_14 rfl (fun v4 => ?_)
  refine rf_iadd (n := 27) dX1_gapOf_26 rfl ?_
  refine rf_aload_n (n := 28) 0 dX1_gapOf_27 rfl rfl rfl ?_
  refine rf_getI (n := 31) hG dX1_gapOf_28 flX1_64 ki_1_17 sS_2 kk_2 rfl ?_
  refine rf_isub (n := 32) dX1_gapOf_31 rfl ?_
  refine rf_imul (n := 33) dX1_gapOf_32 rfl ?_
  refine rf_aload_n (n := 34) 0 dX1_gapOf_33 rfl rfl rfl ?_
  refine rf_iload_n (n := 35) 1 dX1_gapOf_34 rfl rfl rfl ?_
  refine rf_cV1I (n := 38) hG (okX1_shiftOf _ _) lVX1_80 hhX1_shiftOf kk_2 sS_2 ⟨_, rfl, rfl⟩ dX1_gapOf_35 rfl (Nat.le_of_ble_eq_true rfl) (Nat.le_of_ble_eq_true rfl) (fun v5 m6 => ?_)
  refine rf_aload_n (n := 39) 0 dX1_gapOf_38 rfl rfl rfl ?_
  refine rf_getI (n := 42) hG dX1_gapOf_39 flX1_48 ki_1_16 sS_2 kk_2 rfl ?_
  refine rf_imul (n := 43) dX1_gapOf_42 rfl ?_
  refine rf_isub (n := 44) dX1_gapOf_43 rfl ?_
  refine rf_letI (fun v7 => ?_)
  refine rf_istore_n (lc2 := [some (.ref 2), some (.int p1), some (.int v1), some (.int v7), none]) (n := 45) 3 dX1_gapOf_44 rfl rfl (Nat.le_of_ble_eq_true rfl) rfl rfl ?_
  refine rf_aload_n (n := 46) 0 dX1_gapOf_45 rfl rfl rfl ?_
  refine rf_iload_n (n := 47) 2 dX1_gapOf_46 rfl rfl rfl ?_
  refine rf_cV1I (n := 50) hG (okX1_isFlop _ _) lVX1_96 hhX1_isFlop kk_2 sS_2 ⟨_, rfl, rfl⟩ dX1_gapOf_47 rfl (Nat.le_of_ble_eq_true rfl) (Nat.le_of_ble_eq_true rfl) (fun v8 m9 => ?_)
  refine rf_if_eq (tg := 57) (n := 53) dX1_gapOf_50 rfl rfl (fun c13 => ?_) (fun c13 => ?_)
  · refine rf_aload_n (n := 58) 0 dX1_gapOf_57 rfl rfl rfl ?_
    refine rf_getR (n := 61) rr_2_2 kk_5 hG dX1_gapOf_58 flX1_18 ki_1_2 sS_2 kk_2 rfl ?_
    refine rf_aload_n (n := 62) 0 dX1_gapOf_61 rfl rfl rfl ?_
    refine rf_getR (n := 65) rr_2_4 kk_7 hG dX1_gapOf_62 flX1_24 ki_1_4 sS_2 kk_2 rfl ?_
    refine rf_iload_n (n := 66) 2 dX1_gapOf_65 rfl rfl rfl ?_
    refine rf_iald (n := 67) hG dX1_gapOf_66 sS_7 kk_7 rfl (fun v10 => ?_)
    refine rf_iald (n := 68) hG dX1_gapOf_67 sS_5 kk_5 rfl (fun v11 => ?_)
    refine rf_aload_n (n := 69) 0 dX1_gapOf_68 rfl rfl rfl ?_
    refine rf_getI (n := 72) hG dX1_gapOf_69 flX1_48 ki_1_16 sS_2 kk_2 rfl ?_
    refine rf_imul (n := 73) dX1_gapOf_72 rfl ?_
    refine rf_mask (lc2 := [some (.ref 2), none, some (.int v1), some (.int v7), none]) [true, false, true, true, true] rfl ?_
    exact pX1_gapOf_K73 hG _ _ _ _
  · refine rf_iconst (n := 54) (0 : Int32) dX1_gapOf_53 cciconst_0 rfl ?_
    refine rf_goto (tg := 73) dX1_gapOf_54 rfl ?_
    refine rf_mask (lc2 := [some (.ref 2), none, some (.int v1), some (.int v7), none]) [true, false, true, true, true] rfl ?_
    exact pX1_gapOf_K73 hG _ _ _ _
def fX8_gap_K26 (s0 : Int64) (μ : ax_M) : Option (Int64 × ax_M) :=
  (some (s0, μ))
theorem pX8_gap_K26 {x : ax_X} {G : ax_G} (hG : ax_ok G) (s0 : Int64) (μ : ax_M) : ax_Rf mX8_gap 2 x (ax_Z ax_jL x G) G 0 0 26 [none, none] [.long s0] μ (fX8_gap_K26 s0 μ) := by
  unfold fX8_gap_K26
  exact rf_retL rfl dX8_gap_26
def fX8_gap (p1 : Int32) (μ : ax_M) : Option (Int64 × ax_M) :=
  (ax_bd (fX1_hasPath p1 μ) (fun v1 m2 => (if v1 = 0 then (fX8_gap_K26 (-9223372036854775808 : Int64) m2) else (ax_bd (fX1_gapOf p1 m2) (fun v3 m4 => (fX8_gap_K26 (Int32.toInt64 v3) m4))))))
theorem okX8_gap (p1 : Int32) (μ : ax_M) : ax_Ok mX8_gap 2 ax_jL [.ref 0, .int p1] μ (fX8_gap p1 μ) := by
  refine ax_start (lc := [some (.ref 0), some (.int p1)]) 0 (by decide +kernel) rfl (Nat.le_of_ble_eq_true rfl) (fun x G hG => ?_)
  unfold fX8_gap
  refine rf_aload_n (n := 1) 0 dX8_gap_0 rfl rfl rfl ?_
  refine rf_getR (n := 4) rr_0_2 kk_2 hG dX8_gap_1 flX8_16 ki_8_2 sS_0 kk_0 rfl ?_
  refine rf_iload_n (n := 5) 1 dX8_gap_4 rfl rfl rfl ?_
  refine rf_cV1I (n := 8) hG (okX1_hasPath _ _) lVX8_143 hhX1_hasPath kk_2 sS_2 ⟨_, rfl, rfl⟩ dX8_gap_5 rfl (Nat.le_of_ble_eq_true rfl) (Nat.le_of_ble_eq_true rfl) (fun v1 m2 => ?_)
  refine rf_if_eq (tg := 23) (n := 11) dX8_gap_8 rfl rfl (fun c5 => ?_) (fun c5 => ?_)
  · refine rf_ldc2 (n := 26) dX8_gap_23 clX8_225 rfl ?_
    refine rf_mask (lc2 := [none, none]) [false, false] rfl ?_
    exact pX8_gap_K26 hG _ _
  · refine rf_aload_n (n := 12) 0 dX8_gap_11 rfl rfl rfl ?_
    refine rf_getR (n := 15) rr_0_2 kk_2 hG dX8_gap_12 flX8_16 ki_8_2 sS_0 kk_0 rfl ?_
    refine rf_iload_n (n := 16) 1 dX8_gap_15 rfl rfl rfl ?_
    refine rf_cV1I (n := 19) hG (okX1_gapOf _ _) lVX8_247 hhX1_gapOf kk_2 sS_2 ⟨_, rfl, rfl⟩ dX8_gap_16 rfl (Nat.le_of_ble_eq_true rfl) (Nat.le_of_ble_eq_true rfl) (fun v3 m4 => ?_)
    refine rf_i2l (n := 20) dX8_gap_19 rfl ?_
    refine rf_goto (tg := 26) dX8_gap_20 rfl ?_
    refine rf_mask (lc2 := [none, none]) [false, false] rfl ?_
    exact pX8_gap_K26 hG _ _
def fX9_gapOf_K88 (l1 : Int32) (l2 : Int64) (s0 : Int64) (μ : ax_M) : Option (Int64 × ax_M) :=
  (ax_bd (fX9_periodLong μ) (fun v18 m19 => (Option.bind (ax_rd m19 71 48 l1) (fun v20 => (Option.bind (ax_rd m19 67 20 v20) (fun v21 => (some ((((l2 + ((64 : Int64) * v18)) - s0) - ((64 : Int64) * (Int32.toInt64 v21))), m19))))))))
theorem pX9_gapOf_K88 {x : ax_X} {G : ax_G} (hG : ax_ok G) (l1 : Int32) (l2 : Int64) (s0 : Int64) (μ : ax_M) : ax_Rf mX9_gapOf 1 x (ax_Z ax_jL x G) G 0 0 88 [some (.ref 57), some (.int l1), some (.long l2), none, none, none] [.long s0] μ (fX9_gapOf_K88 l1 l2 s0 μ) := by
  unfold fX9_gapOf_K88
  refine rf_lstore (lc2 := [some (.ref 57), some (.int l1), some (.long l2), none, some (.long s0), none]) (n := 90) 4 dX9_gapOf_88 rfl (Nat.le_of_ble_eq_true rfl) rfl rfl ?_
  refine rf_lload_n (n := 91) 2 dX9_gapOf_90 rfl rfl rfl ?_
  refine rf_ldc2 (n := 94) dX9_gapOf_91 clX9_275 rfl ?_
  refine rf_aload_n (n := 95) 0 dX9_gapOf_94 rfl rfl rfl ?_
  refine rf_cV0L (n := 98) hG (okX9_periodLong _) lVX9_277 hhX9_periodLong kk_57 sS_57 ⟨_, rfl, rfl⟩ dX9_gapOf_95 rfl (Nat.le_of_ble_eq_true rfl) (Nat.le_of_ble_eq_true rfl) (fun v18 m19 => ?_)
  refine rf_lmul (n := 99) dX9_gapOf_98 rfl ?_
  refine rf_ladd (n := 100) dX9_gapOf_99 rfl ?_
  refine rf_lload (n := 102) 4 dX9_gapOf_100 rfl rfl ?_
  refine rf_lsub (n := 103) dX9_gapOf_102 rfl ?_
  refine rf_ldc2 (n := 106) dX9_gapOf_103 clX9_275 rfl ?_
  refine rf_aload_n (n := 107) 0 dX9_gapOf_106 rfl rfl rfl ?_
  refine rf_getR (n := 110) rr_57_11 kk_67 hG dX9_gapOf_107 flX9_38 ki_9_11 sS_57 kk_57 rfl ?_
  refine rf_aload_n (n := 111) 0 dX9_gapOf_110 rfl rfl rfl ?_
  refine rf_getR (n := 114) rr_57_15 kk_71 hG dX9_gapOf_111 flX9_50 ki_9_15 sS_57 kk_57 rfl ?_
  refine rf_iload_n (n := 115) 1 dX9_gapOf_114 rfl rfl rfl ?_
  refine rf_iald (n := 116) hG dX9_gapOf_115 sS_71 kk_71 rfl (fun v20 => ?_)
  refine rf_iald (n := 117) hG dX9_gapOf_116 sS_67 kk_67 rfl (fun v21 => ?_)
  refine rf_i2l (n := 118) dX9_gapOf_117 rfl ?_
  refine rf_lmul (n := 119) dX9_gapOf_118 rfl ?_
  refine rf_lsub (n := 120) dX9_gapOf_119 rfl ?_
  exact rf_retL rfl dX9_gapOf_120
def fX9_gapOf (p1 : Int32) (μ : ax_M) : Option (Int64 × ax_M) :=
  (Option.bind (ax_rd μ 70 48 p1) (fun v1 => (Option.bind (ax_rd μ 68 20 v1) (fun v2 => (Option.bind (ax_rd μ 74 68 ((43 : Int32) + p1)) (fun v3 => (Option.bind (ax_rd μ 74 68 (67 : Int32)) (fun v4 => (ax_bd (fX9_shiftOf p1 μ) (fun v5 m6 => (ax_bd (fX9_periodLong m6) (fun v7 m8 => (ax_let (((64 : Int64) * (Int32.toInt64 ((v2 + v3) - v4))) - ((Int32.toInt64 v5) * v7)) (fun v9 => (Option.bind (ax_rd m8 71 48 p1) (fun v10 => (ax_bd (fX9_isFlop v10 m8) (fun v11 m12 => (if v11 = 0 then (Option.bind (ax_rd m12 71 48 p1) (fun v13 => (Option.bind (ax_rd m12 65 20 v13) (fun v14 => (Option.bind (ax_rd m12 74 68 ((5 : Int32) + v14)) (fun v15 => (ax_bd (fX9_periodLong m12) (fun v16 m17 => (fX9_gapOf_K88 p1 v9 ((Int32.toInt64 v15) * v16) m17))))))))) else (fX9_gapOf_K88 p1 v9 (0 : Int64) m12))))))))))))))))))))
theorem okX9_gapOf (p1 : Int32) (μ : ax_M) : ax_Ok mX9_gapOf 1 ax_jL [.ref 57, .int p1] μ (fX9_gapOf p1 μ) := by
  refine ax_start (lc := [some (.ref 57), some (.int p1), none, none, none, none]) 4 (by decide +kernel) rfl (Nat.le_of_ble_eq_true rfl) (fun x G hG => ?_)
  unfold fX9_gapOf
  refine rf_ldc2 (n := 3) dX9_gapOf_0 clX9_275 rfl ?_
  refine rf_aload_n (n := 4) 0 dX9_gapOf_3 rfl rfl rfl ?_
  refine rf_getR (n := 7) rr_57_12 kk_68 hG dX9_gapOf_4 flX9_41 ki_9_12 sS_57 kk_57 rfl ?_
  refine rf_aload_n (n := 8) 0 dX9_gapOf_7 rfl rfl rfl ?_
  refine rf_getR (n := 11) rr_57_14 kk_70 hG dX9_gapOf_8 flX9_47 ki_9_14 sS_57 kk_57 rfl ?_
  refine rf_iload_n (n := 12) 1 dX9_gapOf_11 rfl rfl rfl ?_
  refine rf_iald (n := 13) hG dX9_gapOf_12 sS_70 kk_70 rfl (fun v1 => ?_)
  refine rf_iald (n := 14) hG dX9_gapOf_13 sS_68 kk_68 rfl (fun v2 => ?_)
  refine rf_aload_n (n := 15) 0 dX9_gapOf_14 rfl rfl rfl ?_
  refine rf_getR (n := 18) rr_57_28 kk_74 hG dX9_gapOf_15 flX9_63 ki_9_28 sS_57 kk_57 rfl ?_
  refine rf_bipush (n := 20) (43 : Int32) dX9_gapOf_18 ccbipush_43 rfl ?_
  refine rf_iload_n (n := 21) 1 dX9_gapOf_20 rfl rfl rfl ?_
  refine rf_iadd (n := 22) dX9_gapOf_21 rfl ?_
  refine rf_iald (n := 23) hG dX9_gapOf_22 sS_74 kk_74 rfl (fun v3 => ?_)
  refine rf_iadd (n := 24) dX9_gapOf_23 rfl ?_
  refine rf_aload_n (n := 25) 0 dX9_gapOf_24 rfl rfl rfl ?_
  refine rf_getR (n := 28) rr_57_28 kk_74 hG dX9_gapOf_25 flX9_63 ki_9_28 sS_57 kk_57 rfl ?_
  refine rf_bipush (n := 30) (67 : Int32) dX9_gapOf_28 ccbipush_67 rfl ?_
  refine rf_iald (n := 31) hG dX9_gapOf_30 sS_74 kk_74 rfl (fun v4 => ?_)
  refine rf_isub (n := 32) dX9_gapOf_31 rfl ?_
  refine rf_i2l (n := 33) dX9_gapOf_32 rfl ?_
  refine rf_lmul (n := 34) dX9_gapOf_33 rfl ?_
  refine rf_aload_n (n := 35) 0 dX9_gapOf_34 rfl rfl rfl ?_
  refine rf_iload_n (n := 36) 1 dX9_gapOf_35 rfl rfl rfl ?_
  refine rf_cV1I (n := 39) hG (okX9_shiftOf _ _) lVX9_272 hhX9_shiftOf kk_57 sS_57 ⟨_, rfl, rfl⟩ dX9_gapOf_36 rfl (Nat.le_of_ble_eq_true rfl) (Nat.le_of_ble_eq_true rfl) (fun v5 m6 => ?_)
  refine rf_i2l (n := 40) dX9_gapOf_39 rfl ?_
  refine rf_aload_n (n := 41) 0 dX9_gapOf_40 rfl rfl rfl ?_
  refine rf_cV0L (n := 44) hG (okX9_periodLong _) lVX9_277 hhX9_periodLong kk_57 sS_57 ⟨_, rfl, rfl⟩ dX9_gapOf_41 rfl (Nat.le_of_ble_eq_true rfl) (Nat.le_of_ble_eq_true rfl) (fun v7 m8 => ?_)
  refine rf_lmul (n := 45) dX9_gapOf_44 rfl ?_
  refine rf_lsub (n := 46) dX9_gapOf_45 rfl ?_
  refine rf_letL (fun v9 => ?_)
  refine rf_lstore_n (lc2 := [some (.ref 57), some (.int p1), some (.long v9), none, none, none]) (n := 47) 2 dX9_gapOf_46 rfl rfl (Nat.le_of_ble_eq_true rfl) rfl rfl ?_
  refine rf_aload_n (n := 48) 0 dX9_gapOf_47 rfl rfl rfl ?_
  refine rf_aload_n (n := 49) 0 dX9_gapOf_48 rfl rfl rfl ?_
  refine rf_getR (n := 52) rr_57_15 kk_71 hG dX9_gapOf_49 flX9_50 ki_9_15 sS_57 kk_57 rfl ?_
  refine rf_iload_n (n := 53) 1 dX9_gapOf_52 rfl rfl rfl ?_
  refine rf_iald (n := 54) hG dX9_gapOf_53 sS_71 kk_71 rfl (fun v10 => ?_)
  refine rf_cV1I (n := 57) hG (okX9_isFlop _ _) lVX9_281 hhX9_isFlop kk_57 sS_57 ⟨_, rfl, rfl⟩ dX9_gapOf_54 rfl (Nat.le_of_ble_eq_true rfl) (Nat.le_of_ble_eq_true rfl) (fun v11 m12 => ?_)
  refine rf_if_eq (tg := 64) (n := 60) dX9_gapOf_57 rfl rfl (fun c22 => ?_) (fun c22 => ?_)
  · refine rf_aload_n (n := 65) 0 dX9_gapOf_64 rfl rfl rfl ?_
    refine rf_getR (n := 68) rr_57_28 kk_74 hG dX9_gapOf_65 flX9_63 ki_9_28 sS_57 kk_57 rfl ?_
    refine rf_iconst (n := 69) (5 : Int32) dX9_gapOf_68 cciconst_5 rfl ?_
    refine rf_aload_n (n := 70) 0 dX9_gapOf_69 rfl rfl rfl ?_
    refine rf_getR (n := 73) rr_57_9 kk_65 hG dX9_gapOf_70 flX9_32 ki_9_9 sS_57 kk_57 rfl ?_
    refine rf_aload_n (n := 74) 0 dX9_gapOf_73 rfl rfl rfl ?_
    refine rf_getR (n := 77) rr_57_15 kk_71 hG dX9_gapOf_74 flX9_50 ki_9_15 sS_57 kk_57 rfl ?_
    refine rf_iload_n (n := 78) 1 dX9_gapOf_77 rfl rfl rfl ?_
    refine rf_iald (n := 79) hG dX9_gapOf_78 sS_71 kk_71 rfl (fun v13 => ?_)
    refine rf_iald (n := 80) hG dX9_gapOf_79 sS_65 kk_65 rfl (fun v14 => ?_)
    refine rf_iadd (n := 81) dX9_gapOf_80 rfl ?_
    refine rf_iald (n := 82) hG dX9_gapOf_81 sS_74 kk_74 rfl (fun v15 => ?_)
    refine rf_i2l (n := 83) dX9_gapOf_82 rfl ?_
    refine rf_aload_n (n := 84) 0 dX9_gapOf_83 rfl rfl rfl ?_
    refine rf_cV0L (n := 87) hG (okX9_periodLong _) lVX9_277 hhX9_periodLong kk_57 sS_57 ⟨_, rfl, rfl⟩ dX9_gapOf_84 rfl (Nat.le_of_ble_eq_true rfl) (Nat.le_of_ble_eq_true rfl) (fun v16 m17 => ?_)
    refine rf_lmul (n := 88) dX9_gapOf_87 rfl ?_
    exact pX9_gapOf_K88 hG _ _ _ _
  · refine rf_lconst (n := 61) (0 : Int64) dX9_gapOf_60 rfl rfl ?_
    refine rf_goto (tg := 88) dX9_gapOf_61 rfl ?_
    exact pX9_gapOf_K88 hG _ _ _ _
def fX9_gap_K24 (s0 : Int64) (μ : ax_M) : Option (Int64 × ax_M) :=
  (some (s0, μ))
theorem pX9_gap_K24 {x : ax_X} {G : ax_G} (hG : ax_ok G) (s0 : Int64) (μ : ax_M) : ax_Rf mX9_gap 2 x (ax_Z ax_jL x G) G 0 0 24 [none, none] [.long s0] μ (fX9_gap_K24 s0 μ) := by
  unfold fX9_gap_K24
  exact rf_retL rfl dX9_gap_24
def fX9_gap (p1 : Int32) (μ : ax_M) : Option (Int64 × ax_M) :=
  (ax_let (ax_wi μ 57 0 (0 : Int32)) (fun m1 => (ax_bd (fX9_isPath p1 m1) (fun v2 m3 => (if v2 = 0 then (fX9_gap_K24 (-9223372036854775808 : Int64) m3) else (ax_bd (fX9_gapOf p1 m3) (fun v4 m5 => (fX9_gap_K24 v4 m5))))))))
theorem okX9_gap (p1 : Int32) (μ : ax_M) : ax_Ok mX9_gap 2 ax_jL [.ref 57, .int p1] μ (fX9_gap p1 μ) := by
  refine ax_start (lc := [some (.ref 57), some (.int p1)]) 0 (by decide +kernel) rfl (Nat.le_of_ble_eq_true rfl) (fun x G hG => ?_)
  unfold fX9_gap
  refine rf_aload_n (n := 1) 0 dX9_gap_0 rfl rfl rfl ?_
  refine rf_iconst (n := 2) (0 : Int32) dX9_gap_1 cciconst_0 rfl ?_
  refine rf_pfI (n := 5) hG rfl dX9_gap_2 flX9_103 ki_9_0 nf_9_0 sS_57 kk_57 rfl (fun m1 => ?_)
  refine rf_aload_n (n := 6) 0 dX9_gap_5 rfl rfl rfl ?_
  refine rf_iload_n (n := 7) 1 dX9_gap_6 rfl rfl rfl ?_
  refine rf_cV1I (n := 10) hG (okX9_isPath _ _) lVX9_265 hhX9_isPath kk_57 sS_57 ⟨_, rfl, rfl⟩ dX9_gap_7 rfl (Nat.le_of_ble_eq_true rfl) (Nat.le_of_ble_eq_true rfl) (fun v2 m3 => ?_)
  refine rf_if_eq (tg := 21) (n := 13) dX9_gap_10 rfl rfl (fun c6 => ?_) (fun c6 => ?_)
  · refine rf_ldc2 (n := 24) dX9_gap_21 clX9_317 rfl ?_
    refine rf_mask (lc2 := [none, none]) [false, false] rfl ?_
    exact pX9_gap_K24 hG _ _
  · refine rf_aload_n (n := 14) 0 dX9_gap_13 rfl rfl rfl ?_
    refine rf_iload_n (n := 15) 1 dX9_gap_14 rfl rfl rfl ?_
    refine rf_cV1L (n := 18) hG (okX9_gapOf _ _) lVX9_331 hhX9_gapOf kk_57 sS_57 ⟨_, rfl, rfl⟩ dX9_gap_15 rfl (Nat.le_of_ble_eq_true rfl) (Nat.le_of_ble_eq_true rfl) (fun v4 m5 => ?_)
    refine rf_goto (tg := 24) dX9_gap_18 rfl ?_
    refine rf_mask (lc2 := [none, none]) [false, false] rfl ?_
    exact pX9_gap_K24 hG _ _
def fJ9_floorDiv_7cf53_K21 (l2 : Int32) (μ : ax_M) : Option (Int32 × ax_M) :=
  (some (l2, μ))
theorem pJ9_floorDiv_7cf53_K21 {x : ax_X} {G : ax_G} (hG : ax_ok G) (l2 : Int32) (μ : ax_M) : ax_Rf mJ9_floorDiv_7cf53 0 x (ax_Z ax_jI x G) G 0 0 21 [none, none, some (.int l2)] [] μ (fJ9_floorDiv_7cf53_K21 l2 μ) := by
  unfold fJ9_floorDiv_7cf53_K21
  refine rf_iload_n (n := 22) 2 dJ9_floorDiv_7cf53_21 rfl rfl rfl ?_
  exact rf_retI rfl dJ9_floorDiv_7cf53_22
def fJ9_floorDiv_7cf53 (p0 : Int32) (p1 : Int32) (μ : ax_M) : Option (Int32 × ax_M) :=
  (Option.bind (ax_dv p0 p1) (fun v1 => (if 0 ≤ (p0 ^^^ p1) then (fJ9_floorDiv_7cf53_K21 v1 μ) else (if (v1 * p1) = p0 then (fJ9_floorDiv_7cf53_K21 v1 μ) else (some ((v1 - (1 : Int32)), μ))))))
theorem okJ9_floorDiv_7cf53 (p0 : Int32) (p1 : Int32) (μ : ax_M) : ax_Ok mJ9_floorDiv_7cf53 0 ax_jI [.int p0, .int p1] μ (fJ9_floorDiv_7cf53 p0 p1 μ) := by
  refine ax_startF (lc := [some (.int p0), some (.int p1), none]) 1 (by decide +kernel) rfl (Nat.le_of_ble_eq_true rfl) (fun x G hG => ?_)
  unfold fJ9_floorDiv_7cf53
  refine rf_iload_n (n := 1) 0 dJ9_floorDiv_7cf53_0 rfl rfl rfl ?_
  refine rf_iload_n (n := 2) 1 dJ9_floorDiv_7cf53_1 rfl rfl rfl ?_
  refine rf_idiv (n := 3) dJ9_floorDiv_7cf53_2 rfl (fun v1 => ?_)
  refine rf_istore_n (lc2 := [some (.int p0), some (.int p1), some (.int v1)]) (n := 4) 2 dJ9_floorDiv_7cf53_3 rfl rfl (Nat.le_of_ble_eq_true rfl) rfl rfl ?_
  refine rf_iload_n (n := 5) 0 dJ9_floorDiv_7cf53_4 rfl rfl rfl ?_
  refine rf_iload_n (n := 6) 1 dJ9_floorDiv_7cf53_5 rfl rfl rfl ?_
  refine rf_ixor (n := 7) dJ9_floorDiv_7cf53_6 rfl ?_
  refine rf_if_ge (tg := 21) (n := 10) dJ9_floorDiv_7cf53_7 rfl rfl (fun c3 => ?_) (fun c3 => ?_)
  · refine rf_mask (lc2 := [none, none, some (.int v1)]) [false, false, true] rfl ?_
    exact pJ9_floorDiv_7cf53_K21 hG _ _
  · refine rf_iload_n (n := 11) 2 dJ9_floorDiv_7cf53_10 rfl rfl rfl ?_
    refine rf_iload_n (n := 12) 1 dJ9_floorDiv_7cf53_11 rfl rfl rfl ?_
    refine rf_imul (n := 13) dJ9_floorDiv_7cf53_12 rfl ?_
    refine rf_iload_n (n := 14) 0 dJ9_floorDiv_7cf53_13 rfl rfl rfl ?_
    refine rf_icmp_eq (tg := 21) (n := 17) dJ9_floorDiv_7cf53_14 rfl rfl (fun c2 => ?_) (fun c2 => ?_)
    · refine rf_mask (lc2 := [none, none, some (.int v1)]) [false, false, true] rfl ?_
      exact pJ9_floorDiv_7cf53_K21 hG _ _
    · refine rf_iload_n (n := 18) 2 dJ9_floorDiv_7cf53_17 rfl rfl rfl ?_
      refine rf_iconst (n := 19) (1 : Int32) dJ9_floorDiv_7cf53_18 cciconst_1 rfl ?_
      refine rf_isub (n := 20) dJ9_floorDiv_7cf53_19 rfl ?_
      exact rf_retI rfl dJ9_floorDiv_7cf53_20
def fX8_roundedUp (p0 : Int32) (p1 : Int32) (μ : ax_M) : Option (Int32 × ax_M) :=
  (ax_bd (fJ9_floorDiv_7cf53 (-p0) (ax_mx p1 (1 : Int32)) μ) (fun v1 m2 => (some ((-v1), m2))))
theorem okX8_roundedUp (p0 : Int32) (p1 : Int32) (μ : ax_M) : ax_Ok mX8_roundedUp 1 ax_jI [.int p0, .int p1] μ (fX8_roundedUp p0 p1 μ) := by
  refine ax_start (lc := [some (.int p0), some (.int p1)]) 0 (by decide +kernel) rfl (Nat.le_of_ble_eq_true rfl) (fun x G hG => ?_)
  unfold fX8_roundedUp
  refine rf_iload_n (n := 1) 0 dX8_roundedUp_0 rfl rfl rfl ?_
  refine rf_ineg (n := 2) dX8_roundedUp_1 rfl ?_
  refine rf_iload_n (n := 3) 1 dX8_roundedUp_2 rfl rfl rfl ?_
  refine rf_iconst (n := 4) (1 : Int32) dX8_roundedUp_3 cciconst_1 rfl ?_
  refine rf_max (n := 7) dX8_roundedUp_4 mxX8_338 ax_maxw (Nat.le_of_ble_eq_true rfl) (Nat.le_of_ble_eq_true rfl) rfl ?_
  refine rf_cS2I (n := 10) hG (okJ9_floorDiv_7cf53 _ _ _) lSX8_343 hhJ9_floorDiv_7cf53 dX8_roundedUp_7 rfl (Nat.le_of_ble_eq_true rfl) (Nat.le_of_ble_eq_true rfl) (fun v1 m2 => ?_)
  refine rf_ineg (n := 11) dX8_roundedUp_10 rfl ?_
  exact rf_retI rfl dX8_roundedUp_11
def fX1_padOf (p1 : Int32) (μ : ax_M) : Option (Int32 × ax_M) :=
  (ax_bd (fX1_gapOf p1 μ) (fun v1 m2 => (ax_bd (fX8_roundedUp (-v1) (64 : Int32) m2) (fun v3 m4 => (some ((ax_mx v3 (0 : Int32)), m4))))))
theorem okX1_padOf (p1 : Int32) (μ : ax_M) : ax_Ok mX1_padOf 2 ax_jI [.ref 2, .int p1] μ (fX1_padOf p1 μ) := by
  refine ax_start (lc := [some (.ref 2), some (.int p1)]) 0 (by decide +kernel) rfl (Nat.le_of_ble_eq_true rfl) (fun x G hG => ?_)
  unfold fX1_padOf
  refine rf_aload_n (n := 1) 0 dX1_padOf_0 rfl rfl rfl ?_
  refine rf_iload_n (n := 2) 1 dX1_padOf_1 rfl rfl rfl ?_
  refine rf_cV1I (n := 5) hG (okX1_gapOf _ _) lVX1_103 hhX1_gapOf kk_2 sS_2 ⟨_, rfl, rfl⟩ dX1_padOf_2 rfl (Nat.le_of_ble_eq_true rfl) (Nat.le_of_ble_eq_true rfl) (fun v1 m2 => ?_)
  refine rf_ineg (n := 6) dX1_padOf_5 rfl ?_
  refine rf_bipush (n := 8) (64 : Int32) dX1_padOf_6 ccbipush_64 rfl ?_
  refine rf_cN2I (n := 11) hG (okX8_roundedUp _ _ _) lNX1_106 hhX8_roundedUp dX1_padOf_8 rfl (Nat.le_of_ble_eq_true rfl) (Nat.le_of_ble_eq_true rfl) (fun v3 m4 => ?_)
  refine rf_iconst (n := 12) (0 : Int32) dX1_padOf_11 cciconst_0 rfl ?_
  refine rf_max (n := 15) dX1_padOf_12 mxX1_90 ax_maxw (Nat.le_of_ble_eq_true rfl) (Nat.le_of_ble_eq_true rfl) rfl ?_
  exact rf_retI rfl dX1_padOf_15
def fX8_pad_K23 (s0 : Int32) (μ : ax_M) : Option (Int32 × ax_M) :=
  (some (s0, μ))
theorem pX8_pad_K23 {x : ax_X} {G : ax_G} (hG : ax_ok G) (s0 : Int32) (μ : ax_M) : ax_Rf mX8_pad 3 x (ax_Z ax_jI x G) G 0 0 23 [none, none] [.int s0] μ (fX8_pad_K23 s0 μ) := by
  unfold fX8_pad_K23
  exact rf_retI rfl dX8_pad_23
def fX8_pad (p1 : Int32) (μ : ax_M) : Option (Int32 × ax_M) :=
  (ax_bd (fX1_hasPath p1 μ) (fun v1 m2 => (if v1 = 0 then (fX8_pad_K23 (-1 : Int32) m2) else (ax_bd (fX1_padOf p1 m2) (fun v3 m4 => (fX8_pad_K23 v3 m4))))))
theorem okX8_pad (p1 : Int32) (μ : ax_M) : ax_Ok mX8_pad 3 ax_jI [.ref 0, .int p1] μ (fX8_pad p1 μ) := by
  refine ax_start (lc := [some (.ref 0), some (.int p1)]) 0 (by decide +kernel) rfl (Nat.le_of_ble_eq_true rfl) (fun x G hG => ?_)
  unfold fX8_pad
  refine rf_aload_n (n := 1) 0 dX8_pad_0 rfl rfl rfl ?_
  refine rf_getR (n := 4) rr_0_2 kk_2 hG dX8_pad_1 flX8_16 ki_8_2 sS_0 kk_0 rfl ?_
  refine rf_iload_n (n := 5) 1 dX8_pad_4 rfl rfl rfl ?_
  refine rf_cV1I (n := 8) hG (okX1_hasPath _ _) lVX8_143 hhX1_hasPath kk_2 sS_2 ⟨_, rfl, rfl⟩ dX8_pad_5 rfl (Nat.le_of_ble_eq_true rfl) (Nat.le_of_ble_eq_true rfl) (fun v1 m2 => ?_)
  refine rf_if_eq (tg := 22) (n := 11) dX8_pad_8 rfl rfl (fun c5 => ?_) (fun c5 => ?_)
  · refine rf_iconst (n := 23) (-1 : Int32) dX8_pad_22 cciconst_m1 rfl ?_
    refine rf_mask (lc2 := [none, none]) [false, false] rfl ?_
    exact pX8_pad_K23 hG _ _
  · refine rf_aload_n (n := 12) 0 dX8_pad_11 rfl rfl rfl ?_
    refine rf_getR (n := 15) rr_0_2 kk_2 hG dX8_pad_12 flX8_16 ki_8_2 sS_0 kk_0 rfl ?_
    refine rf_iload_n (n := 16) 1 dX8_pad_15 rfl rfl rfl ?_
    refine rf_cV1I (n := 19) hG (okX1_padOf _ _) lVX8_250 hhX1_padOf kk_2 sS_2 ⟨_, rfl, rfl⟩ dX8_pad_16 rfl (Nat.le_of_ble_eq_true rfl) (Nat.le_of_ble_eq_true rfl) (fun v3 m4 => ?_)
    refine rf_goto (tg := 23) dX8_pad_19 rfl ?_
    refine rf_mask (lc2 := [none, none]) [false, false] rfl ?_
    exact pX8_pad_K23 hG _ _
def fX9_padOf_K26 (s0 : Int32) (μ : ax_M) : Option (Int32 × ax_M) :=
  (some (s0, μ))
theorem pX9_padOf_K26 {x : ax_X} {G : ax_G} (hG : ax_ok G) (s0 : Int32) (μ : ax_M) : ax_Rf mX9_padOf 2 x (ax_Z ax_jI x G) G 0 0 26 [none, none, none, none] [.int s0] μ (fX9_padOf_K26 s0 μ) := by
  unfold fX9_padOf_K26
  exact rf_retI rfl dX9_padOf_26
def fX9_padOf (p1 : Int32) (μ : ax_M) : Option (Int32 × ax_M) :=
  (ax_bd (fX9_gapOf p1 μ) (fun v1 m2 => (if (lg_cmp v1 (0 : Int64)) < 0 then (Option.bind (ax_dl ((63 : Int64) - v1) (64 : Int64)) (fun v3 => (fX9_padOf_K26 (Int64.toInt32 v3) m2))) else (fX9_padOf_K26 (0 : Int32) m2))))
theorem okX9_padOf (p1 : Int32) (μ : ax_M) : ax_Ok mX9_padOf 2 ax_jI [.ref 57, .int p1] μ (fX9_padOf p1 μ) := by
  refine ax_start (lc := [some (.ref 57), some (.int p1), none, none]) 2 (by decide +kernel) rfl (Nat.le_of_ble_eq_true rfl) (fun x G hG => ?_)
  unfold fX9_padOf
  refine rf_aload_n (n := 1) 0 dX9_padOf_0 rfl rfl rfl ?_
  refine rf_iload_n (n := 2) 1 dX9_padOf_1 rfl rfl rfl ?_
  refine rf_cV1L (n := 5) hG (okX9_gapOf _ _) lVX9_331 hhX9_gapOf kk_57 sS_57 ⟨_, rfl, rfl⟩ dX9_padOf_2 rfl (Nat.le_of_ble_eq_true rfl) (Nat.le_of_ble_eq_true rfl) (fun v1 m2 => ?_)
  refine rf_lstore_n (lc2 := [some (.ref 57), some (.int p1), some (.long v1), none]) (n := 6) 2 dX9_padOf_5 rfl rfl (Nat.le_of_ble_eq_true rfl) rfl rfl ?_
  refine rf_lload_n (n := 7) 2 dX9_padOf_6 rfl rfl rfl ?_
  refine rf_lconst (n := 8) (0 : Int64) dX9_padOf_7 rfl rfl ?_
  refine rf_lcmp (n := 9) dX9_padOf_8 rfl ?_
  refine rf_if_lt (tg := 16) (n := 12) dX9_padOf_9 rfl rfl (fun c4 => ?_) (fun c4 => ?_)
  · refine rf_ldc2 (n := 19) dX9_padOf_16 clX9_335 rfl ?_
    refine rf_lload_n (n := 20) 2 dX9_padOf_19 rfl rfl rfl ?_
    refine rf_lsub (n := 21) dX9_padOf_20 rfl ?_
    refine rf_ldc2 (n := 24) dX9_padOf_21 clX9_275 rfl ?_
    refine rf_ldiv (n := 25) dX9_padOf_24 rfl (fun v3 => ?_)
    refine rf_l2i (n := 26) dX9_padOf_25 rfl ?_
    refine rf_mask (lc2 := [none, none, none, none]) [false, false, false, true] rfl ?_
    exact pX9_padOf_K26 hG _ _
  · refine rf_iconst (n := 13) (0 : Int32) dX9_padOf_12 cciconst_0 rfl ?_
    refine rf_goto (tg := 26) dX9_padOf_13 rfl ?_
    refine rf_mask (lc2 := [none, none, none, none]) [false, false, false, true] rfl ?_
    exact pX9_padOf_K26 hG _ _
def fX9_pad_K22 (s0 : Int32) (μ : ax_M) : Option (Int32 × ax_M) :=
  (some (s0, μ))
theorem pX9_pad_K22 {x : ax_X} {G : ax_G} (hG : ax_ok G) (s0 : Int32) (μ : ax_M) : ax_Rf mX9_pad 3 x (ax_Z ax_jI x G) G 0 0 22 [none, none] [.int s0] μ (fX9_pad_K22 s0 μ) := by
  unfold fX9_pad_K22
  exact rf_retI rfl dX9_pad_22
def fX9_pad (p1 : Int32) (μ : ax_M) : Option (Int32 × ax_M) :=
  (ax_let (ax_wi μ 57 0 (0 : Int32)) (fun m1 => (ax_bd (fX9_isPath p1 m1) (fun v2 m3 => (if v2 = 0 then (fX9_pad_K22 (-1 : Int32) m3) else (ax_bd (fX9_padOf p1 m3) (fun v4 m5 => (fX9_pad_K22 v4 m5))))))))
theorem okX9_pad (p1 : Int32) (μ : ax_M) : ax_Ok mX9_pad 3 ax_jI [.ref 57, .int p1] μ (fX9_pad p1 μ) := by
  refine ax_start (lc := [some (.ref 57), some (.int p1)]) 0 (by decide +kernel) rfl (Nat.le_of_ble_eq_true rfl) (fun x G hG => ?_)
  unfold fX9_pad
  refine rf_aload_n (n := 1) 0 dX9_pad_0 rfl rfl rfl ?_
  refine rf_iconst (n := 2) (0 : Int32) dX9_pad_1 cciconst_0 rfl ?_
  refine rf_pfI (n := 5) hG rfl dX9_pad_2 flX9_103 ki_9_0 nf_9_0 sS_57 kk_57 rfl (fun m1 => ?_)
  refine rf_aload_n (n := 6) 0 dX9_pad_5 rfl rfl rfl ?_
  refine rf_iload_n (n := 7) 1 dX9_pad_6 rfl rfl rfl ?_
  refine rf_cV1I (n := 10) hG (okX9_isPath _ _) lVX9_265 hhX9_isPath kk_57 sS_57 ⟨_, rfl, rfl⟩ dX9_pad_7 rfl (Nat.le_of_ble_eq_true rfl) (Nat.le_of_ble_eq_true rfl) (fun v2 m3 => ?_)
  refine rf_if_eq (tg := 21) (n := 13) dX9_pad_10 rfl rfl (fun c6 => ?_) (fun c6 => ?_)
  · refine rf_iconst (n := 22) (-1 : Int32) dX9_pad_21 cciconst_m1 rfl ?_
    refine rf_mask (lc2 := [none, none]) [false, false] rfl ?_
    exact pX9_pad_K22 hG _ _
  · refine rf_aload_n (n := 14) 0 dX9_pad_13 rfl rfl rfl ?_
    refine rf_iload_n (n := 15) 1 dX9_pad_14 rfl rfl rfl ?_
    refine rf_cV1I (n := 18) hG (okX9_padOf _ _) lVX9_337 hhX9_padOf kk_57 sS_57 ⟨_, rfl, rfl⟩ dX9_pad_15 rfl (Nat.le_of_ble_eq_true rfl) (Nat.le_of_ble_eq_true rfl) (fun v4 m5 => ?_)
    refine rf_goto (tg := 22) dX9_pad_18 rfl ?_
    refine rf_mask (lc2 := [none, none]) [false, false] rfl ?_
    exact pX9_pad_K22 hG _ _
def fX8_pads_B4 (r4 : Int32 → Int32 → ax_M → Option (Int32 × ax_M)) (l1 : Int32) (l2 : Int32) (μ : ax_M) : Option (Int32 × ax_M) :=
  (if (μ.1 2 14) ≤ l2 then (some (l1, μ)) else (ax_bd (fX1_padOf l2 μ) (fun v1 m2 => (ax_let (l1 + v1) (fun v3 => (r4 v3 (l2 + (1 : Int32)) m2))))))
theorem pX8_pads_B4 {x : ax_X} {G : ax_G} (hG : ax_ok G) (r4 : Int32 → Int32 → ax_M → Option (Int32 × ax_M)) (hr4 : ∀ (a1 : Int32) (a2 : Int32) (μ : ax_M), ax_Rf mX8_pads 3 x (ax_Z ax_jI x G) G 0 0 4 [some (.ref 0), some (.int a1), some (.int a2)] [] μ (r4 a1 a2 μ)) (l1 : Int32) (l2 : Int32) (μ : ax_M) : ax_Rf mX8_pads 3 x (ax_Z ax_jI x G) G 0 0 4 [some (.ref 0), some (.int l1), some (.int l2)] [] μ (fX8_pads_B4 r4 l1 l2 μ) := by
  unfold fX8_pads_B4
  refine rf_iload_n (n := 5) 2 dX8_pads_4 rfl rfl rfl ?_
  refine rf_aload_n (n := 6) 0 dX8_pads_5 rfl rfl rfl ?_
  refine rf_getR (n := 9) rr_0_2 kk_2 hG dX8_pads_6 flX8_16 ki_8_2 sS_0 kk_0 rfl ?_
  refine rf_getI (n := 12) hG dX8_pads_9 flX8_197 ki_1_14 sS_2 kk_2 rfl ?_
  refine rf_icmp_ge (tg := 32) (n := 15) dX8_pads_12 rfl rfl (fun c4 => ?_) (fun c4 => ?_)
  · refine rf_iload_n (n := 33) 1 dX8_pads_32 rfl rfl rfl ?_
    exact rf_retI rfl dX8_pads_33
  · refine rf_iload_n (n := 16) 1 dX8_pads_15 rfl rfl rfl ?_
    refine rf_aload_n (n := 17) 0 dX8_pads_16 rfl rfl rfl ?_
    refine rf_getR (n := 20) rr_0_2 kk_2 hG dX8_pads_17 flX8_16 ki_8_2 sS_0 kk_0 rfl ?_
    refine rf_iload_n (n := 21) 2 dX8_pads_20 rfl rfl rfl ?_
    refine rf_cV1I (n := 24) hG (okX1_padOf _ _) lVX8_250 hhX1_padOf kk_2 sS_2 ⟨_, rfl, rfl⟩ dX8_pads_21 rfl (Nat.le_of_ble_eq_true rfl) (Nat.le_of_ble_eq_true rfl) (fun v1 m2 => ?_)
    refine rf_iadd (n := 25) dX8_pads_24 rfl ?_
    refine rf_letI (fun v3 => ?_)
    refine rf_istore_n (lc2 := [some (.ref 0), some (.int v3), some (.int l2)]) (n := 26) 1 dX8_pads_25 rfl rfl (Nat.le_of_ble_eq_true rfl) rfl rfl ?_
    refine rf_iinc (lc2 := [some (.ref 0), some (.int v3), some (.int (l2 + (1 : Int32)))]) (n := 29) (w := (1 : Int32)) 2 dX8_pads_26 rfl rfl rfl (Nat.le_of_ble_eq_true rfl) rfl rfl ?_
    refine rf_goto (tg := 4) dX8_pads_29 rfl ?_
    exact hr4 _ _ _
theorem pX8_pads_L4 {x : ax_X} {G : ax_G} (hG : ax_ok G) (n : Nat) (a1 : Int32) (a2 : Int32) (μ : ax_M) : ax_Rf mX8_pads 3 x (ax_Z ax_jI x G) G 0 0 4 [some (.ref 0), some (.int a1), some (.int a2)] [] μ (ax_lp2 (fX8_pads_B4) n a1 a2 μ) :=
  rf_lp2 (P := fun a1 a2 μ t => ax_Rf mX8_pads 3 x (ax_Z ax_jI x G) G 0 0 4 [some (.ref 0), some (.int a1), some (.int a2)] [] μ t) (fun _ _ _ => rf_none) (fun rc hrc a1 a2 μ => pX8_pads_B4 hG rc hrc a1 a2 μ) n a1 a2 μ
def fX8_pads (μ : ax_M) : Option (Int32 × ax_M) :=
  (ax_lp2 (fX8_pads_B4) ax_FU (0 : Int32) (0 : Int32) μ)
theorem okX8_pads (μ : ax_M) : ax_Ok mX8_pads 3 ax_jI [.ref 0] μ (fX8_pads μ) := by
  refine ax_start (lc := [some (.ref 0), none, none]) 2 (by decide +kernel) rfl (Nat.le_of_ble_eq_true rfl) (fun x G hG => ?_)
  unfold fX8_pads
  refine rf_iconst (n := 1) (0 : Int32) dX8_pads_0 cciconst_0 rfl ?_
  refine rf_istore_n (lc2 := [some (.ref 0), some (.int (0 : Int32)), none]) (n := 2) 1 dX8_pads_1 rfl rfl (Nat.le_of_ble_eq_true rfl) rfl rfl ?_
  refine rf_iconst (n := 3) (0 : Int32) dX8_pads_2 cciconst_0 rfl ?_
  refine rf_istore_n (lc2 := [some (.ref 0), some (.int (0 : Int32)), some (.int (0 : Int32))]) (n := 4) 2 dX8_pads_3 rfl rfl (Nat.le_of_ble_eq_true rfl) rfl rfl ?_
  exact pX8_pads_L4 hG _ _ _ _
def fX9_pads_B9 (r9 : Int32 → Int32 → ax_M → Option (Int32 × ax_M)) (l1 : Int32) (l2 : Int32) (μ : ax_M) : Option (Int32 × ax_M) :=
  (ax_bd (fX9_paths μ) (fun v2 m3 => (if v2 ≤ l2 then (some (l1, m3)) else (ax_bd (fX9_padOf l2 m3) (fun v4 m5 => (ax_let (l1 + v4) (fun v6 => (r9 v6 (l2 + (1 : Int32)) m5))))))))
theorem pX9_pads_B9 {x : ax_X} {G : ax_G} (hG : ax_ok G) (r9 : Int32 → Int32 → ax_M → Option (Int32 × ax_M)) (hr9 : ∀ (a1 : Int32) (a2 : Int32) (μ : ax_M), ax_Rf mX9_pads 3 x (ax_Z ax_jI x G) G 0 0 9 [some (.ref 57), some (.int a1), some (.int a2)] [] μ (r9 a1 a2 μ)) (l1 : Int32) (l2 : Int32) (μ : ax_M) : ax_Rf mX9_pads 3 x (ax_Z ax_jI x G) G 0 0 9 [some (.ref 57), some (.int l1), some (.int l2)] [] μ (fX9_pads_B9 r9 l1 l2 μ) := by
  unfold fX9_pads_B9
  refine rf_iload_n (n := 10) 2 dX9_pads_9 rfl rfl rfl ?_
  refine rf_aload_n (n := 11) 0 dX9_pads_10 rfl rfl rfl ?_
  refine rf_cV0I (n := 14) hG (okX9_paths _) lVX9_236 hhX9_paths kk_57 sS_57 ⟨_, rfl, rfl⟩ dX9_pads_11 rfl (Nat.le_of_ble_eq_true rfl) (Nat.le_of_ble_eq_true rfl) (fun v2 m3 => ?_)
  refine rf_icmp_ge (tg := 31) (n := 17) dX9_pads_14 rfl rfl (fun c7 => ?_) (fun c7 => ?_)
  · refine rf_iload_n (n := 32) 1 dX9_pads_31 rfl rfl rfl ?_
    exact rf_retI rfl dX9_pads_32
  · refine rf_iload_n (n := 18) 1 dX9_pads_17 rfl rfl rfl ?_
    refine rf_aload_n (n := 19) 0 dX9_pads_18 rfl rfl rfl ?_
    refine rf_iload_n (n := 20) 2 dX9_pads_19 rfl rfl rfl ?_
    refine rf_cV1I (n := 23) hG (okX9_padOf _ _) lVX9_337 hhX9_padOf kk_57 sS_57 ⟨_, rfl, rfl⟩ dX9_pads_20 rfl (Nat.le_of_ble_eq_true rfl) (Nat.le_of_ble_eq_true rfl) (fun v4 m5 => ?_)
    refine rf_iadd (n := 24) dX9_pads_23 rfl ?_
    refine rf_letI (fun v6 => ?_)
    refine rf_istore_n (lc2 := [some (.ref 57), some (.int v6), some (.int l2)]) (n := 25) 1 dX9_pads_24 rfl rfl (Nat.le_of_ble_eq_true rfl) rfl rfl ?_
    refine rf_iinc (lc2 := [some (.ref 57), some (.int v6), some (.int (l2 + (1 : Int32)))]) (n := 28) (w := (1 : Int32)) 2 dX9_pads_25 rfl rfl rfl (Nat.le_of_ble_eq_true rfl) rfl rfl ?_
    refine rf_goto (tg := 9) dX9_pads_28 rfl ?_
    exact hr9 _ _ _
theorem pX9_pads_L9 {x : ax_X} {G : ax_G} (hG : ax_ok G) (n : Nat) (a1 : Int32) (a2 : Int32) (μ : ax_M) : ax_Rf mX9_pads 3 x (ax_Z ax_jI x G) G 0 0 9 [some (.ref 57), some (.int a1), some (.int a2)] [] μ (ax_lp2 (fX9_pads_B9) n a1 a2 μ) :=
  rf_lp2 (P := fun a1 a2 μ t => ax_Rf mX9_pads 3 x (ax_Z ax_jI x G) G 0 0 9 [some (.ref 57), some (.int a1), some (.int a2)] [] μ t) (fun _ _ _ => rf_none) (fun rc hrc a1 a2 μ => pX9_pads_B9 hG rc hrc a1 a2 μ) n a1 a2 μ
def fX9_pads (μ : ax_M) : Option (Int32 × ax_M) :=
  (ax_let (ax_wi μ 57 0 (0 : Int32)) (fun m1 => (ax_lp2 (fX9_pads_B9) ax_FU (0 : Int32) (0 : Int32) m1)))
theorem okX9_pads (μ : ax_M) : ax_Ok mX9_pads 3 ax_jI [.ref 57] μ (fX9_pads μ) := by
  refine ax_start (lc := [some (.ref 57), none, none]) 2 (by decide +kernel) rfl (Nat.le_of_ble_eq_true rfl) (fun x G hG => ?_)
  unfold fX9_pads
  refine rf_aload_n (n := 1) 0 dX9_pads_0 rfl rfl rfl ?_
  refine rf_iconst (n := 2) (0 : Int32) dX9_pads_1 cciconst_0 rfl ?_
  refine rf_pfI (n := 5) hG rfl dX9_pads_2 flX9_103 ki_9_0 nf_9_0 sS_57 kk_57 rfl (fun m1 => ?_)
  refine rf_iconst (n := 6) (0 : Int32) dX9_pads_5 cciconst_0 rfl ?_
  refine rf_istore_n (lc2 := [some (.ref 57), some (.int (0 : Int32)), none]) (n := 7) 1 dX9_pads_6 rfl rfl (Nat.le_of_ble_eq_true rfl) rfl rfl ?_
  refine rf_iconst (n := 8) (0 : Int32) dX9_pads_7 cciconst_0 rfl ?_
  refine rf_istore_n (lc2 := [some (.ref 57), some (.int (0 : Int32)), some (.int (0 : Int32))]) (n := 9) 2 dX9_pads_8 rfl rfl (Nat.le_of_ble_eq_true rfl) rfl rfl ?_
  exact pX9_pads_L9 hG _ _ _ _
def fX1_weighPaths_1_B2 (r2 : Int32 → ax_M → Option (Unit × ax_M)) (l2 : Int32) (μ : ax_M) : Option (Unit × ax_M) :=
  (if (μ.1 2 14) ≤ l2 then (some ((), μ)) else (ax_bd (fX1_delayOf l2 μ) (fun v1 m2 => (ax_bd (fX1_shiftOf l2 m2) (fun v3 m4 => (Option.bind (ax_wr m4 38 24 l2 (v1 - (v3 * (m4.1 2 16)))) (fun m5 => (r2 (l2 + (1 : Int32)) m5))))))))
theorem pX1_weighPaths_1_B2 {x : ax_X} {G : ax_G} (hG : ax_ok G) (r2 : Int32 → ax_M → Option (Unit × ax_M)) (hr2 : ∀ (a2 : Int32) (μ : ax_M), ax_Rf mX1_weighPaths 1 x (ax_Z ax_jV x G) G 0 0 2 [some (.ref 2), some (.ref 38), some (.int a2)] [] μ (r2 a2 μ)) (l2 : Int32) (μ : ax_M) : ax_Rf mX1_weighPaths 1 x (ax_Z ax_jV x G) G 0 0 2 [some (.ref 2), some (.ref 38), some (.int l2)] [] μ (fX1_weighPaths_1_B2 r2 l2 μ) := by
  unfold fX1_weighPaths_1_B2
  refine rf_iload_n (n := 3) 2 dX1_weighPaths_2 rfl rfl rfl ?_
  refine rf_aload_n (n := 4) 0 dX1_weighPaths_3 rfl rfl rfl ?_
  refine rf_getI (n := 7) hG dX1_weighPaths_4 flX1_58 ki_1_14 sS_2 kk_2 rfl ?_
  refine rf_icmp_ge (tg := 35) (n := 10) dX1_weighPaths_7 rfl rfl (fun c6 => ?_) (fun c6 => ?_)
  · exact rf_retV rfl dX1_weighPaths_35
  · refine rf_aload_n (n := 11) 1 dX1_weighPaths_10 rfl rfl rfl ?_
    refine rf_iload_n (n := 12) 2 dX1_weighPaths_11 rfl rfl rfl ?_
    refine rf_aload_n (n := 13) 0 dX1_weighPaths_12 rfl rfl rfl ?_
    refine rf_iload_n (n := 14) 2 dX1_weighPaths_13 rfl rfl rfl ?_
    refine rf_cV1I (n := 17) hG (okX1_delayOf _ _) lVX1_76 hhX1_delayOf kk_2 sS_2 ⟨_, rfl, rfl⟩ dX1_weighPaths_14 rfl (Nat.le_of_ble_eq_true rfl) (Nat.le_of_ble_eq_true rfl) (fun v1 m2 => ?_)
    refine rf_aload_n (n := 18) 0 dX1_weighPaths_17 rfl rfl rfl ?_
    refine rf_iload_n (n := 19) 2 dX1_weighPaths_18 rfl rfl rfl ?_
    refine rf_cV1I (n := 22) hG (okX1_shiftOf _ _) lVX1_80 hhX1_shiftOf kk_2 sS_2 ⟨_, rfl, rfl⟩ dX1_weighPaths_19 rfl (Nat.le_of_ble_eq_true rfl) (Nat.le_of_ble_eq_true rfl) (fun v3 m4 => ?_)
    refine rf_aload_n (n := 23) 0 dX1_weighPaths_22 rfl rfl rfl ?_
    refine rf_getI (n := 26) hG dX1_weighPaths_23 flX1_48 ki_1_16 sS_2 kk_2 rfl ?_
    refine rf_imul (n := 27) dX1_weighPaths_26 rfl ?_
    refine rf_isub (n := 28) dX1_weighPaths_27 rfl ?_
    refine rf_iast (n := 29) hG dX1_weighPaths_28 sS_38 kk_38 rfl (fun m5 => ?_)
    refine rf_iinc (lc2 := [some (.ref 2), some (.ref 38), some (.int (l2 + (1 : Int32)))]) (n := 32) (w := (1 : Int32)) 2 dX1_weighPaths_29 rfl rfl rfl (Nat.le_of_ble_eq_true rfl) rfl rfl ?_
    refine rf_goto (tg := 2) dX1_weighPaths_32 rfl ?_
    exact hr2 _ _
theorem pX1_weighPaths_1_L2 {x : ax_X} {G : ax_G} (hG : ax_ok G) (n : Nat) (a2 : Int32) (μ : ax_M) : ax_Rf mX1_weighPaths 1 x (ax_Z ax_jV x G) G 0 0 2 [some (.ref 2), some (.ref 38), some (.int a2)] [] μ (ax_lp1 (fX1_weighPaths_1_B2) n a2 μ) :=
  rf_lp1 (P := fun a2 μ t => ax_Rf mX1_weighPaths 1 x (ax_Z ax_jV x G) G 0 0 2 [some (.ref 2), some (.ref 38), some (.int a2)] [] μ t) (fun _ _ => rf_none) (fun rc hrc a2 μ => pX1_weighPaths_1_B2 hG rc hrc a2 μ) n a2 μ
def fX1_weighPaths_1 (μ : ax_M) : Option (Unit × ax_M) :=
  (ax_lp1 (fX1_weighPaths_1_B2) ax_FU (0 : Int32) μ)
theorem okX1_weighPaths_1 (μ : ax_M) : ax_Ok mX1_weighPaths 1 ax_jV [.ref 2, .ref 38] μ (fX1_weighPaths_1 μ) := by
  refine ax_start (lc := [some (.ref 2), some (.ref 38), none]) 1 (by decide +kernel) rfl (Nat.le_of_ble_eq_true rfl) (fun x G hG => ?_)
  unfold fX1_weighPaths_1
  refine rf_iconst (n := 1) (0 : Int32) dX1_weighPaths_0 cciconst_0 rfl ?_
  refine rf_istore_n (lc2 := [some (.ref 2), some (.ref 38), some (.int (0 : Int32))]) (n := 2) 2 dX1_weighPaths_1 rfl rfl (Nat.le_of_ble_eq_true rfl) rfl rfl ?_
  exact pX1_weighPaths_1_L2 hG _ _ _
def fJ7_fill_53178_2_B5 (l1 : Int32) (l3 : Int32) (r5 : Int32 → ax_M → Option (Unit × ax_M)) (l2 : Int32) (μ : ax_M) : Option (Unit × ax_M) :=
  (if l3 ≤ l2 then (some ((), μ)) else (Option.bind (ax_wr μ 39 10 l2 l1) (fun m1 => (r5 (l2 + (1 : Int32)) m1))))
theorem pJ7_fill_53178_2_B5 {x : ax_X} {G : ax_G} (hG : ax_ok G) (l1 : Int32) (l3 : Int32) (r5 : Int32 → ax_M → Option (Unit × ax_M)) (hr5 : ∀ (a2 : Int32) (μ : ax_M), ax_Rf mJ7_fill_53178 0 x (ax_Z ax_jV x G) G 0 0 5 [some (.ref 39), some (.int l1), some (.int a2), some (.int l3)] [] μ (r5 a2 μ)) (l2 : Int32) (μ : ax_M) : ax_Rf mJ7_fill_53178 0 x (ax_Z ax_jV x G) G 0 0 5 [some (.ref 39), some (.int l1), some (.int l2), some (.int l3)] [] μ (fJ7_fill_53178_2_B5 l1 l3 r5 l2 μ) := by
  unfold fJ7_fill_53178_2_B5
  refine rf_iload_n (n := 6) 2 dJ7_fill_53178_5 rfl rfl rfl ?_
  refine rf_iload_n (n := 7) 3 dJ7_fill_53178_6 rfl rfl rfl ?_
  refine rf_icmp_ge (tg := 20) (n := 10) dJ7_fill_53178_7 rfl rfl (fun c2 => ?_) (fun c2 => ?_)
  · exact rf_retV rfl dJ7_fill_53178_20
  · refine rf_aload_n (n := 11) 0 dJ7_fill_53178_10 rfl rfl rfl ?_
    refine rf_iload_n (n := 12) 2 dJ7_fill_53178_11 rfl rfl rfl ?_
    refine rf_iload_n (n := 13) 1 dJ7_fill_53178_12 rfl rfl rfl ?_
    refine rf_iast (n := 14) hG dJ7_fill_53178_13 sS_39 kk_39 rfl (fun m1 => ?_)
    refine rf_iinc (lc2 := [some (.ref 39), some (.int l1), some (.int (l2 + (1 : Int32))), some (.int l3)]) (n := 17) (w := (1 : Int32)) 2 dJ7_fill_53178_14 rfl rfl rfl (Nat.le_of_ble_eq_true rfl) rfl rfl ?_
    refine rf_goto (tg := 5) dJ7_fill_53178_17 rfl ?_
    exact hr5 _ _
theorem pJ7_fill_53178_2_L5 {x : ax_X} {G : ax_G} (hG : ax_ok G) (l1 : Int32) (l3 : Int32) (n : Nat) (a2 : Int32) (μ : ax_M) : ax_Rf mJ7_fill_53178 0 x (ax_Z ax_jV x G) G 0 0 5 [some (.ref 39), some (.int l1), some (.int a2), some (.int l3)] [] μ (ax_lp1 (fJ7_fill_53178_2_B5 l1 l3) n a2 μ) :=
  rf_lp1 (P := fun a2 μ t => ax_Rf mJ7_fill_53178 0 x (ax_Z ax_jV x G) G 0 0 5 [some (.ref 39), some (.int l1), some (.int a2), some (.int l3)] [] μ t) (fun _ _ => rf_none) (fun rc hrc a2 μ => pJ7_fill_53178_2_B5 hG l1 l3 rc hrc a2 μ) n a2 μ
def fJ7_fill_53178_2 (p1 : Int32) (μ : ax_M) : Option (Unit × ax_M) :=
  (ax_lp1 (fJ7_fill_53178_2_B5 p1 (10 : Int32)) ax_FU (0 : Int32) μ)
theorem okJ7_fill_53178_2 (p1 : Int32) (μ : ax_M) : ax_Ok mJ7_fill_53178 0 ax_jV [.ref 39, .int p1] μ (fJ7_fill_53178_2 p1 μ) := by
  refine ax_start (lc := [some (.ref 39), some (.int p1), none, none]) 2 (by decide +kernel) rfl (Nat.le_of_ble_eq_true rfl) (fun x G hG => ?_)
  unfold fJ7_fill_53178_2
  refine rf_iconst (n := 1) (0 : Int32) dJ7_fill_53178_0 cciconst_0 rfl ?_
  refine rf_istore_n (lc2 := [some (.ref 39), some (.int p1), some (.int (0 : Int32)), none]) (n := 2) 2 dJ7_fill_53178_1 rfl rfl (Nat.le_of_ble_eq_true rfl) rfl rfl ?_
  refine rf_aload_n (n := 3) 0 dJ7_fill_53178_2 rfl rfl rfl ?_
  refine rf_alen1 (n := 4) (v := (10 : Int32)) hG dJ7_fill_53178_3 sS_39 rfl kk_39 rfl ?_
  refine rf_istore_n (lc2 := [some (.ref 39), some (.int p1), some (.int (0 : Int32)), some (.int (10 : Int32))]) (n := 5) 3 dJ7_fill_53178_4 rfl rfl (Nat.le_of_ble_eq_true rfl) rfl rfl ?_
  exact pJ7_fill_53178_2_L5 hG _ _ _ _ _
def fX7_rest (μ : ax_M) : Option (Unit × ax_M) :=
  (ax_bd (fX1_weighPaths_1 μ) (fun _ m2 => (ax_bd (fJ7_fill_53178_2 (0 : Int32) m2) (fun _ m4 => (some ((), m4))))))
theorem okX7_rest (μ : ax_M) : ax_Ok mX7_rest 2 ax_jV [.ref 37] μ (fX7_rest μ) := by
  refine ax_start (lc := [some (.ref 37)]) 0 (by decide +kernel) rfl (Nat.le_of_ble_eq_true rfl) (fun x G hG => ?_)
  unfold fX7_rest
  refine rf_aload_n (n := 1) 0 dX7_rest_0 rfl rfl rfl ?_
  refine rf_getR (n := 4) rr_37_0 kk_2 hG dX7_rest_1 flX7_21 ki_7_0 sS_37 kk_37 rfl ?_
  refine rf_aload_n (n := 5) 0 dX7_rest_4 rfl rfl rfl ?_
  refine rf_getR (n := 8) rr_37_1 kk_38 hG dX7_rest_5 flX7_9 ki_7_1 sS_37 kk_37 rfl ?_
  refine rf_cV1V (n := 11) hG (okX1_weighPaths_1 _) lVX7_25 hhX1_weighPaths kk_2 sS_2 ⟨_, rfl, rfl⟩ dX7_rest_8 rfl (Nat.le_of_ble_eq_true rfl) (Nat.le_of_ble_eq_true rfl) (fun _ m2 => ?_)
  refine rf_aload_n (n := 12) 0 dX7_rest_11 rfl rfl rfl ?_
  refine rf_getR (n := 15) rr_37_2 kk_39 hG dX7_rest_12 flX7_15 ki_7_2 sS_37 kk_37 rfl ?_
  refine rf_iconst (n := 16) (0 : Int32) dX7_rest_15 cciconst_0 rfl ?_
  refine rf_cS2V (n := 19) hG (okJ7_fill_53178_2 _ _) lSX7_31 hhJ7_fill_53178 dX7_rest_16 rfl (Nat.le_of_ble_eq_true rfl) (Nat.le_of_ble_eq_true rfl) (fun _ m4 => ?_)
  exact rf_retV rfl dX7_rest_19
def fJ7_fill_53178_3_B5 (l1 : Int32) (l3 : Int32) (r5 : Int32 → ax_M → Option (Unit × ax_M)) (l2 : Int32) (μ : ax_M) : Option (Unit × ax_M) :=
  (if l3 ≤ l2 then (some ((), μ)) else (Option.bind (ax_wr μ 40 10 l2 l1) (fun m1 => (r5 (l2 + (1 : Int32)) m1))))
theorem pJ7_fill_53178_3_B5 {x : ax_X} {G : ax_G} (hG : ax_ok G) (l1 : Int32) (l3 : Int32) (r5 : Int32 → ax_M → Option (Unit × ax_M)) (hr5 : ∀ (a2 : Int32) (μ : ax_M), ax_Rf mJ7_fill_53178 0 x (ax_Z ax_jV x G) G 0 0 5 [some (.ref 40), some (.int l1), some (.int a2), some (.int l3)] [] μ (r5 a2 μ)) (l2 : Int32) (μ : ax_M) : ax_Rf mJ7_fill_53178 0 x (ax_Z ax_jV x G) G 0 0 5 [some (.ref 40), some (.int l1), some (.int l2), some (.int l3)] [] μ (fJ7_fill_53178_3_B5 l1 l3 r5 l2 μ) := by
  unfold fJ7_fill_53178_3_B5
  refine rf_iload_n (n := 6) 2 dJ7_fill_53178_5 rfl rfl rfl ?_
  refine rf_iload_n (n := 7) 3 dJ7_fill_53178_6 rfl rfl rfl ?_
  refine rf_icmp_ge (tg := 20) (n := 10) dJ7_fill_53178_7 rfl rfl (fun c2 => ?_) (fun c2 => ?_)
  · exact rf_retV rfl dJ7_fill_53178_20
  · refine rf_aload_n (n := 11) 0 dJ7_fill_53178_10 rfl rfl rfl ?_
    refine rf_iload_n (n := 12) 2 dJ7_fill_53178_11 rfl rfl rfl ?_
    refine rf_iload_n (n := 13) 1 dJ7_fill_53178_12 rfl rfl rfl ?_
    refine rf_iast (n := 14) hG dJ7_fill_53178_13 sS_40 kk_40 rfl (fun m1 => ?_)
    refine rf_iinc (lc2 := [some (.ref 40), some (.int l1), some (.int (l2 + (1 : Int32))), some (.int l3)]) (n := 17) (w := (1 : Int32)) 2 dJ7_fill_53178_14 rfl rfl rfl (Nat.le_of_ble_eq_true rfl) rfl rfl ?_
    refine rf_goto (tg := 5) dJ7_fill_53178_17 rfl ?_
    exact hr5 _ _
theorem pJ7_fill_53178_3_L5 {x : ax_X} {G : ax_G} (hG : ax_ok G) (l1 : Int32) (l3 : Int32) (n : Nat) (a2 : Int32) (μ : ax_M) : ax_Rf mJ7_fill_53178 0 x (ax_Z ax_jV x G) G 0 0 5 [some (.ref 40), some (.int l1), some (.int a2), some (.int l3)] [] μ (ax_lp1 (fJ7_fill_53178_3_B5 l1 l3) n a2 μ) :=
  rf_lp1 (P := fun a2 μ t => ax_Rf mJ7_fill_53178 0 x (ax_Z ax_jV x G) G 0 0 5 [some (.ref 40), some (.int l1), some (.int a2), some (.int l3)] [] μ t) (fun _ _ => rf_none) (fun rc hrc a2 μ => pJ7_fill_53178_3_B5 hG l1 l3 rc hrc a2 μ) n a2 μ
def fJ7_fill_53178_3 (p1 : Int32) (μ : ax_M) : Option (Unit × ax_M) :=
  (ax_lp1 (fJ7_fill_53178_3_B5 p1 (10 : Int32)) ax_FU (0 : Int32) μ)
theorem okJ7_fill_53178_3 (p1 : Int32) (μ : ax_M) : ax_Ok mJ7_fill_53178 0 ax_jV [.ref 40, .int p1] μ (fJ7_fill_53178_3 p1 μ) := by
  refine ax_start (lc := [some (.ref 40), some (.int p1), none, none]) 2 (by decide +kernel) rfl (Nat.le_of_ble_eq_true rfl) (fun x G hG => ?_)
  unfold fJ7_fill_53178_3
  refine rf_iconst (n := 1) (0 : Int32) dJ7_fill_53178_0 cciconst_0 rfl ?_
  refine rf_istore_n (lc2 := [some (.ref 40), some (.int p1), some (.int (0 : Int32)), none]) (n := 2) 2 dJ7_fill_53178_1 rfl rfl (Nat.le_of_ble_eq_true rfl) rfl rfl ?_
  refine rf_aload_n (n := 3) 0 dJ7_fill_53178_2 rfl rfl rfl ?_
  refine rf_alen1 (n := 4) (v := (10 : Int32)) hG dJ7_fill_53178_3 sS_40 rfl kk_40 rfl ?_
  refine rf_istore_n (lc2 := [some (.ref 40), some (.int p1), some (.int (0 : Int32)), some (.int (10 : Int32))]) (n := 5) 3 dJ7_fill_53178_4 rfl rfl (Nat.le_of_ble_eq_true rfl) rfl rfl ?_
  exact pJ7_fill_53178_3_L5 hG _ _ _ _ _
def fX1_gather_1_K107 (l4 : Int32) (r62 : Int32 → ax_M → Option (Unit × ax_M)) (μ : ax_M) : Option (Unit × ax_M) :=
  (r62 (l4 + (1 : Int32)) μ)
theorem pX1_gather_1_K107 {x : ax_X} {G : ax_G} (hG : ax_ok G) (l4 : Int32) (r62 : Int32 → ax_M → Option (Unit × ax_M)) (hr62 : ∀ (a4 : Int32) (μ : ax_M), ax_Rf mX1_gather 1 x (ax_Z ax_jV x G) G 0 0 62 [some (.ref 2), none, none, some (.ref 40), some (.int a4)] [] μ (r62 a4 μ)) (μ : ax_M) : ax_Rf mX1_gather 1 x (ax_Z ax_jV x G) G 0 0 107 [some (.ref 2), none, none, some (.ref 40), some (.int l4)] [] μ (fX1_gather_1_K107 l4 r62 μ) := by
  unfold fX1_gather_1_K107
  refine rf_iinc (lc2 := [some (.ref 2), none, none, some (.ref 40), some (.int (l4 + (1 : Int32)))]) (n := 110) (w := (1 : Int32)) 4 dX1_gather_107 rfl rfl rfl (Nat.le_of_ble_eq_true rfl) rfl rfl ?_
  refine rf_goto (tg := 62) dX1_gather_110 rfl ?_
  exact hr62 _ _
def fX1_gather_1_K106 (l4 : Int32) (s1 : Int32) (s2 : Int32) (r62 : Int32 → ax_M → Option (Unit × ax_M)) (μ : ax_M) : Option (Unit × ax_M) :=
  (Option.bind (ax_wr μ 40 10 s1 s2) (fun m6 => (fX1_gather_1_K107 l4 r62 m6)))
theorem pX1_gather_1_K106 {x : ax_X} {G : ax_G} (hG : ax_ok G) (l4 : Int32) (s1 : Int32) (s2 : Int32) (r62 : Int32 → ax_M → Option (Unit × ax_M)) (hr62 : ∀ (a4 : Int32) (μ : ax_M), ax_Rf mX1_gather 1 x (ax_Z ax_jV x G) G 0 0 62 [some (.ref 2), none, none, some (.ref 40), some (.int a4)] [] μ (r62 a4 μ)) (μ : ax_M) : ax_Rf mX1_gather 1 x (ax_Z ax_jV x G) G 0 0 106 [some (.ref 2), none, none, some (.ref 40), some (.int l4)] [.int s2, .int s1, .ref 40] μ (fX1_gather_1_K106 l4 s1 s2 r62 μ) := by
  unfold fX1_gather_1_K106
  refine rf_iast (n := 107) hG dX1_gather_106 sS_40 kk_40 rfl (fun m6 => ?_)
  exact pX1_gather_1_K107 hG _ r62 hr62 _
def fX1_gather_1_B62 (r62 : Int32 → ax_M → Option (Unit × ax_M)) (l4 : Int32) (μ : ax_M) : Option (Unit × ax_M) :=
  (if (μ.1 2 13) ≤ l4 then (some ((), μ)) else (Option.bind (ax_rd μ 40 10 l4) (fun v3 => (if v3 = (-2147483648 : Int32) then (ax_bd (fX1_isFlop l4 μ) (fun v4 m5 => (if v4 = 0 then (fX1_gather_1_K106 l4 l4 (0 : Int32) r62 m5) else (Option.bind (ax_rd m5 8 10 l4) (fun v7 => (fX1_gather_1_K106 l4 l4 ((-64 : Int32) * v7) r62 m5)))))) else (fX1_gather_1_K107 l4 r62 μ)))))
theorem pX1_gather_1_B62 {x : ax_X} {G : ax_G} (hG : ax_ok G) (r62 : Int32 → ax_M → Option (Unit × ax_M)) (hr62 : ∀ (a4 : Int32) (μ : ax_M), ax_Rf mX1_gather 1 x (ax_Z ax_jV x G) G 0 0 62 [some (.ref 2), none, none, some (.ref 40), some (.int a4)] [] μ (r62 a4 μ)) (l4 : Int32) (μ : ax_M) : ax_Rf mX1_gather 1 x (ax_Z ax_jV x G) G 0 0 62 [some (.ref 2), none, none, some (.ref 40), some (.int l4)] [] μ (fX1_gather_1_B62 r62 l4 μ) := by
  unfold fX1_gather_1_B62
  refine rf_iload (n := 64) 4 dX1_gather_62 rfl rfl ?_
  refine rf_aload_n (n := 65) 0 dX1_gather_64 rfl rfl rfl ?_
  refine rf_getI (n := 68) hG dX1_gather_65 flX1_55 ki_1_13 sS_2 kk_2 rfl ?_
  refine rf_icmp_ge (tg := 113) (n := 71) dX1_gather_68 rfl rfl (fun c10 => ?_) (fun c10 => ?_)
  · exact rf_retV rfl dX1_gather_113
  · refine rf_aload_n (n := 72) 3 dX1_gather_71 rfl rfl rfl ?_
    refine rf_iload (n := 74) 4 dX1_gather_72 rfl rfl ?_
    refine rf_iald (n := 75) hG dX1_gather_74 sS_40 kk_40 rfl (fun v3 => ?_)
    refine rf_ldc (n := 77) dX1_gather_75 ctX1_83 rfl ?_
    refine rf_icmp_ne (tg := 107) (n := 80) dX1_gather_77 rfl rfl (fun c9 => ?_) (fun c9 => ?_)
    · exact pX1_gather_1_K107 hG _ r62 hr62 _
    · refine rf_aload_n (n := 81) 3 dX1_gather_80 rfl rfl rfl ?_
      refine rf_iload (n := 83) 4 dX1_gather_81 rfl rfl ?_
      refine rf_aload_n (n := 84) 0 dX1_gather_83 rfl rfl rfl ?_
      refine rf_iload (n := 86) 4 dX1_gather_84 rfl rfl ?_
      refine rf_cV1I (n := 89) hG (okX1_isFlop _ _) lVX1_96 hhX1_isFlop kk_2 sS_2 ⟨_, rfl, rfl⟩ dX1_gather_86 rfl (Nat.le_of_ble_eq_true rfl) (Nat.le_of_ble_eq_true rfl) (fun v4 m5 => ?_)
      refine rf_if_eq (tg := 105) (n := 92) dX1_gather_89 rfl rfl (fun c8 => ?_) (fun c8 => ?_)
      · refine rf_iconst (n := 106) (0 : Int32) dX1_gather_105 cciconst_0 rfl ?_
        exact pX1_gather_1_K106 hG _ _ _ r62 hr62 _
      · refine rf_bipush (n := 94) (-64 : Int32) dX1_gather_92 ccbipush_m64 rfl ?_
        refine rf_aload_n (n := 95) 0 dX1_gather_94 rfl rfl rfl ?_
        refine rf_getR (n := 98) rr_2_5 kk_8 hG dX1_gather_95 flX1_27 ki_1_5 sS_2 kk_2 rfl ?_
        refine rf_iload (n := 100) 4 dX1_gather_98 rfl rfl ?_
        refine rf_iald (n := 101) hG dX1_gather_100 sS_8 kk_8 rfl (fun v7 => ?_)
        refine rf_imul (n := 102) dX1_gather_101 rfl ?_
        refine rf_goto (tg := 106) dX1_gather_102 rfl ?_
        exact pX1_gather_1_K106 hG _ _ _ r62 hr62 _
theorem pX1_gather_1_L62 {x : ax_X} {G : ax_G} (hG : ax_ok G) (n : Nat) (a4 : Int32) (μ : ax_M) : ax_Rf mX1_gather 1 x (ax_Z ax_jV x G) G 0 0 62 [some (.ref 2), none, none, some (.ref 40), some (.int a4)] [] μ (ax_lp1 (fX1_gather_1_B62) n a4 μ) :=
  rf_lp1 (P := fun a4 μ t => ax_Rf mX1_gather 1 x (ax_Z ax_jV x G) G 0 0 62 [some (.ref 2), none, none, some (.ref 40), some (.int a4)] [] μ t) (fun _ _ => rf_none) (fun rc hrc a4 μ => pX1_gather_1_B62 hG rc hrc a4 μ) n a4 μ
def fX1_gather_1_B9 (r9 : Int32 → ax_M → Option (Unit × ax_M)) (l4 : Int32) (μ : ax_M) : Option (Unit × ax_M) :=
  (if (μ.1 2 14) ≤ l4 then (ax_lp1 (fX1_gather_1_B62) ax_FU (0 : Int32) μ) else (Option.bind (ax_rd μ 12 24 l4) (fun v11 => (Option.bind (ax_rd μ 12 24 l4) (fun v12 => (Option.bind (ax_rd μ 40 10 v12) (fun v13 => (Option.bind (ax_rd μ 11 24 l4) (fun v14 => (Option.bind (ax_rd μ 39 10 v14) (fun v15 => (Option.bind (ax_rd μ 38 24 l4) (fun v16 => (Option.bind (ax_wr μ 40 10 v11 (ax_mx v13 (v15 + v16))) (fun m17 => (r9 (l4 + (1 : Int32)) m17))))))))))))))))
theorem pX1_gather_1_B9 {x : ax_X} {G : ax_G} (hG : ax_ok G) (r9 : Int32 → ax_M → Option (Unit × ax_M)) (hr9 : ∀ (a4 : Int32) (μ : ax_M), ax_Rf mX1_gather 1 x (ax_Z ax_jV x G) G 0 0 9 [some (.ref 2), some (.ref 39), some (.ref 38), some (.ref 40), some (.int a4)] [] μ (r9 a4 μ)) (l4 : Int32) (μ : ax_M) : ax_Rf mX1_gather 1 x (ax_Z ax_jV x G) G 0 0 9 [some (.ref 2), some (.ref 39), some (.ref 38), some (.ref 40), some (.int l4)] [] μ (fX1_gather_1_B9 r9 l4 μ) := by
  unfold fX1_gather_1_B9
  refine rf_iload (n := 11) 4 dX1_gather_9 rfl rfl ?_
  refine rf_aload_n (n := 12) 0 dX1_gather_11 rfl rfl rfl ?_
  refine rf_getI (n := 15) hG dX1_gather_12 flX1_58 ki_1_14 sS_2 kk_2 rfl ?_
  refine rf_icmp_ge (tg := 59) (n := 18) dX1_gather_15 rfl rfl (fun c18 => ?_) (fun c18 => ?_)
  · refine rf_iconst (n := 60) (0 : Int32) dX1_gather_59 cciconst_0 rfl ?_
    refine rf_istore (lc2 := [some (.ref 2), some (.ref 39), some (.ref 38), some (.ref 40), some (.int (0 : Int32))]) (n := 62) 4 dX1_gather_60 rfl (Nat.le_of_ble_eq_true rfl) rfl rfl ?_
    refine rf_mask (lc2 := [some (.ref 2), none, none, some (.ref 40), some (.int (0 : Int32))]) [true, false, false, true, true] rfl ?_
    exact pX1_gather_1_L62 hG _ _ _
  · refine rf_aload_n (n := 19) 3 dX1_gather_18 rfl rfl rfl ?_
    refine rf_aload_n (n := 20) 0 dX1_gather_19 rfl rfl rfl ?_
    refine rf_getR (n := 23) rr_2_9 kk_12 hG dX1_gather_20 flX1_39 ki_1_9 sS_2 kk_2 rfl ?_
    refine rf_iload (n := 25) 4 dX1_gather_23 rfl rfl ?_
    refine rf_iald (n := 26) hG dX1_gather_25 sS_12 kk_12 rfl (fun v11 => ?_)
    refine rf_aload_n (n := 27) 3 dX1_gather_26 rfl rfl rfl ?_
    refine rf_aload_n (n := 28) 0 dX1_gather_27 rfl rfl rfl ?_
    refine rf_getR (n := 31) rr_2_9 kk_12 hG dX1_gather_28 flX1_39 ki_1_9 sS_2 kk_2 rfl ?_
    refine rf_iload (n := 33) 4 dX1_gather_31 rfl rfl ?_
    refine rf_iald (n := 34) hG dX1_gather_33 sS_12 kk_12 rfl (fun v12 => ?_)
    refine rf_iald (n := 35) hG dX1_gather_34 sS_40 kk_40 rfl (fun v13 => ?_)
    refine rf_aload_n (n := 36) 1 dX1_gather_35 rfl rfl rfl ?_
    refine rf_aload_n (n := 37) 0 dX1_gather_36 rfl rfl rfl ?_
    refine rf_getR (n := 40) rr_2_8 kk_11 hG dX1_gather_37 flX1_36 ki_1_8 sS_2 kk_2 rfl ?_
    refine rf_iload (n := 42) 4 dX1_gather_40 rfl rfl ?_
    refine rf_iald (n := 43) hG dX1_gather_42 sS_11 kk_11 rfl (fun v14 => ?_)
    refine rf_iald (n := 44) hG dX1_gather_43 sS_39 kk_39 rfl (fun v15 => ?_)
    refine rf_aload_n (n := 45) 2 dX1_gather_44 rfl rfl rfl ?_
    refine rf_iload (n := 47) 4 dX1_gather_45 rfl rfl ?_
    refine rf_iald (n := 48) hG dX1_gather_47 sS_38 kk_38 rfl (fun v16 => ?_)
    refine rf_iadd (n := 49) dX1_gather_48 rfl ?_
    refine rf_max (n := 52) dX1_gather_49 mxX1_90 ax_maxw (Nat.le_of_ble_eq_true rfl) (Nat.le_of_ble_eq_true rfl) rfl ?_
    refine rf_iast (n := 53) hG dX1_gather_52 sS_40 kk_40 rfl (fun m17 => ?_)
    refine rf_iinc (lc2 := [some (.ref 2), some (.ref 39), some (.ref 38), some (.ref 40), some (.int (l4 + (1 : Int32)))]) (n := 56) (w := (1 : Int32)) 4 dX1_gather_53 rfl rfl rfl (Nat.le_of_ble_eq_true rfl) rfl rfl ?_
    refine rf_goto (tg := 9) dX1_gather_56 rfl ?_
    exact hr9 _ _
theorem pX1_gather_1_L9 {x : ax_X} {G : ax_G} (hG : ax_ok G) (n : Nat) (a4 : Int32) (μ : ax_M) : ax_Rf mX1_gather 1 x (ax_Z ax_jV x G) G 0 0 9 [some (.ref 2), some (.ref 39), some (.ref 38), some (.ref 40), some (.int a4)] [] μ (ax_lp1 (fX1_gather_1_B9) n a4 μ) :=
  rf_lp1 (P := fun a4 μ t => ax_Rf mX1_gather 1 x (ax_Z ax_jV x G) G 0 0 9 [some (.ref 2), some (.ref 39), some (.ref 38), some (.ref 40), some (.int a4)] [] μ t) (fun _ _ => rf_none) (fun rc hrc a4 μ => pX1_gather_1_B9 hG rc hrc a4 μ) n a4 μ
def fX1_gather_1 (μ : ax_M) : Option (Unit × ax_M) :=
  (ax_bd (fJ7_fill_53178_3 (-2147483648 : Int32) μ) (fun _ m2 => (ax_lp1 (fX1_gather_1_B9) ax_FU (0 : Int32) m2)))
theorem okX1_gather_1 (μ : ax_M) : ax_Ok mX1_gather 1 ax_jV [.ref 2, .ref 39, .ref 38, .ref 40] μ (fX1_gather_1 μ) := by
  refine ax_start (lc := [some (.ref 2), some (.ref 39), some (.ref 38), some (.ref 40), none]) 1 (by decide +kernel) rfl (Nat.le_of_ble_eq_true rfl) (fun x G hG => ?_)
  unfold fX1_gather_1
  refine rf_aload_n (n := 1) 3 dX1_gather_0 rfl rfl rfl ?_
  refine rf_ldc (n := 3) dX1_gather_1 ctX1_83 rfl ?_
  refine rf_cS2V (n := 6) hG (okJ7_fill_53178_3 _ _) lSX1_84 hhJ7_fill_53178 dX1_gather_3 rfl (Nat.le_of_ble_eq_true rfl) (Nat.le_of_ble_eq_true rfl) (fun _ m2 => ?_)
  refine rf_iconst (n := 7) (0 : Int32) dX1_gather_6 cciconst_0 rfl ?_
  refine rf_istore (lc2 := [some (.ref 2), some (.ref 39), some (.ref 38), some (.ref 40), some (.int (0 : Int32))]) (n := 9) 4 dX1_gather_7 rfl (Nat.le_of_ble_eq_true rfl) rfl rfl ?_
  exact pX1_gather_1_L9 hG _ _ _
def fX7_step_K65 (l2 : Int32) (l3 : Int32) (s0 : Int32) (s1 : Int32) (r23 : Int32 → Int32 → ax_M → Option (Int32 × ax_M)) (μ : ax_M) : Option (Int32 × ax_M) :=
  (ax_let (s0 ||| s1) (fun v7 => (Option.bind (ax_wr μ 39 10 l2 l3) (fun m8 => (r23 v7 (l2 + (1 : Int32)) m8)))))
theorem pX7_step_K65 {x : ax_X} {G : ax_G} (hG : ax_ok G) (l2 : Int32) (l3 : Int32) (s0 : Int32) (s1 : Int32) (r23 : Int32 → Int32 → ax_M → Option (Int32 × ax_M)) (hr23 : ∀ (a1 : Int32) (a2 : Int32) (μ : ax_M), ax_Rf mX7_step 2 x (ax_Z ax_jI x G) G 0 0 23 [some (.ref 37), some (.int a1), some (.int a2), none] [] μ (r23 a1 a2 μ)) (μ : ax_M) : ax_Rf mX7_step 2 x (ax_Z ax_jI x G) G 0 0 65 [some (.ref 37), none, some (.int l2), some (.int l3)] [.int s1, .int s0] μ (fX7_step_K65 l2 l3 s0 s1 r23 μ) := by
  unfold fX7_step_K65
  refine rf_ior (n := 66) dX7_step_65 rfl ?_
  refine rf_letI (fun v7 => ?_)
  refine rf_istore_n (lc2 := [some (.ref 37), some (.int v7), some (.int l2), some (.int l3)]) (n := 67) 1 dX7_step_66 rfl rfl (Nat.le_of_ble_eq_true rfl) rfl rfl ?_
  refine rf_aload_n (n := 68) 0 dX7_step_67 rfl rfl rfl ?_
  refine rf_getR (n := 71) rr_37_2 kk_39 hG dX7_step_68 flX7_15 ki_7_2 sS_37 kk_37 rfl ?_
  refine rf_iload_n (n := 72) 2 dX7_step_71 rfl rfl rfl ?_
  refine rf_iload_n (n := 73) 3 dX7_step_72 rfl rfl rfl ?_
  refine rf_iast (n := 74) hG dX7_step_73 sS_39 kk_39 rfl (fun m8 => ?_)
  refine rf_iinc (lc2 := [some (.ref 37), some (.int v7), some (.int (l2 + (1 : Int32))), some (.int l3)]) (n := 77) (w := (1 : Int32)) 2 dX7_step_74 rfl rfl rfl (Nat.le_of_ble_eq_true rfl) rfl rfl ?_
  refine rf_goto (tg := 23) dX7_step_77 rfl ?_
  refine rf_mask (lc2 := [some (.ref 37), some (.int v7), some (.int (l2 + (1 : Int32))), none]) [true, true, true, false] rfl ?_
  exact hr23 _ _ _
def fX7_step_B23 (r23 : Int32 → Int32 → ax_M → Option (Int32 × ax_M)) (l1 : Int32) (l2 : Int32) (μ : ax_M) : Option (Int32 × ax_M) :=
  (if (μ.1 2 13) ≤ l2 then (some (vp_nar .boolean l1, μ)) else (Option.bind (ax_rd μ 40 10 l2) (fun v3 => (ax_bd (fX1_leavesBy l2 v3 μ) (fun v4 m5 => (Option.bind (ax_rd m5 39 10 l2) (fun v6 => (if v4 = v6 then (fX7_step_K65 l2 v4 l1 (0 : Int32) r23 m5) else (fX7_step_K65 l2 v4 l1 (1 : Int32) r23 m5)))))))))
theorem pX7_step_B23 {x : ax_X} {G : ax_G} (hG : ax_ok G) (r23 : Int32 → Int32 → ax_M → Option (Int32 × ax_M)) (hr23 : ∀ (a1 : Int32) (a2 : Int32) (μ : ax_M), ax_Rf mX7_step 2 x (ax_Z ax_jI x G) G 0 0 23 [some (.ref 37), some (.int a1), some (.int a2), none] [] μ (r23 a1 a2 μ)) (l1 : Int32) (l2 : Int32) (μ : ax_M) : ax_Rf mX7_step 2 x (ax_Z ax_jI x G) G 0 0 23 [some (.ref 37), some (.int l1), some (.int l2), none] [] μ (fX7_step_B23 r23 l1 l2 μ) := by
  unfold fX7_step_B23
  refine rf_iload_n (n := 24) 2 dX7_step_23 rfl rfl rfl ?_
  refine rf_aload_n (n := 25) 0 dX7_step_24 rfl rfl rfl ?_
  refine rf_getR (n := 28) rr_37_0 kk_2 hG dX7_step_25 flX7_21 ki_7_0 sS_37 kk_37 rfl ?_
  refine rf_getI (n := 31) hG dX7_step_28 flX7_41 ki_1_13 sS_2 kk_2 rfl ?_
  refine rf_icmp_ge (tg := 80) (n := 34) dX7_step_31 rfl rfl (fun c10 => ?_) (fun c10 => ?_)
  · refine rf_iload_n (n := 81) 1 dX7_step_80 rfl rfl rfl ?_
    exact rf_retZ rfl dX7_step_81
  · refine rf_aload_n (n := 35) 0 dX7_step_34 rfl rfl rfl ?_
    refine rf_getR (n := 38) rr_37_0 kk_2 hG dX7_step_35 flX7_21 ki_7_0 sS_37 kk_37 rfl ?_
    refine rf_iload_n (n := 39) 2 dX7_step_38 rfl rfl rfl ?_
    refine rf_aload_n (n := 40) 0 dX7_step_39 rfl rfl rfl ?_
    refine rf_getR (n := 43) rr_37_3 kk_40 hG dX7_step_40 flX7_18 ki_7_3 sS_37 kk_37 rfl ?_
    refine rf_iload_n (n := 44) 2 dX7_step_43 rfl rfl rfl ?_
    refine rf_iald (n := 45) hG dX7_step_44 sS_40 kk_40 rfl (fun v3 => ?_)
    refine rf_cV2I (n := 48) hG (okX1_leavesBy _ _ _) lVX7_45 hhX1_leavesBy kk_2 sS_2 ⟨_, rfl, rfl⟩ dX7_step_45 rfl (Nat.le_of_ble_eq_true rfl) (Nat.le_of_ble_eq_true rfl) (fun v4 m5 => ?_)
    refine rf_istore_n (lc2 := [some (.ref 37), some (.int l1), some (.int l2), some (.int v4)]) (n := 49) 3 dX7_step_48 rfl rfl (Nat.le_of_ble_eq_true rfl) rfl rfl ?_
    refine rf_iload_n (n := 50) 1 dX7_step_49 rfl rfl rfl ?_
    refine rf_iload_n (n := 51) 3 dX7_step_50 rfl rfl rfl ?_
    refine rf_aload_n (n := 52) 0 dX7_step_51 rfl rfl rfl ?_
    refine rf_getR (n := 55) rr_37_2 kk_39 hG dX7_step_52 flX7_15 ki_7_2 sS_37 kk_37 rfl ?_
    refine rf_iload_n (n := 56) 2 dX7_step_55 rfl rfl rfl ?_
    refine rf_iald (n := 57) hG dX7_step_56 sS_39 kk_39 rfl (fun v6 => ?_)
    refine rf_icmp_eq (tg := 64) (n := 60) dX7_step_57 rfl rfl (fun c9 => ?_) (fun c9 => ?_)
    · refine rf_iconst (n := 65) (0 : Int32) dX7_step_64 cciconst_0 rfl ?_
      refine rf_mask (lc2 := [some (.ref 37), none, some (.int l2), some (.int v4)]) [true, false, true, true] rfl ?_
      exact pX7_step_K65 hG _ _ _ _ r23 hr23 _
    · refine rf_iconst (n := 61) (1 : Int32) dX7_step_60 cciconst_1 rfl ?_
      refine rf_goto (tg := 65) dX7_step_61 rfl ?_
      refine rf_mask (lc2 := [some (.ref 37), none, some (.int l2), some (.int v4)]) [true, false, true, true] rfl ?_
      exact pX7_step_K65 hG _ _ _ _ r23 hr23 _
theorem pX7_step_L23 {x : ax_X} {G : ax_G} (hG : ax_ok G) (n : Nat) (a1 : Int32) (a2 : Int32) (μ : ax_M) : ax_Rf mX7_step 2 x (ax_Z ax_jI x G) G 0 0 23 [some (.ref 37), some (.int a1), some (.int a2), none] [] μ (ax_lp2 (fX7_step_B23) n a1 a2 μ) :=
  rf_lp2 (P := fun a1 a2 μ t => ax_Rf mX7_step 2 x (ax_Z ax_jI x G) G 0 0 23 [some (.ref 37), some (.int a1), some (.int a2), none] [] μ t) (fun _ _ _ => rf_none) (fun rc hrc a1 a2 μ => pX7_step_B23 hG rc hrc a1 a2 μ) n a1 a2 μ
def fX7_step (μ : ax_M) : Option (Int32 × ax_M) :=
  (ax_bd (fX1_gather_1 μ) (fun _ m2 => (ax_lp2 (fX7_step_B23) ax_FU (0 : Int32) (0 : Int32) m2)))
theorem okX7_step (μ : ax_M) : ax_Ok mX7_step 2 ax_jI [.ref 37] μ (fX7_step μ) := by
  refine ax_start (lc := [some (.ref 37), none, none, none]) 3 (by decide +kernel) rfl (Nat.le_of_ble_eq_true rfl) (fun x G hG => ?_)
  unfold fX7_step
  refine rf_aload_n (n := 1) 0 dX7_step_0 rfl rfl rfl ?_
  refine rf_getR (n := 4) rr_37_0 kk_2 hG dX7_step_1 flX7_21 ki_7_0 sS_37 kk_37 rfl ?_
  refine rf_aload_n (n := 5) 0 dX7_step_4 rfl rfl rfl ?_
  refine rf_getR (n := 8) rr_37_2 kk_39 hG dX7_step_5 flX7_15 ki_7_2 sS_37 kk_37 rfl ?_
  refine rf_aload_n (n := 9) 0 dX7_step_8 rfl rfl rfl ?_
  refine rf_getR (n := 12) rr_37_1 kk_38 hG dX7_step_9 flX7_9 ki_7_1 sS_37 kk_37 rfl ?_
  refine rf_aload_n (n := 13) 0 dX7_step_12 rfl rfl rfl ?_
  refine rf_getR (n := 16) rr_37_3 kk_40 hG dX7_step_13 flX7_18 ki_7_3 sS_37 kk_37 rfl ?_
  refine rf_cV3V (n := 19) hG (okX1_gather_1 _) lVX7_37 hhX1_gather kk_2 sS_2 ⟨_, rfl, rfl⟩ dX7_step_16 rfl (Nat.le_of_ble_eq_true rfl) (Nat.le_of_ble_eq_true rfl) (fun _ m2 => ?_)
  refine rf_iconst (n := 20) (0 : Int32) dX7_step_19 cciconst_0 rfl ?_
  refine rf_istore_n (lc2 := [some (.ref 37), some (.int (0 : Int32)), none, none]) (n := 21) 1 dX7_step_20 rfl rfl (Nat.le_of_ble_eq_true rfl) rfl rfl ?_
  refine rf_iconst (n := 22) (0 : Int32) dX7_step_21 cciconst_0 rfl ?_
  refine rf_istore_n (lc2 := [some (.ref 37), some (.int (0 : Int32)), some (.int (0 : Int32)), none]) (n := 23) 2 dX7_step_22 rfl rfl (Nat.le_of_ble_eq_true rfl) rfl rfl ?_
  exact pX7_step_L23 hG _ _ _ _
def fX7_leavesAt_K27 (l1 : Int32) (μ : ax_M) : Option (Int32 × ax_M) :=
  (Option.bind (ax_rd μ 39 10 l1) (fun v3 => (some (v3, μ))))
theorem pX7_leavesAt_K27 {x : ax_X} {G : ax_G} (hG : ax_ok G) (l1 : Int32) (μ : ax_M) : ax_Rf mX7_leavesAt 3 x (ax_Z ax_jI x G) G 0 0 27 [some (.ref 37), some (.int l1), none, none] [] μ (fX7_leavesAt_K27 l1 μ) := by
  unfold fX7_leavesAt_K27
  refine rf_aload_n (n := 28) 0 dX7_leavesAt_27 rfl rfl rfl ?_
  refine rf_getR (n := 31) rr_37_2 kk_39 hG dX7_leavesAt_28 flX7_15 ki_7_2 sS_37 kk_37 rfl ?_
  refine rf_iload_n (n := 32) 1 dX7_leavesAt_31 rfl rfl rfl ?_
  refine rf_iald (n := 33) hG dX7_leavesAt_32 sS_39 kk_39 rfl (fun v3 => ?_)
  exact rf_retI rfl dX7_leavesAt_33
def fX7_leavesAt_B6 (l1 : Int32) (l2 : Int32) (r6 : Int32 → ax_M → Option (Int32 × ax_M)) (l3 : Int32) (μ : ax_M) : Option (Int32 × ax_M) :=
  (if l2 ≤ l3 then (fX7_leavesAt_K27 l1 μ) else (ax_bd (fX7_step μ) (fun v4 m5 => (if v4 = 0 then (fX7_leavesAt_K27 l1 m5) else (r6 (l3 + (1 : Int32)) m5)))))
theorem pX7_leavesAt_B6 {x : ax_X} {G : ax_G} (hG : ax_ok G) (l1 : Int32) (l2 : Int32) (r6 : Int32 → ax_M → Option (Int32 × ax_M)) (hr6 : ∀ (a3 : Int32) (μ : ax_M), ax_Rf mX7_leavesAt 3 x (ax_Z ax_jI x G) G 0 0 6 [some (.ref 37), some (.int l1), some (.int l2), some (.int a3)] [] μ (r6 a3 μ)) (l3 : Int32) (μ : ax_M) : ax_Rf mX7_leavesAt 3 x (ax_Z ax_jI x G) G 0 0 6 [some (.ref 37), some (.int l1), some (.int l2), some (.int l3)] [] μ (fX7_leavesAt_B6 l1 l2 r6 l3 μ) := by
  unfold fX7_leavesAt_B6
  refine rf_iload_n (n := 7) 3 dX7_leavesAt_6 rfl rfl rfl ?_
  refine rf_iload_n (n := 8) 2 dX7_leavesAt_7 rfl rfl rfl ?_
  refine rf_icmp_ge (tg := 27) (n := 11) dX7_leavesAt_8 rfl rfl (fun c7 => ?_) (fun c7 => ?_)
  · refine rf_mask (lc2 := [some (.ref 37), some (.int l1), none, none]) [true, true, false, false] rfl ?_
    exact pX7_leavesAt_K27 hG _ _
  · refine rf_aload_n (n := 12) 0 dX7_leavesAt_11 rfl rfl rfl ?_
    refine rf_cV0I (n := 15) hG (okX7_step _) lVX7_52 hhX7_step kk_37 sS_37 ⟨_, rfl, rfl⟩ dX7_leavesAt_12 rfl (Nat.le_of_ble_eq_true rfl) (Nat.le_of_ble_eq_true rfl) (fun v4 m5 => ?_)
    refine rf_if_ne (tg := 21) (n := 18) dX7_leavesAt_15 rfl rfl (fun c6 => ?_) (fun c6 => ?_)
    · refine rf_iinc (lc2 := [some (.ref 37), some (.int l1), some (.int l2), some (.int (l3 + (1 : Int32)))]) (n := 24) (w := (1 : Int32)) 3 dX7_leavesAt_21 rfl rfl rfl (Nat.le_of_ble_eq_true rfl) rfl rfl ?_
      refine rf_goto (tg := 6) dX7_leavesAt_24 rfl ?_
      exact hr6 _ _
    · refine rf_goto (tg := 27) dX7_leavesAt_18 rfl ?_
      refine rf_mask (lc2 := [some (.ref 37), some (.int l1), none, none]) [true, true, false, false] rfl ?_
      exact pX7_leavesAt_K27 hG _ _
theorem pX7_leavesAt_L6 {x : ax_X} {G : ax_G} (hG : ax_ok G) (l1 : Int32) (l2 : Int32) (n : Nat) (a3 : Int32) (μ : ax_M) : ax_Rf mX7_leavesAt 3 x (ax_Z ax_jI x G) G 0 0 6 [some (.ref 37), some (.int l1), some (.int l2), some (.int a3)] [] μ (ax_lp1 (fX7_leavesAt_B6 l1 l2) n a3 μ) :=
  rf_lp1 (P := fun a3 μ t => ax_Rf mX7_leavesAt 3 x (ax_Z ax_jI x G) G 0 0 6 [some (.ref 37), some (.int l1), some (.int l2), some (.int a3)] [] μ t) (fun _ _ => rf_none) (fun rc hrc a3 μ => pX7_leavesAt_B6 hG l1 l2 rc hrc a3 μ) n a3 μ
def fX7_leavesAt (p1 : Int32) (p2 : Int32) (μ : ax_M) : Option (Int32 × ax_M) :=
  (ax_bd (fX7_rest μ) (fun _ m2 => (ax_lp1 (fX7_leavesAt_B6 p1 p2) ax_FU (0 : Int32) m2)))
theorem okX7_leavesAt (p1 : Int32) (p2 : Int32) (μ : ax_M) : ax_Ok mX7_leavesAt 3 ax_jI [.ref 37, .int p1, .int p2] μ (fX7_leavesAt p1 p2 μ) := by
  refine ax_start (lc := [some (.ref 37), some (.int p1), some (.int p2), none]) 1 (by decide +kernel) rfl (Nat.le_of_ble_eq_true rfl) (fun x G hG => ?_)
  unfold fX7_leavesAt
  refine rf_aload_n (n := 1) 0 dX7_leavesAt_0 rfl rfl rfl ?_
  refine rf_cV0V (n := 4) hG (okX7_rest _) lVX7_49 hhX7_rest kk_37 sS_37 ⟨_, rfl, rfl⟩ dX7_leavesAt_1 rfl (Nat.le_of_ble_eq_true rfl) (Nat.le_of_ble_eq_true rfl) (fun _ m2 => ?_)
  refine rf_iconst (n := 5) (0 : Int32) dX7_leavesAt_4 cciconst_0 rfl ?_
  refine rf_istore_n (lc2 := [some (.ref 37), some (.int p1), some (.int p2), some (.int (0 : Int32))]) (n := 6) 3 dX7_leavesAt_5 rfl rfl (Nat.le_of_ble_eq_true rfl) rfl rfl ?_
  exact pX7_leavesAt_L6 hG _ _ _ _ _
def fX8_wave_K22 (μ : ax_M) : Option (Int64 × ax_M) :=
  (some ((-9223372036854775808 : Int64), μ))
theorem pX8_wave_K22 {x : ax_X} {G : ax_G} (hG : ax_ok G) (μ : ax_M) : ax_Rf mX8_wave 4 x (ax_Z ax_jL x G) G 0 0 22 [none, none, none] [] μ (fX8_wave_K22 μ) := by
  unfold fX8_wave_K22
  refine rf_ldc2 (n := 25) dX8_wave_22 clX8_225 rfl ?_
  exact rf_retL rfl dX8_wave_25
def fX8_wave (p1 : Int32) (p2 : Int32) (μ : ax_M) : Option (Int64 × ax_M) :=
  (ax_bd (fX1_hasCell p1 μ) (fun v1 m2 => (if v1 = 0 then (fX8_wave_K22 m2) else (if p2 < 0 then (fX8_wave_K22 m2) else (if p2 ≤ (200 : Int32) then (ax_bd (fX7_leavesAt p1 p2 m2) (fun v3 m4 => (some ((Int32.toInt64 v3), m4)))) else (fX8_wave_K22 m2))))))
theorem okX8_wave (p1 : Int32) (p2 : Int32) (μ : ax_M) : ax_Ok mX8_wave 4 ax_jL [.ref 0, .int p1, .int p2] μ (fX8_wave p1 p2 μ) := by
  refine ax_start (lc := [some (.ref 0), some (.int p1), some (.int p2)]) 0 (by decide +kernel) rfl (Nat.le_of_ble_eq_true rfl) (fun x G hG => ?_)
  unfold fX8_wave
  refine rf_aload_n (n := 1) 0 dX8_wave_0 rfl rfl rfl ?_
  refine rf_getR (n := 4) rr_0_2 kk_2 hG dX8_wave_1 flX8_16 ki_8_2 sS_0 kk_0 rfl ?_
  refine rf_iload_n (n := 5) 1 dX8_wave_4 rfl rfl rfl ?_
  refine rf_cV1I (n := 8) hG (okX1_hasCell _ _) lVX8_152 hhX1_hasCell kk_2 sS_2 ⟨_, rfl, rfl⟩ dX8_wave_5 rfl (Nat.le_of_ble_eq_true rfl) (Nat.le_of_ble_eq_true rfl) (fun v1 m2 => ?_)
  refine rf_if_eq (tg := 22) (n := 11) dX8_wave_8 rfl rfl (fun c7 => ?_) (fun c7 => ?_)
  · refine rf_mask (lc2 := [none, none, none]) [false, false, false] rfl ?_
    exact pX8_wave_K22 hG _
  · refine rf_iload_n (n := 12) 2 dX8_wave_11 rfl rfl rfl ?_
    refine rf_if_lt (tg := 22) (n := 15) dX8_wave_12 rfl rfl (fun c6 => ?_) (fun c6 => ?_)
    · refine rf_mask (lc2 := [none, none, none]) [false, false, false] rfl ?_
      exact pX8_wave_K22 hG _
    · refine rf_iload_n (n := 16) 2 dX8_wave_15 rfl rfl rfl ?_
      refine rf_sipush (n := 19) (200 : Int32) dX8_wave_16 ccsipush_200 rfl ?_
      refine rf_icmp_le (tg := 26) (n := 22) dX8_wave_19 rfl rfl (fun c5 => ?_) (fun c5 => ?_)
      · refine rf_aload_n (n := 27) 0 dX8_wave_26 rfl rfl rfl ?_
        refine rf_getR (n := 30) rr_0_6 kk_37 hG dX8_wave_27 flX8_48 ki_8_6 sS_0 kk_0 rfl ?_
        refine rf_iload_n (n := 31) 1 dX8_wave_30 rfl rfl rfl ?_
        refine rf_iload_n (n := 32) 2 dX8_wave_31 rfl rfl rfl ?_
        refine rf_cV2I (n := 35) hG (okX7_leavesAt _ _ _) lVX8_253 hhX7_leavesAt kk_37 sS_37 ⟨_, rfl, rfl⟩ dX8_wave_32 rfl (Nat.le_of_ble_eq_true rfl) (Nat.le_of_ble_eq_true rfl) (fun v3 m4 => ?_)
        refine rf_i2l (n := 36) dX8_wave_35 rfl ?_
        exact rf_retL rfl dX8_wave_36
      · refine rf_mask (lc2 := [none, none, none]) [false, false, false] rfl ?_
        exact pX8_wave_K22 hG _
def fX9_wave_K24 (μ : ax_M) : Option (Int64 × ax_M) :=
  (some ((-9223372036854775808 : Int64), μ))
theorem pX9_wave_K24 {x : ax_X} {G : ax_G} (hG : ax_ok G) (μ : ax_M) : ax_Rf mX9_wave 4 x (ax_Z ax_jL x G) G 0 0 24 [none, none, none, none] [] μ (fX9_wave_K24 μ) := by
  unfold fX9_wave_K24
  refine rf_ldc2 (n := 27) dX9_wave_24 clX9_317 rfl ?_
  exact rf_retL rfl dX9_wave_27
def fX9_wave_B34 (l1 : Int32) (l2 : Int32) (r34 : Int32 → ax_M → Option (Int64 × ax_M)) (l3 : Int32) (μ : ax_M) : Option (Int64 × ax_M) :=
  (if l2 ≤ l3 then (Option.bind (ax_rl μ 76 10 l1) (fun v6 => (some (v6, μ)))) else (ax_bd (fX9_round μ) (fun _ m8 => (r34 (l3 + (1 : Int32)) m8))))
theorem pX9_wave_B34 {x : ax_X} {G : ax_G} (hG : ax_ok G) (l1 : Int32) (l2 : Int32) (r34 : Int32 → ax_M → Option (Int64 × ax_M)) (hr34 : ∀ (a3 : Int32) (μ : ax_M), ax_Rf mX9_wave 4 x (ax_Z ax_jL x G) G 0 0 34 [some (.ref 57), some (.int l1), some (.int l2), some (.int a3)] [] μ (r34 a3 μ)) (l3 : Int32) (μ : ax_M) : ax_Rf mX9_wave 4 x (ax_Z ax_jL x G) G 0 0 34 [some (.ref 57), some (.int l1), some (.int l2), some (.int l3)] [] μ (fX9_wave_B34 l1 l2 r34 l3 μ) := by
  unfold fX9_wave_B34
  refine rf_iload_n (n := 35) 3 dX9_wave_34 rfl rfl rfl ?_
  refine rf_iload_n (n := 36) 2 dX9_wave_35 rfl rfl rfl ?_
  refine rf_icmp_ge (tg := 49) (n := 39) dX9_wave_36 rfl rfl (fun c9 => ?_) (fun c9 => ?_)
  · refine rf_aload_n (n := 50) 0 dX9_wave_49 rfl rfl rfl ?_
    refine rf_getR (n := 53) rr_57_32 kk_76 hG dX9_wave_50 flX9_69 ki_9_32 sS_57 kk_57 rfl ?_
    refine rf_iload_n (n := 54) 1 dX9_wave_53 rfl rfl rfl ?_
    refine rf_lald (n := 55) hG dX9_wave_54 sS_76 kk_76 rfl (fun v6 => ?_)
    exact rf_retL rfl dX9_wave_55
  · refine rf_aload_n (n := 40) 0 dX9_wave_39 rfl rfl rfl ?_
    refine rf_cV0V (n := 43) hG (okX9_round _) lVX9_296 hhX9_round kk_57 sS_57 ⟨_, rfl, rfl⟩ dX9_wave_40 rfl (Nat.le_of_ble_eq_true rfl) (Nat.le_of_ble_eq_true rfl) (fun _ m8 => ?_)
    refine rf_iinc (lc2 := [some (.ref 57), some (.int l1), some (.int l2), some (.int (l3 + (1 : Int32)))]) (n := 46) (w := (1 : Int32)) 3 dX9_wave_43 rfl rfl rfl (Nat.le_of_ble_eq_true rfl) rfl rfl ?_
    refine rf_goto (tg := 34) dX9_wave_46 rfl ?_
    exact hr34 _ _
theorem pX9_wave_L34 {x : ax_X} {G : ax_G} (hG : ax_ok G) (l1 : Int32) (l2 : Int32) (n : Nat) (a3 : Int32) (μ : ax_M) : ax_Rf mX9_wave 4 x (ax_Z ax_jL x G) G 0 0 34 [some (.ref 57), some (.int l1), some (.int l2), some (.int a3)] [] μ (ax_lp1 (fX9_wave_B34 l1 l2) n a3 μ) :=
  rf_lp1 (P := fun a3 μ t => ax_Rf mX9_wave 4 x (ax_Z ax_jL x G) G 0 0 34 [some (.ref 57), some (.int l1), some (.int l2), some (.int a3)] [] μ t) (fun _ _ => rf_none) (fun rc hrc a3 μ => pX9_wave_B34 hG l1 l2 rc hrc a3 μ) n a3 μ
def fX9_wave (p1 : Int32) (p2 : Int32) (μ : ax_M) : Option (Int64 × ax_M) :=
  (ax_let (ax_wi μ 57 0 (0 : Int32)) (fun m1 => (ax_bd (fX9_isCell p1 m1) (fun v2 m3 => (if v2 = 0 then (fX9_wave_K24 m3) else (if p2 < 0 then (fX9_wave_K24 m3) else (if p2 ≤ (200 : Int32) then (ax_bd (fX9_rest m3) (fun _ m5 => (ax_lp1 (fX9_wave_B34 p1 p2) ax_FU (0 : Int32) m5))) else (fX9_wave_K24 m3))))))))
theorem okX9_wave (p1 : Int32) (p2 : Int32) (μ : ax_M) : ax_Ok mX9_wave 4 ax_jL [.ref 57, .int p1, .int p2] μ (fX9_wave p1 p2 μ) := by
  refine ax_start (lc := [some (.ref 57), some (.int p1), some (.int p2), none]) 1 (by decide +kernel) rfl (Nat.le_of_ble_eq_true rfl) (fun x G hG => ?_)
  unfold fX9_wave
  refine rf_aload_n (n := 1) 0 dX9_wave_0 rfl rfl rfl ?_
  refine rf_iconst (n := 2) (0 : Int32) dX9_wave_1 cciconst_0 rfl ?_
  refine rf_pfI (n := 5) hG rfl dX9_wave_2 flX9_103 ki_9_0 nf_9_0 sS_57 kk_57 rfl (fun m1 => ?_)
  refine rf_aload_n (n := 6) 0 dX9_wave_5 rfl rfl rfl ?_
  refine rf_iload_n (n := 7) 1 dX9_wave_6 rfl rfl rfl ?_
  refine rf_cV1I (n := 10) hG (okX9_isCell _ _) lVX9_252 hhX9_isCell kk_57 sS_57 ⟨_, rfl, rfl⟩ dX9_wave_7 rfl (Nat.le_of_ble_eq_true rfl) (Nat.le_of_ble_eq_true rfl) (fun v2 m3 => ?_)
  refine rf_if_eq (tg := 24) (n := 13) dX9_wave_10 rfl rfl (fun c12 => ?_) (fun c12 => ?_)
  · refine rf_mask (lc2 := [none, none, none, none]) [false, false, false, true] rfl ?_
    exact pX9_wave_K24 hG _
  · refine rf_iload_n (n := 14) 2 dX9_wave_13 rfl rfl rfl ?_
    refine rf_if_lt (tg := 24) (n := 17) dX9_wave_14 rfl rfl (fun c11 => ?_) (fun c11 => ?_)
    · refine rf_mask (lc2 := [none, none, none, none]) [false, false, false, true] rfl ?_
      exact pX9_wave_K24 hG _
    · refine rf_iload_n (n := 18) 2 dX9_wave_17 rfl rfl rfl ?_
      refine rf_sipush (n := 21) (200 : Int32) dX9_wave_18 ccsipush_200 rfl ?_
      refine rf_icmp_le (tg := 28) (n := 24) dX9_wave_21 rfl rfl (fun c10 => ?_) (fun c10 => ?_)
      · refine rf_aload_n (n := 29) 0 dX9_wave_28 rfl rfl rfl ?_
        refine rf_cV0V (n := 32) hG (okX9_rest _) lVX9_293 hhX9_rest kk_57 sS_57 ⟨_, rfl, rfl⟩ dX9_wave_29 rfl (Nat.le_of_ble_eq_true rfl) (Nat.le_of_ble_eq_true rfl) (fun _ m5 => ?_)
        refine rf_iconst (n := 33) (0 : Int32) dX9_wave_32 cciconst_0 rfl ?_
        refine rf_istore_n (lc2 := [some (.ref 57), some (.int p1), some (.int p2), some (.int (0 : Int32))]) (n := 34) 3 dX9_wave_33 rfl rfl (Nat.le_of_ble_eq_true rfl) rfl rfl ?_
        exact pX9_wave_L34 hG _ _ _ _ _
      · refine rf_mask (lc2 := [none, none, none, none]) [false, false, false, true] rfl ?_
        exact pX9_wave_K24 hG _
def fX7_firstUnmet_K50 (μ : ax_M) : Option (Int32 × ax_M) :=
  (some ((-2 : Int32), μ))
theorem pX7_firstUnmet_K50 {x : ax_X} {G : ax_G} (hG : ax_ok G) (μ : ax_M) : ax_Rf mX7_firstUnmet 3 x (ax_Z ax_jI x G) G 0 0 50 [none, none, none, none] [] μ (fX7_firstUnmet_K50 μ) := by
  unfold fX7_firstUnmet_K50
  refine rf_bipush (n := 52) (-2 : Int32) dX7_firstUnmet_50 ccbipush_m2 rfl ?_
  exact rf_retI rfl dX7_firstUnmet_52
def fX7_firstUnmet_B6 (l1 : Int32) (r6 : Int32 → ax_M → Option (Int32 × ax_M)) (l2 : Int32) (μ : ax_M) : Option (Int32 × ax_M) :=
  (if (200 : Int32) < l2 then (fX7_firstUnmet_K50 μ) else (ax_bd (fX7_step μ) (fun v3 m4 => (Option.bind (ax_rd m4 40 10 l1) (fun v5 => (ax_bd (fX1_roomBy l1 v5 m4) (fun v6 m7 => (if 0 ≤ v6 then (if v3 = 0 then (fX7_firstUnmet_K50 m7) else (r6 (l2 + (1 : Int32)) m7)) else (some (l2, m7))))))))))
theorem pX7_firstUnmet_B6 {x : ax_X} {G : ax_G} (hG : ax_ok G) (l1 : Int32) (r6 : Int32 → ax_M → Option (Int32 × ax_M)) (hr6 : ∀ (a2 : Int32) (μ : ax_M), ax_Rf mX7_firstUnmet 3 x (ax_Z ax_jI x G) G 0 0 6 [some (.ref 37), some (.int l1), some (.int a2), none] [] μ (r6 a2 μ)) (l2 : Int32) (μ : ax_M) : ax_Rf mX7_firstUnmet 3 x (ax_Z ax_jI x G) G 0 0 6 [some (.ref 37), some (.int l1), some (.int l2), none] [] μ (fX7_firstUnmet_B6 l1 r6 l2 μ) := by
  unfold fX7_firstUnmet_B6
  refine rf_iload_n (n := 7) 2 dX7_firstUnmet_6 rfl rfl rfl ?_
  refine rf_sipush (n := 10) (200 : Int32) dX7_firstUnmet_7 ccsipush_200 rfl ?_
  refine rf_icmp_gt (tg := 50) (n := 13) dX7_firstUnmet_10 rfl rfl (fun c10 => ?_) (fun c10 => ?_)
  · refine rf_mask (lc2 := [none, none, none, none]) [false, false, false, true] rfl ?_
    exact pX7_firstUnmet_K50 hG _
  · refine rf_aload_n (n := 14) 0 dX7_firstUnmet_13 rfl rfl rfl ?_
    refine rf_cV0I (n := 17) hG (okX7_step _) lVX7_52 hhX7_step kk_37 sS_37 ⟨_, rfl, rfl⟩ dX7_firstUnmet_14 rfl (Nat.le_of_ble_eq_true rfl) (Nat.le_of_ble_eq_true rfl) (fun v3 m4 => ?_)
    refine rf_istore_n (lc2 := [some (.ref 37), some (.int l1), some (.int l2), some (.int v3)]) (n := 18) 3 dX7_firstUnmet_17 rfl rfl (Nat.le_of_ble_eq_true rfl) rfl rfl ?_
    refine rf_aload_n (n := 19) 0 dX7_firstUnmet_18 rfl rfl rfl ?_
    refine rf_getR (n := 22) rr_37_0 kk_2 hG dX7_firstUnmet_19 flX7_21 ki_7_0 sS_37 kk_37 rfl ?_
    refine rf_iload_n (n := 23) 1 dX7_firstUnmet_22 rfl rfl rfl ?_
    refine rf_aload_n (n := 24) 0 dX7_firstUnmet_23 rfl rfl rfl ?_
    refine rf_getR (n := 27) rr_37_3 kk_40 hG dX7_firstUnmet_24 flX7_18 ki_7_3 sS_37 kk_37 rfl ?_
    refine rf_iload_n (n := 28) 1 dX7_firstUnmet_27 rfl rfl rfl ?_
    refine rf_iald (n := 29) hG dX7_firstUnmet_28 sS_40 kk_40 rfl (fun v5 => ?_)
    refine rf_cV2I (n := 32) hG (okX1_roomBy _ _ _) lVX7_56 hhX1_roomBy kk_2 sS_2 ⟨_, rfl, rfl⟩ dX7_firstUnmet_29 rfl (Nat.le_of_ble_eq_true rfl) (Nat.le_of_ble_eq_true rfl) (fun v6 m7 => ?_)
    refine rf_if_ge (tg := 37) (n := 35) dX7_firstUnmet_32 rfl rfl (fun c9 => ?_) (fun c9 => ?_)
    · refine rf_iload_n (n := 38) 3 dX7_firstUnmet_37 rfl rfl rfl ?_
      refine rf_if_ne (tg := 44) (n := 41) dX7_firstUnmet_38 rfl rfl (fun c8 => ?_) (fun c8 => ?_)
      · refine rf_iinc (lc2 := [some (.ref 37), some (.int l1), some (.int (l2 + (1 : Int32))), some (.int v3)]) (n := 47) (w := (1 : Int32)) 2 dX7_firstUnmet_44 rfl rfl rfl (Nat.le_of_ble_eq_true rfl) rfl rfl ?_
        refine rf_goto (tg := 6) dX7_firstUnmet_47 rfl ?_
        refine rf_mask (lc2 := [some (.ref 37), some (.int l1), some (.int (l2 + (1 : Int32))), none]) [true, true, true, false] rfl ?_
        exact hr6 _ _
      · refine rf_goto (tg := 50) dX7_firstUnmet_41 rfl ?_
        refine rf_mask (lc2 := [none, none, none, none]) [false, false, false, false] rfl ?_
        exact pX7_firstUnmet_K50 hG _
    · refine rf_iload_n (n := 36) 2 dX7_firstUnmet_35 rfl rfl rfl ?_
      exact rf_retI rfl dX7_firstUnmet_36
theorem pX7_firstUnmet_L6 {x : ax_X} {G : ax_G} (hG : ax_ok G) (l1 : Int32) (n : Nat) (a2 : Int32) (μ : ax_M) : ax_Rf mX7_firstUnmet 3 x (ax_Z ax_jI x G) G 0 0 6 [some (.ref 37), some (.int l1), some (.int a2), none] [] μ (ax_lp1 (fX7_firstUnmet_B6 l1) n a2 μ) :=
  rf_lp1 (P := fun a2 μ t => ax_Rf mX7_firstUnmet 3 x (ax_Z ax_jI x G) G 0 0 6 [some (.ref 37), some (.int l1), some (.int a2), none] [] μ t) (fun _ _ => rf_none) (fun rc hrc a2 μ => pX7_firstUnmet_B6 hG l1 rc hrc a2 μ) n a2 μ
def fX7_firstUnmet (p1 : Int32) (μ : ax_M) : Option (Int32 × ax_M) :=
  (ax_bd (fX7_rest μ) (fun _ m2 => (ax_lp1 (fX7_firstUnmet_B6 p1) ax_FU (1 : Int32) m2)))
theorem okX7_firstUnmet (p1 : Int32) (μ : ax_M) : ax_Ok mX7_firstUnmet 3 ax_jI [.ref 37, .int p1] μ (fX7_firstUnmet p1 μ) := by
  refine ax_start (lc := [some (.ref 37), some (.int p1), none, none]) 2 (by decide +kernel) rfl (Nat.le_of_ble_eq_true rfl) (fun x G hG => ?_)
  unfold fX7_firstUnmet
  refine rf_aload_n (n := 1) 0 dX7_firstUnmet_0 rfl rfl rfl ?_
  refine rf_cV0V (n := 4) hG (okX7_rest _) lVX7_49 hhX7_rest kk_37 sS_37 ⟨_, rfl, rfl⟩ dX7_firstUnmet_1 rfl (Nat.le_of_ble_eq_true rfl) (Nat.le_of_ble_eq_true rfl) (fun _ m2 => ?_)
  refine rf_iconst (n := 5) (1 : Int32) dX7_firstUnmet_4 cciconst_1 rfl ?_
  refine rf_istore_n (lc2 := [some (.ref 37), some (.int p1), some (.int (1 : Int32)), none]) (n := 6) 2 dX7_firstUnmet_5 rfl rfl (Nat.le_of_ble_eq_true rfl) rfl rfl ?_
  exact pX7_firstUnmet_L6 hG _ _ _ _
def fX8_fails_K23 (s0 : Int32) (μ : ax_M) : Option (Int32 × ax_M) :=
  (some (s0, μ))
theorem pX8_fails_K23 {x : ax_X} {G : ax_G} (hG : ax_ok G) (s0 : Int32) (μ : ax_M) : ax_Rf mX8_fails 4 x (ax_Z ax_jI x G) G 0 0 23 [none, none] [.int s0] μ (fX8_fails_K23 s0 μ) := by
  unfold fX8_fails_K23
  exact rf_retI rfl dX8_fails_23
def fX8_fails (p1 : Int32) (μ : ax_M) : Option (Int32 × ax_M) :=
  (ax_bd (fX1_hasCell p1 μ) (fun v1 m2 => (if v1 = 0 then (fX8_fails_K23 (-1 : Int32) m2) else (ax_bd (fX7_firstUnmet p1 m2) (fun v3 m4 => (fX8_fails_K23 v3 m4))))))
theorem okX8_fails (p1 : Int32) (μ : ax_M) : ax_Ok mX8_fails 4 ax_jI [.ref 0, .int p1] μ (fX8_fails p1 μ) := by
  refine ax_start (lc := [some (.ref 0), some (.int p1)]) 0 (by decide +kernel) rfl (Nat.le_of_ble_eq_true rfl) (fun x G hG => ?_)
  unfold fX8_fails
  refine rf_aload_n (n := 1) 0 dX8_fails_0 rfl rfl rfl ?_
  refine rf_getR (n := 4) rr_0_2 kk_2 hG dX8_fails_1 flX8_16 ki_8_2 sS_0 kk_0 rfl ?_
  refine rf_iload_n (n := 5) 1 dX8_fails_4 rfl rfl rfl ?_
  refine rf_cV1I (n := 8) hG (okX1_hasCell _ _) lVX8_152 hhX1_hasCell kk_2 sS_2 ⟨_, rfl, rfl⟩ dX8_fails_5 rfl (Nat.le_of_ble_eq_true rfl) (Nat.le_of_ble_eq_true rfl) (fun v1 m2 => ?_)
  refine rf_if_eq (tg := 22) (n := 11) dX8_fails_8 rfl rfl (fun c5 => ?_) (fun c5 => ?_)
  · refine rf_iconst (n := 23) (-1 : Int32) dX8_fails_22 cciconst_m1 rfl ?_
    refine rf_mask (lc2 := [none, none]) [false, false] rfl ?_
    exact pX8_fails_K23 hG _ _
  · refine rf_aload_n (n := 12) 0 dX8_fails_11 rfl rfl rfl ?_
    refine rf_getR (n := 15) rr_0_6 kk_37 hG dX8_fails_12 flX8_48 ki_8_6 sS_0 kk_0 rfl ?_
    refine rf_iload_n (n := 16) 1 dX8_fails_15 rfl rfl rfl ?_
    refine rf_cV1I (n := 19) hG (okX7_firstUnmet _ _) lVX8_256 hhX7_firstUnmet kk_37 sS_37 ⟨_, rfl, rfl⟩ dX8_fails_16 rfl (Nat.le_of_ble_eq_true rfl) (Nat.le_of_ble_eq_true rfl) (fun v3 m4 => ?_)
    refine rf_goto (tg := 23) dX8_fails_19 rfl ?_
    refine rf_mask (lc2 := [none, none]) [false, false] rfl ?_
    exact pX8_fails_K23 hG _ _
def fX9_fails_B21 (l1 : Int32) (r21 : Int32 → ax_M → Option (Int32 × ax_M)) (l2 : Int32) (μ : ax_M) : Option (Int32 × ax_M) :=
  (if (200 : Int32) < l2 then (some ((-2 : Int32), μ)) else (ax_bd (fX9_round μ) (fun _ m7 => (Option.bind (ax_rl m7 76 10 l1) (fun v8 => (Option.bind (ax_rl m7 77 10 l1) (fun v9 => (ax_bd (fX9_roomOf l1 v8 v9 m7) (fun v10 m11 => (if 0 ≤ (lg_cmp v10 (0 : Int64)) then (r21 (l2 + (1 : Int32)) m11) else (some (l2, m11))))))))))))
theorem pX9_fails_B21 {x : ax_X} {G : ax_G} (hG : ax_ok G) (l1 : Int32) (r21 : Int32 → ax_M → Option (Int32 × ax_M)) (hr21 : ∀ (a2 : Int32) (μ : ax_M), ax_Rf mX9_fails 4 x (ax_Z ax_jI x G) G 0 0 21 [some (.ref 57), some (.int l1), some (.int a2)] [] μ (r21 a2 μ)) (l2 : Int32) (μ : ax_M) : ax_Rf mX9_fails 4 x (ax_Z ax_jI x G) G 0 0 21 [some (.ref 57), some (.int l1), some (.int l2)] [] μ (fX9_fails_B21 l1 r21 l2 μ) := by
  unfold fX9_fails_B21
  refine rf_iload_n (n := 22) 2 dX9_fails_21 rfl rfl rfl ?_
  refine rf_sipush (n := 25) (200 : Int32) dX9_fails_22 ccsipush_200 rfl ?_
  refine rf_icmp_gt (tg := 62) (n := 28) dX9_fails_25 rfl rfl (fun c13 => ?_) (fun c13 => ?_)
  · refine rf_bipush (n := 64) (-2 : Int32) dX9_fails_62 ccbipush_m2 rfl ?_
    exact rf_retI rfl dX9_fails_64
  · refine rf_aload_n (n := 29) 0 dX9_fails_28 rfl rfl rfl ?_
    refine rf_cV0V (n := 32) hG (okX9_round _) lVX9_296 hhX9_round kk_57 sS_57 ⟨_, rfl, rfl⟩ dX9_fails_29 rfl (Nat.le_of_ble_eq_true rfl) (Nat.le_of_ble_eq_true rfl) (fun _ m7 => ?_)
    refine rf_aload_n (n := 33) 0 dX9_fails_32 rfl rfl rfl ?_
    refine rf_iload_n (n := 34) 1 dX9_fails_33 rfl rfl rfl ?_
    refine rf_aload_n (n := 35) 0 dX9_fails_34 rfl rfl rfl ?_
    refine rf_getR (n := 38) rr_57_32 kk_76 hG dX9_fails_35 flX9_69 ki_9_32 sS_57 kk_57 rfl ?_
    refine rf_iload_n (n := 39) 1 dX9_fails_38 rfl rfl rfl ?_
    refine rf_lald (n := 40) hG dX9_fails_39 sS_76 kk_76 rfl (fun v8 => ?_)
    refine rf_aload_n (n := 41) 0 dX9_fails_40 rfl rfl rfl ?_
    refine rf_getR (n := 44) rr_57_33 kk_77 hG dX9_fails_41 flX9_73 ki_9_33 sS_57 kk_57 rfl ?_
    refine rf_iload_n (n := 45) 1 dX9_fails_44 rfl rfl rfl ?_
    refine rf_lald (n := 46) hG dX9_fails_45 sS_77 kk_77 rfl (fun v9 => ?_)
    refine rf_cV3L (n := 49) hG (okX9_roomOf _ _ _ _) lVX9_309 hhX9_roomOf kk_57 sS_57 ⟨_, rfl, rfl⟩ dX9_fails_46 rfl (Nat.le_of_ble_eq_true rfl) (Nat.le_of_ble_eq_true rfl) (fun v10 m11 => ?_)
    refine rf_lconst (n := 50) (0 : Int64) dX9_fails_49 rfl rfl ?_
    refine rf_lcmp (n := 51) dX9_fails_50 rfl ?_
    refine rf_if_ge (tg := 56) (n := 54) dX9_fails_51 rfl rfl (fun c12 => ?_) (fun c12 => ?_)
    · refine rf_iinc (lc2 := [some (.ref 57), some (.int l1), some (.int (l2 + (1 : Int32)))]) (n := 59) (w := (1 : Int32)) 2 dX9_fails_56 rfl rfl rfl (Nat.le_of_ble_eq_true rfl) rfl rfl ?_
      refine rf_goto (tg := 21) dX9_fails_59 rfl ?_
      exact hr21 _ _
    · refine rf_iload_n (n := 55) 2 dX9_fails_54 rfl rfl rfl ?_
      exact rf_retI rfl dX9_fails_55
theorem pX9_fails_L21 {x : ax_X} {G : ax_G} (hG : ax_ok G) (l1 : Int32) (n : Nat) (a2 : Int32) (μ : ax_M) : ax_Rf mX9_fails 4 x (ax_Z ax_jI x G) G 0 0 21 [some (.ref 57), some (.int l1), some (.int a2)] [] μ (ax_lp1 (fX9_fails_B21 l1) n a2 μ) :=
  rf_lp1 (P := fun a2 μ t => ax_Rf mX9_fails 4 x (ax_Z ax_jI x G) G 0 0 21 [some (.ref 57), some (.int l1), some (.int a2)] [] μ t) (fun _ _ => rf_none) (fun rc hrc a2 μ => pX9_fails_B21 hG l1 rc hrc a2 μ) n a2 μ
def fX9_fails (p1 : Int32) (μ : ax_M) : Option (Int32 × ax_M) :=
  (ax_let (ax_wi μ 57 0 (0 : Int32)) (fun m1 => (ax_bd (fX9_isCell p1 m1) (fun v2 m3 => (if v2 = 0 then (some ((-1 : Int32), m3)) else (ax_bd (fX9_rest m3) (fun _ m5 => (ax_lp1 (fX9_fails_B21 p1) ax_FU (1 : Int32) m5))))))))
theorem okX9_fails (p1 : Int32) (μ : ax_M) : ax_Ok mX9_fails 4 ax_jI [.ref 57, .int p1] μ (fX9_fails p1 μ) := by
  refine ax_start (lc := [some (.ref 57), some (.int p1), none]) 1 (by decide +kernel) rfl (Nat.le_of_ble_eq_true rfl) (fun x G hG => ?_)
  unfold fX9_fails
  refine rf_aload_n (n := 1) 0 dX9_fails_0 rfl rfl rfl ?_
  refine rf_iconst (n := 2) (0 : Int32) dX9_fails_1 cciconst_0 rfl ?_
  refine rf_pfI (n := 5) hG rfl dX9_fails_2 flX9_103 ki_9_0 nf_9_0 sS_57 kk_57 rfl (fun m1 => ?_)
  refine rf_aload_n (n := 6) 0 dX9_fails_5 rfl rfl rfl ?_
  refine rf_iload_n (n := 7) 1 dX9_fails_6 rfl rfl rfl ?_
  refine rf_cV1I (n := 10) hG (okX9_isCell _ _) lVX9_252 hhX9_isCell kk_57 sS_57 ⟨_, rfl, rfl⟩ dX9_fails_7 rfl (Nat.le_of_ble_eq_true rfl) (Nat.le_of_ble_eq_true rfl) (fun v2 m3 => ?_)
  refine rf_if_ne (tg := 15) (n := 13) dX9_fails_10 rfl rfl (fun c14 => ?_) (fun c14 => ?_)
  · refine rf_aload_n (n := 16) 0 dX9_fails_15 rfl rfl rfl ?_
    refine rf_cV0V (n := 19) hG (okX9_rest _) lVX9_293 hhX9_rest kk_57 sS_57 ⟨_, rfl, rfl⟩ dX9_fails_16 rfl (Nat.le_of_ble_eq_true rfl) (Nat.le_of_ble_eq_true rfl) (fun _ m5 => ?_)
    refine rf_iconst (n := 20) (1 : Int32) dX9_fails_19 cciconst_1 rfl ?_
    refine rf_istore_n (lc2 := [some (.ref 57), some (.int p1), some (.int (1 : Int32))]) (n := 21) 2 dX9_fails_20 rfl rfl (Nat.le_of_ble_eq_true rfl) rfl rfl ?_
    exact pX9_fails_L21 hG _ _ _ _
  · refine rf_iconst (n := 14) (-1 : Int32) dX9_fails_13 cciconst_m1 rfl ?_
    exact rf_retI rfl dX9_fails_14
def fJ7_fill_53178_4_B5 (l1 : Int32) (l3 : Int32) (r5 : Int32 → ax_M → Option (Unit × ax_M)) (l2 : Int32) (μ : ax_M) : Option (Unit × ax_M) :=
  (if l3 ≤ l2 then (some ((), μ)) else (Option.bind (ax_wr μ 42 10 l2 l1) (fun m1 => (r5 (l2 + (1 : Int32)) m1))))
theorem pJ7_fill_53178_4_B5 {x : ax_X} {G : ax_G} (hG : ax_ok G) (l1 : Int32) (l3 : Int32) (r5 : Int32 → ax_M → Option (Unit × ax_M)) (hr5 : ∀ (a2 : Int32) (μ : ax_M), ax_Rf mJ7_fill_53178 0 x (ax_Z ax_jV x G) G 0 0 5 [some (.ref 42), some (.int l1), some (.int a2), some (.int l3)] [] μ (r5 a2 μ)) (l2 : Int32) (μ : ax_M) : ax_Rf mJ7_fill_53178 0 x (ax_Z ax_jV x G) G 0 0 5 [some (.ref 42), some (.int l1), some (.int l2), some (.int l3)] [] μ (fJ7_fill_53178_4_B5 l1 l3 r5 l2 μ) := by
  unfold fJ7_fill_53178_4_B5
  refine rf_iload_n (n := 6) 2 dJ7_fill_53178_5 rfl rfl rfl ?_
  refine rf_iload_n (n := 7) 3 dJ7_fill_53178_6 rfl rfl rfl ?_
  refine rf_icmp_ge (tg := 20) (n := 10) dJ7_fill_53178_7 rfl rfl (fun c2 => ?_) (fun c2 => ?_)
  · exact rf_retV rfl dJ7_fill_53178_20
  · refine rf_aload_n (n := 11) 0 dJ7_fill_53178_10 rfl rfl rfl ?_
    refine rf_iload_n (n := 12) 2 dJ7_fill_53178_11 rfl rfl rfl ?_
    refine rf_iload_n (n := 13) 1 dJ7_fill_53178_12 rfl rfl rfl ?_
    refine rf_iast (n := 14) hG dJ7_fill_53178_13 sS_42 kk_42 rfl (fun m1 => ?_)
    refine rf_iinc (lc2 := [some (.ref 42), some (.int l1), some (.int (l2 + (1 : Int32))), some (.int l3)]) (n := 17) (w := (1 : Int32)) 2 dJ7_fill_53178_14 rfl rfl rfl (Nat.le_of_ble_eq_true rfl) rfl rfl ?_
    refine rf_goto (tg := 5) dJ7_fill_53178_17 rfl ?_
    exact hr5 _ _
theorem pJ7_fill_53178_4_L5 {x : ax_X} {G : ax_G} (hG : ax_ok G) (l1 : Int32) (l3 : Int32) (n : Nat) (a2 : Int32) (μ : ax_M) : ax_Rf mJ7_fill_53178 0 x (ax_Z ax_jV x G) G 0 0 5 [some (.ref 42), some (.int l1), some (.int a2), some (.int l3)] [] μ (ax_lp1 (fJ7_fill_53178_4_B5 l1 l3) n a2 μ) :=
  rf_lp1 (P := fun a2 μ t => ax_Rf mJ7_fill_53178 0 x (ax_Z ax_jV x G) G 0 0 5 [some (.ref 42), some (.int l1), some (.int a2), some (.int l3)] [] μ t) (fun _ _ => rf_none) (fun rc hrc a2 μ => pJ7_fill_53178_4_B5 hG l1 l3 rc hrc a2 μ) n a2 μ
def fJ7_fill_53178_4 (p1 : Int32) (μ : ax_M) : Option (Unit × ax_M) :=
  (ax_lp1 (fJ7_fill_53178_4_B5 p1 (10 : Int32)) ax_FU (0 : Int32) μ)
theorem okJ7_fill_53178_4 (p1 : Int32) (μ : ax_M) : ax_Ok mJ7_fill_53178 0 ax_jV [.ref 42, .int p1] μ (fJ7_fill_53178_4 p1 μ) := by
  refine ax_start (lc := [some (.ref 42), some (.int p1), none, none]) 2 (by decide +kernel) rfl (Nat.le_of_ble_eq_true rfl) (fun x G hG => ?_)
  unfold fJ7_fill_53178_4
  refine rf_iconst (n := 1) (0 : Int32) dJ7_fill_53178_0 cciconst_0 rfl ?_
  refine rf_istore_n (lc2 := [some (.ref 42), some (.int p1), some (.int (0 : Int32)), none]) (n := 2) 2 dJ7_fill_53178_1 rfl rfl (Nat.le_of_ble_eq_true rfl) rfl rfl ?_
  refine rf_aload_n (n := 3) 0 dJ7_fill_53178_2 rfl rfl rfl ?_
  refine rf_alen1 (n := 4) (v := (10 : Int32)) hG dJ7_fill_53178_3 sS_42 rfl kk_42 rfl ?_
  refine rf_istore_n (lc2 := [some (.ref 42), some (.int p1), some (.int (0 : Int32)), some (.int (10 : Int32))]) (n := 5) 3 dJ7_fill_53178_4 rfl rfl (Nat.le_of_ble_eq_true rfl) rfl rfl ?_
  exact pJ7_fill_53178_4_L5 hG _ _ _ _ _
def fX0_linkCells_K87 (l1 : Int32) (r10 : Int32 → ax_M → Option (Unit × ax_M)) (μ : ax_M) : Option (Unit × ax_M) :=
  (r10 (l1 + (1 : Int32)) μ)
theorem pX0_linkCells_K87 {x : ax_X} {G : ax_G} (hG : ax_ok G) (l1 : Int32) (r10 : Int32 → ax_M → Option (Unit × ax_M)) (hr10 : ∀ (a1 : Int32) (μ : ax_M), ax_Rf mX0_linkCells 1 x (ax_Z ax_jV x G) G 0 0 10 [some (.ref 41), some (.int a1), none, none] [] μ (r10 a1 μ)) (μ : ax_M) : ax_Rf mX0_linkCells 1 x (ax_Z ax_jV x G) G 0 0 87 [some (.ref 41), some (.int l1), none, none] [] μ (fX0_linkCells_K87 l1 r10 μ) := by
  unfold fX0_linkCells_K87
  refine rf_iinc (lc2 := [some (.ref 41), some (.int (l1 + (1 : Int32))), none, none]) (n := 90) (w := (1 : Int32)) 1 dX0_linkCells_87 rfl rfl rfl (Nat.le_of_ble_eq_true rfl) rfl rfl ?_
  refine rf_goto (tg := 10) dX0_linkCells_90 rfl ?_
  exact hr10 _ _
def fX0_linkCells_B10 (r10 : Int32 → ax_M → Option (Unit × ax_M)) (l1 : Int32) (μ : ax_M) : Option (Unit × ax_M) :=
  (if (μ.1 2 14) ≤ l1 then (some ((), μ)) else (Option.bind (ax_rd μ 11 24 l1) (fun v3 => (Option.bind (ax_rd μ 12 24 l1) (fun v4 => (ax_bd (fX1_isFlop v3 μ) (fun v5 m6 => (if v5 = 0 then (ax_bd (fX1_isFlop v4 m6) (fun v7 m8 => (if v7 = 0 then (Option.bind (ax_rd m8 42 10 v3) (fun v9 => (Option.bind (ax_wr m8 42 10 v3 (v9 ||| ((1 : Int32) <<< (v4 &&& 31)))) (fun m10 => (Option.bind (ax_wr m10 43 100 ((v3 * (10 : Int32)) + v4) l1) (fun m11 => (fX0_linkCells_K87 l1 r10 m11))))))) else (fX0_linkCells_K87 l1 r10 m8)))) else (fX0_linkCells_K87 l1 r10 m6)))))))))
theorem pX0_linkCells_B10 {x : ax_X} {G : ax_G} (hG : ax_ok G) (r10 : Int32 → ax_M → Option (Unit × ax_M)) (hr10 : ∀ (a1 : Int32) (μ : ax_M), ax_Rf mX0_linkCells 1 x (ax_Z ax_jV x G) G 0 0 10 [some (.ref 41), some (.int a1), none, none] [] μ (r10 a1 μ)) (l1 : Int32) (μ : ax_M) : ax_Rf mX0_linkCells 1 x (ax_Z ax_jV x G) G 0 0 10 [some (.ref 41), some (.int l1), none, none] [] μ (fX0_linkCells_B10 r10 l1 μ) := by
  unfold fX0_linkCells_B10
  refine rf_iload_n (n := 11) 1 dX0_linkCells_10 rfl rfl rfl ?_
  refine rf_aload_n (n := 12) 0 dX0_linkCells_11 rfl rfl rfl ?_
  refine rf_getR (n := 15) rr_41_0 kk_2 hG dX0_linkCells_12 flX0_24 ki_0_0 sS_41 kk_41 rfl ?_
  refine rf_getI (n := 18) hG dX0_linkCells_15 flX0_68 ki_1_14 sS_2 kk_2 rfl ?_
  refine rf_icmp_ge (tg := 93) (n := 21) dX0_linkCells_18 rfl rfl (fun c14 => ?_) (fun c14 => ?_)
  · exact rf_retV rfl dX0_linkCells_93
  · refine rf_aload_n (n := 22) 0 dX0_linkCells_21 rfl rfl rfl ?_
    refine rf_getR (n := 25) rr_41_0 kk_2 hG dX0_linkCells_22 flX0_24 ki_0_0 sS_41 kk_41 rfl ?_
    refine rf_getR (n := 28) rr_2_8 kk_11 hG dX0_linkCells_25 flX0_71 ki_1_8 sS_2 kk_2 rfl ?_
    refine rf_iload_n (n := 29) 1 dX0_linkCells_28 rfl rfl rfl ?_
    refine rf_iald (n := 30) hG dX0_linkCells_29 sS_11 kk_11 rfl (fun v3 => ?_)
    refine rf_istore_n (lc2 := [some (.ref 41), some (.int l1), some (.int v3), none]) (n := 31) 2 dX0_linkCells_30 rfl rfl (Nat.le_of_ble_eq_true rfl) rfl rfl ?_
    refine rf_aload_n (n := 32) 0 dX0_linkCells_31 rfl rfl rfl ?_
    refine rf_getR (n := 35) rr_41_0 kk_2 hG dX0_linkCells_32 flX0_24 ki_0_0 sS_41 kk_41 rfl ?_
    refine rf_getR (n := 38) rr_2_9 kk_12 hG dX0_linkCells_35 flX0_74 ki_1_9 sS_2 kk_2 rfl ?_
    refine rf_iload_n (n := 39) 1 dX0_linkCells_38 rfl rfl rfl ?_
    refine rf_iald (n := 40) hG dX0_linkCells_39 sS_12 kk_12 rfl (fun v4 => ?_)
    refine rf_istore_n (lc2 := [some (.ref 41), some (.int l1), some (.int v3), some (.int v4)]) (n := 41) 3 dX0_linkCells_40 rfl rfl (Nat.le_of_ble_eq_true rfl) rfl rfl ?_
    refine rf_aload_n (n := 42) 0 dX0_linkCells_41 rfl rfl rfl ?_
    refine rf_getR (n := 45) rr_41_0 kk_2 hG dX0_linkCells_42 flX0_24 ki_0_0 sS_41 kk_41 rfl ?_
    refine rf_iload_n (n := 46) 2 dX0_linkCells_45 rfl rfl rfl ?_
    refine rf_cV1I (n := 49) hG (okX1_isFlop _ _) lVX0_51 hhX1_isFlop kk_2 sS_2 ⟨_, rfl, rfl⟩ dX0_linkCells_46 rfl (Nat.le_of_ble_eq_true rfl) (Nat.le_of_ble_eq_true rfl) (fun v5 m6 => ?_)
    refine rf_if_ne (tg := 87) (n := 52) dX0_linkCells_49 rfl rfl (fun c13 => ?_) (fun c13 => ?_)
    · refine rf_mask (lc2 := [some (.ref 41), some (.int l1), none, none]) [true, true, false, false] rfl ?_
      exact pX0_linkCells_K87 hG _ r10 hr10 _
    · refine rf_aload_n (n := 53) 0 dX0_linkCells_52 rfl rfl rfl ?_
      refine rf_getR (n := 56) rr_41_0 kk_2 hG dX0_linkCells_53 flX0_24 ki_0_0 sS_41 kk_41 rfl ?_
      refine rf_iload_n (n := 57) 3 dX0_linkCells_56 rfl rfl rfl ?_
      refine rf_cV1I (n := 60) hG (okX1_isFlop _ _) lVX0_51 hhX1_isFlop kk_2 sS_2 ⟨_, rfl, rfl⟩ dX0_linkCells_57 rfl (Nat.le_of_ble_eq_true rfl) (Nat.le_of_ble_eq_true rfl) (fun v7 m8 => ?_)
      refine rf_if_ne (tg := 87) (n := 63) dX0_linkCells_60 rfl rfl (fun c12 => ?_) (fun c12 => ?_)
      · refine rf_mask (lc2 := [some (.ref 41), some (.int l1), none, none]) [true, true, false, false] rfl ?_
        exact pX0_linkCells_K87 hG _ r10 hr10 _
      · refine rf_aload_n (n := 64) 0 dX0_linkCells_63 rfl rfl rfl ?_
        refine rf_getR (n := 67) rr_41_1 kk_42 hG dX0_linkCells_64 flX0_9 ki_0_1 sS_41 kk_41 rfl ?_
        refine rf_iload_n (n := 68) 2 dX0_linkCells_67 rfl rfl rfl ?_
        refine rf_dup2 (n := 69) dX0_linkCells_68 rfl ?_
        refine rf_iald (n := 70) hG dX0_linkCells_69 sS_42 kk_42 rfl (fun v9 => ?_)
        refine rf_iconst (n := 71) (1 : Int32) dX0_linkCells_70 cciconst_1 rfl ?_
        refine rf_iload_n (n := 72) 3 dX0_linkCells_71 rfl rfl rfl ?_
        refine rf_ishl (n := 73) dX0_linkCells_72 rfl ?_
        refine rf_ior (n := 74) dX0_linkCells_73 rfl ?_
        refine rf_iast (n := 75) hG dX0_linkCells_74 sS_42 kk_42 rfl (fun m10 => ?_)
        refine rf_aload_n (n := 76) 0 dX0_linkCells_75 rfl rfl rfl ?_
        refine rf_getR (n := 79) rr_41_2 kk_43 hG dX0_linkCells_76 flX0_15 ki_0_2 sS_41 kk_41 rfl ?_
        refine rf_iload_n (n := 80) 2 dX0_linkCells_79 rfl rfl rfl ?_
        refine rf_bipush (n := 82) (10 : Int32) dX0_linkCells_80 ccbipush_10 rfl ?_
        refine rf_imul (n := 83) dX0_linkCells_82 rfl ?_
        refine rf_iload_n (n := 84) 3 dX0_linkCells_83 rfl rfl rfl ?_
        refine rf_iadd (n := 85) dX0_linkCells_84 rfl ?_
        refine rf_iload_n (n := 86) 1 dX0_linkCells_85 rfl rfl rfl ?_
        refine rf_iast (n := 87) hG dX0_linkCells_86 sS_43 kk_43 rfl (fun m11 => ?_)
        refine rf_mask (lc2 := [some (.ref 41), some (.int l1), none, none]) [true, true, false, false] rfl ?_
        exact pX0_linkCells_K87 hG _ r10 hr10 _
theorem pX0_linkCells_L10 {x : ax_X} {G : ax_G} (hG : ax_ok G) (n : Nat) (a1 : Int32) (μ : ax_M) : ax_Rf mX0_linkCells 1 x (ax_Z ax_jV x G) G 0 0 10 [some (.ref 41), some (.int a1), none, none] [] μ (ax_lp1 (fX0_linkCells_B10) n a1 μ) :=
  rf_lp1 (P := fun a1 μ t => ax_Rf mX0_linkCells 1 x (ax_Z ax_jV x G) G 0 0 10 [some (.ref 41), some (.int a1), none, none] [] μ t) (fun _ _ => rf_none) (fun rc hrc a1 μ => pX0_linkCells_B10 hG rc hrc a1 μ) n a1 μ
def fX0_linkCells (μ : ax_M) : Option (Unit × ax_M) :=
  (ax_bd (fJ7_fill_53178_4 (0 : Int32) μ) (fun _ m2 => (ax_lp1 (fX0_linkCells_B10) ax_FU (0 : Int32) m2)))
theorem okX0_linkCells (μ : ax_M) : ax_Ok mX0_linkCells 1 ax_jV [.ref 41] μ (fX0_linkCells μ) := by
  refine ax_start (lc := [some (.ref 41), none, none, none]) 3 (by decide +kernel) rfl (Nat.le_of_ble_eq_true rfl) (fun x G hG => ?_)
  unfold fX0_linkCells
  refine rf_aload_n (n := 1) 0 dX0_linkCells_0 rfl rfl rfl ?_
  refine rf_getR (n := 4) rr_41_1 kk_42 hG dX0_linkCells_1 flX0_9 ki_0_1 sS_41 kk_41 rfl ?_
  refine rf_iconst (n := 5) (0 : Int32) dX0_linkCells_4 cciconst_0 rfl ?_
  refine rf_cS2V (n := 8) hG (okJ7_fill_53178_4 _ _) lSX0_62 hhJ7_fill_53178 dX0_linkCells_5 rfl (Nat.le_of_ble_eq_true rfl) (Nat.le_of_ble_eq_true rfl) (fun _ m2 => ?_)
  refine rf_iconst (n := 9) (0 : Int32) dX0_linkCells_8 cciconst_0 rfl ?_
  refine rf_istore_n (lc2 := [some (.ref 41), some (.int (0 : Int32)), none, none]) (n := 10) 1 dX0_linkCells_9 rfl rfl (Nat.le_of_ble_eq_true rfl) rfl rfl ?_
  exact pX0_linkCells_L10 hG _ _ _
def fX0_reduce_K68 (μ : ax_M) : Option (Unit × ax_M) :=
  (some ((), μ))
theorem pX0_reduce_K68 {x : ax_X} {G : ax_G} (hG : ax_ok G) (μ : ax_M) : ax_Rf mX0_reduce 0 x (ax_Z ax_jV x G) G 0 0 68 [none, none, none, none, none, none, none, none] [] μ (fX0_reduce_K68 μ) := by
  unfold fX0_reduce_K68
  exact rf_retV rfl dX0_reduce_68
def fX0_reduce_K42 (l1 : Int64) (μ : ax_M) : Option (Unit × ax_M) :=
  (if (lg_cmp l1 (0 : Int64)) ≤ 0 then (fX0_reduce_K68 μ) else (Option.bind (ax_dl (μ.2 41 6) l1) (fun v3 => (ax_let (ax_wl μ 41 6 v3) (fun m4 => (Option.bind (ax_dl (m4.2 41 7) l1) (fun v5 => (ax_let (ax_wl m4 41 7 v5) (fun m6 => (fX0_reduce_K68 m6))))))))))
theorem pX0_reduce_K42 {x : ax_X} {G : ax_G} (hG : ax_ok G) (l1 : Int64) (μ : ax_M) : ax_Rf mX0_reduce 0 x (ax_Z ax_jV x G) G 0 0 42 [some (.ref 41), some (.long l1), none, none, none, none, none, none] [] μ (fX0_reduce_K42 l1 μ) := by
  unfold fX0_reduce_K42
  refine rf_lload_n (n := 43) 1 dX0_reduce_42 rfl rfl rfl ?_
  refine rf_lconst (n := 44) (0 : Int64) dX0_reduce_43 rfl rfl ?_
  refine rf_lcmp (n := 45) dX0_reduce_44 rfl ?_
  refine rf_if_le (tg := 68) (n := 48) dX0_reduce_45 rfl rfl (fun c7 => ?_) (fun c7 => ?_)
  · refine rf_mask (lc2 := [none, none, none, none, none, none, none, none]) [false, false, true, true, true, true, true, true] rfl ?_
    exact pX0_reduce_K68 hG _
  · refine rf_aload_n (n := 49) 0 dX0_reduce_48 rfl rfl rfl ?_
    refine rf_dupR (n := 50) dX0_reduce_49 rfl ?_
    refine rf_getL (n := 53) hG dX0_reduce_50 flX0_36 ki_0_6 sS_41 kk_41 rfl ?_
    refine rf_lload_n (n := 54) 1 dX0_reduce_53 rfl rfl rfl ?_
    refine rf_ldiv (n := 55) dX0_reduce_54 rfl (fun v3 => ?_)
    refine rf_pfL (n := 58) hG rfl dX0_reduce_55 flX0_36 ki_0_6 nf_0_6 sS_41 kk_41 rfl (fun m4 => ?_)
    refine rf_aload_n (n := 59) 0 dX0_reduce_58 rfl rfl rfl ?_
    refine rf_dupR (n := 60) dX0_reduce_59 rfl ?_
    refine rf_getL (n := 63) hG dX0_reduce_60 flX0_40 ki_0_7 sS_41 kk_41 rfl ?_
    refine rf_lload_n (n := 64) 1 dX0_reduce_63 rfl rfl rfl ?_
    refine rf_ldiv (n := 65) dX0_reduce_64 rfl (fun v5 => ?_)
    refine rf_pfL (n := 68) hG rfl dX0_reduce_65 flX0_40 ki_0_7 nf_0_7 sS_41 kk_41 rfl (fun m6 => ?_)
    refine rf_mask (lc2 := [none, none, none, none, none, none, none, none]) [false, false, true, true, true, true, true, true] rfl ?_
    exact pX0_reduce_K68 hG _
def fX0_reduce_B13 (r13 : Int64 → Int64 → Int32 → ax_M → Option (Unit × ax_M)) (l1 : Int64) (l3 : Int64) (l5 : Int32) (μ : ax_M) : Option (Unit × ax_M) :=
  (if (64 : Int32) ≤ l5 then (fX0_reduce_K42 l1 μ) else (if (lg_cmp l3 (0 : Int64)) ≤ 0 then (fX0_reduce_K42 l1 μ) else (Option.bind (ax_ml l1 l3) (fun v8 => (r13 l3 v8 (l5 + (1 : Int32)) μ)))))
theorem pX0_reduce_B13 {x : ax_X} {G : ax_G} (hG : ax_ok G) (r13 : Int64 → Int64 → Int32 → ax_M → Option (Unit × ax_M)) (hr13 : ∀ (a1 : Int64) (a3 : Int64) (a5 : Int32) (μ : ax_M), ax_Rf mX0_reduce 0 x (ax_Z ax_jV x G) G 0 0 13 [some (.ref 41), some (.long a1), none, some (.long a3), none, some (.int a5), none, none] [] μ (r13 a1 a3 a5 μ)) (l1 : Int64) (l3 : Int64) (l5 : Int32) (μ : ax_M) : ax_Rf mX0_reduce 0 x (ax_Z ax_jV x G) G 0 0 13 [some (.ref 41), some (.long l1), none, some (.long l3), none, some (.int l5), none, none] [] μ (fX0_reduce_B13 r13 l1 l3 l5 μ) := by
  unfold fX0_reduce_B13
  refine rf_iload (n := 15) 5 dX0_reduce_13 rfl rfl ?_
  refine rf_bipush (n := 17) (64 : Int32) dX0_reduce_15 ccbipush_64 rfl ?_
  refine rf_icmp_ge (tg := 42) (n := 20) dX0_reduce_17 rfl rfl (fun c10 => ?_) (fun c10 => ?_)
  · refine rf_mask (lc2 := [some (.ref 41), some (.long l1), none, none, none, none, none, none]) [true, true, true, false, true, false, true, true] rfl ?_
    exact pX0_reduce_K42 hG _ _
  · refine rf_lload_n (n := 21) 3 dX0_reduce_20 rfl rfl rfl ?_
    refine rf_lconst (n := 22) (0 : Int64) dX0_reduce_21 rfl rfl ?_
    refine rf_lcmp (n := 23) dX0_reduce_22 rfl ?_
    refine rf_if_le (tg := 42) (n := 26) dX0_reduce_23 rfl rfl (fun c9 => ?_) (fun c9 => ?_)
    · refine rf_mask (lc2 := [some (.ref 41), some (.long l1), none, none, none, none, none, none]) [true, true, true, false, true, false, true, true] rfl ?_
      exact pX0_reduce_K42 hG _ _
    · refine rf_lload_n (n := 27) 1 dX0_reduce_26 rfl rfl rfl ?_
      refine rf_lload_n (n := 28) 3 dX0_reduce_27 rfl rfl rfl ?_
      refine rf_lrem (n := 29) dX0_reduce_28 rfl (fun v8 => ?_)
      refine rf_lstore (lc2 := [some (.ref 41), some (.long l1), none, some (.long l3), none, some (.int l5), some (.long v8), none]) (n := 31) 6 dX0_reduce_29 rfl (Nat.le_of_ble_eq_true rfl) rfl rfl ?_
      refine rf_lload_n (n := 32) 3 dX0_reduce_31 rfl rfl rfl ?_
      refine rf_lstore_n (lc2 := [some (.ref 41), some (.long l3), none, some (.long l3), none, some (.int l5), some (.long v8), none]) (n := 33) 1 dX0_reduce_32 rfl rfl (Nat.le_of_ble_eq_true rfl) rfl rfl ?_
      refine rf_lload (n := 35) 6 dX0_reduce_33 rfl rfl ?_
      refine rf_lstore_n (lc2 := [some (.ref 41), some (.long l3), none, some (.long v8), none, some (.int l5), some (.long v8), none]) (n := 36) 3 dX0_reduce_35 rfl rfl (Nat.le_of_ble_eq_true rfl) rfl rfl ?_
      refine rf_iinc (lc2 := [some (.ref 41), some (.long l3), none, some (.long v8), none, some (.int (l5 + (1 : Int32))), some (.long v8), none]) (n := 39) (w := (1 : Int32)) 5 dX0_reduce_36 rfl rfl rfl (Nat.le_of_ble_eq_true rfl) rfl rfl ?_
      refine rf_goto (tg := 13) dX0_reduce_39 rfl ?_
      refine rf_mask (lc2 := [some (.ref 41), some (.long l3), none, some (.long v8), none, some (.int (l5 + (1 : Int32))), none, none]) [true, true, true, true, true, true, false, true] rfl ?_
      exact hr13 _ _ _ _
theorem pX0_reduce_L13 {x : ax_X} {G : ax_G} (hG : ax_ok G) (n : Nat) (a1 : Int64) (a3 : Int64) (a5 : Int32) (μ : ax_M) : ax_Rf mX0_reduce 0 x (ax_Z ax_jV x G) G 0 0 13 [some (.ref 41), some (.long a1), none, some (.long a3), none, some (.int a5), none, none] [] μ (ax_lp3 (fX0_reduce_B13) n a1 a3 a5 μ) :=
  rf_lp3 (P := fun a1 a3 a5 μ t => ax_Rf mX0_reduce 0 x (ax_Z ax_jV x G) G 0 0 13 [some (.ref 41), some (.long a1), none, some (.long a3), none, some (.int a5), none, none] [] μ t) (fun _ _ _ _ => rf_none) (fun rc hrc a1 a3 a5 μ => pX0_reduce_B13 hG rc hrc a1 a3 a5 μ) n a1 a3 a5 μ
def fX0_reduce (μ : ax_M) : Option (Unit × ax_M) :=
  (ax_let (μ.2 41 6) (fun v1 => (ax_let (μ.2 41 7) (fun v2 => (ax_lp3 (fX0_reduce_B13) ax_FU v1 v2 (0 : Int32) μ)))))
theorem okX0_reduce (μ : ax_M) : ax_Ok mX0_reduce 0 ax_jV [.ref 41] μ (fX0_reduce μ) := by
  refine ax_start (lc := [some (.ref 41), none, none, none, none, none, none, none]) 7 (by decide +kernel) rfl (Nat.le_of_ble_eq_true rfl) (fun x G hG => ?_)
  unfold fX0_reduce
  refine rf_aload_n (n := 1) 0 dX0_reduce_0 rfl rfl rfl ?_
  refine rf_getL (n := 4) hG dX0_reduce_1 flX0_36 ki_0_6 sS_41 kk_41 rfl ?_
  refine rf_letL (fun v1 => ?_)
  refine rf_lstore_n (lc2 := [some (.ref 41), some (.long v1), none, none, none, none, none, none]) (n := 5) 1 dX0_reduce_4 rfl rfl (Nat.le_of_ble_eq_true rfl) rfl rfl ?_
  refine rf_aload_n (n := 6) 0 dX0_reduce_5 rfl rfl rfl ?_
  refine rf_getL (n := 9) hG dX0_reduce_6 flX0_40 ki_0_7 sS_41 kk_41 rfl ?_
  refine rf_letL (fun v2 => ?_)
  refine rf_lstore_n (lc2 := [some (.ref 41), some (.long v1), none, some (.long v2), none, none, none, none]) (n := 10) 3 dX0_reduce_9 rfl rfl (Nat.le_of_ble_eq_true rfl) rfl rfl ?_
  refine rf_iconst (n := 11) (0 : Int32) dX0_reduce_10 cciconst_0 rfl ?_
  refine rf_istore (lc2 := [some (.ref 41), some (.long v1), none, some (.long v2), none, some (.int (0 : Int32)), none, none]) (n := 13) 5 dX0_reduce_11 rfl (Nat.le_of_ble_eq_true rfl) rfl rfl ?_
  exact pX0_reduce_L13 hG _ _ _ _ _
def fX0_weigh_K75 (μ : ax_M) : Option (Unit × ax_M) :=
  (some ((), μ))
theorem pX0_weigh_K75 {x : ax_X} {G : ax_G} (hG : ax_ok G) (μ : ax_M) : ax_Rf mX0_weigh 1 x (ax_Z ax_jV x G) G 0 0 75 [none, none, none, none, none, none, none, none] [] μ (fX0_weigh_K75 μ) := by
  unfold fX0_weigh_K75
  exact rf_retV rfl dX0_weigh_75
def fX0_weigh_K45 (l1 : Int32) (l2 : Int64) (l4 : Int64) (μ : ax_M) : Option (Unit × ax_M) :=
  (Option.bind (ax_cp μ 44 10 (0 : Int32) 45 10 (0 : Int32) l1) (fun m2 => (ax_let (ax_wi m2 41 5 l1) (fun m3 => (ax_let (ax_wl m3 41 6 l2) (fun m4 => (ax_let (ax_wl m4 41 7 l4) (fun m5 => (fX0_weigh_K75 m5)))))))))
theorem pX0_weigh_K45 {x : ax_X} {G : ax_G} (hG : ax_ok G) (l1 : Int32) (l2 : Int64) (l4 : Int64) (μ : ax_M) : ax_Rf mX0_weigh 1 x (ax_Z ax_jV x G) G 0 0 45 [some (.ref 41), some (.int l1), some (.long l2), none, some (.long l4), none, none, none] [] μ (fX0_weigh_K45 l1 l2 l4 μ) := by
  unfold fX0_weigh_K45
  refine rf_aload_n (n := 46) 0 dX0_weigh_45 rfl rfl rfl ?_
  refine rf_getR (n := 49) rr_41_3 kk_44 hG dX0_weigh_46 flX0_18 ki_0_3 sS_41 kk_41 rfl ?_
  refine rf_iconst (n := 50) (0 : Int32) dX0_weigh_49 cciconst_0 rfl ?_
  refine rf_aload_n (n := 51) 0 dX0_weigh_50 rfl rfl rfl ?_
  refine rf_getR (n := 54) rr_41_4 kk_45 hG dX0_weigh_51 flX0_21 ki_0_4 sS_41 kk_41 rfl ?_
  refine rf_iconst (n := 55) (0 : Int32) dX0_weigh_54 cciconst_0 rfl ?_
  refine rf_iload_n (n := 56) 1 dX0_weigh_55 rfl rfl rfl ?_
  refine rf_copy (n := 59) hG dX0_weigh_56 cpX0_88 ax_cpw (Nat.le_of_ble_eq_true rfl) (Nat.le_of_ble_eq_true rfl) sS_44 sS_45 kk_44 kk_45 rfl (fun m2 => ?_)
  refine rf_aload_n (n := 60) 0 dX0_weigh_59 rfl rfl rfl ?_
  refine rf_iload_n (n := 61) 1 dX0_weigh_60 rfl rfl rfl ?_
  refine rf_pfI (n := 64) hG rfl dX0_weigh_61 flX0_32 ki_0_5 nf_0_5 sS_41 kk_41 rfl (fun m3 => ?_)
  refine rf_aload_n (n := 65) 0 dX0_weigh_64 rfl rfl rfl ?_
  refine rf_lload_n (n := 66) 2 dX0_weigh_65 rfl rfl rfl ?_
  refine rf_pfL (n := 69) hG rfl dX0_weigh_66 flX0_36 ki_0_6 nf_0_6 sS_41 kk_41 rfl (fun m4 => ?_)
  refine rf_aload_n (n := 70) 0 dX0_weigh_69 rfl rfl rfl ?_
  refine rf_lload (n := 72) 4 dX0_weigh_70 rfl rfl ?_
  refine rf_pfL (n := 75) hG rfl dX0_weigh_72 flX0_40 ki_0_7 nf_0_7 sS_41 kk_41 rfl (fun m5 => ?_)
  refine rf_mask (lc2 := [none, none, none, none, none, none, none, none]) [false, false, false, true, false, true, true, true] rfl ?_
  exact pX0_weigh_K75 hG _
def fX0_weigh (p1 : Int32) (p2 : Int64) (p4 : Int64) (μ : ax_M) : Option (Unit × ax_M) :=
  (ax_let ((p2 * (μ.2 41 7)) - ((μ.2 41 6) * p4)) (fun v1 => (if (μ.1 41 5) = 0 then (fX0_weigh_K45 p1 p2 p4 μ) else (if 0 < (lg_cmp v1 (0 : Int64)) then (fX0_weigh_K45 p1 p2 p4 μ) else (if (lg_cmp v1 (0 : Int64)) = 0 then (if (μ.1 41 5) ≤ p1 then (fX0_weigh_K75 μ) else (fX0_weigh_K45 p1 p2 p4 μ)) else (fX0_weigh_K75 μ))))))
theorem okX0_weigh (p1 : Int32) (p2 : Int64) (p4 : Int64) (μ : ax_M) : ax_Ok mX0_weigh 1 ax_jV [.ref 41, .int p1, .long p2, .long p4] μ (fX0_weigh p1 p2 p4 μ) := by
  refine ax_start (lc := [some (.ref 41), some (.int p1), some (.long p2), none, some (.long p4), none, none, none]) 2 (by decide +kernel) rfl (Nat.le_of_ble_eq_true rfl) (fun x G hG => ?_)
  unfold fX0_weigh
  refine rf_lload_n (n := 1) 2 dX0_weigh_0 rfl rfl rfl ?_
  refine rf_aload_n (n := 2) 0 dX0_weigh_1 rfl rfl rfl ?_
  refine rf_getL (n := 5) hG dX0_weigh_2 flX0_40 ki_0_7 sS_41 kk_41 rfl ?_
  refine rf_lmul (n := 6) dX0_weigh_5 rfl ?_
  refine rf_aload_n (n := 7) 0 dX0_weigh_6 rfl rfl rfl ?_
  refine rf_getL (n := 10) hG dX0_weigh_7 flX0_36 ki_0_6 sS_41 kk_41 rfl ?_
  refine rf_lload (n := 12) 4 dX0_weigh_10 rfl rfl ?_
  refine rf_lmul (n := 13) dX0_weigh_12 rfl ?_
  refine rf_lsub (n := 14) dX0_weigh_13 rfl ?_
  refine rf_letL (fun v1 => ?_)
  refine rf_lstore (lc2 := [some (.ref 41), some (.int p1), some (.long p2), none, some (.long p4), none, some (.long v1), none]) (n := 16) 6 dX0_weigh_14 rfl (Nat.le_of_ble_eq_true rfl) rfl rfl ?_
  refine rf_aload_n (n := 17) 0 dX0_weigh_16 rfl rfl rfl ?_
  refine rf_getI (n := 20) hG dX0_weigh_17 flX0_32 ki_0_5 sS_41 kk_41 rfl ?_
  refine rf_if_eq (tg := 45) (n := 23) dX0_weigh_20 rfl rfl (fun c9 => ?_) (fun c9 => ?_)
  · refine rf_mask (lc2 := [some (.ref 41), some (.int p1), some (.long p2), none, some (.long p4), none, none, none]) [true, true, true, true, true, true, false, true] rfl ?_
    exact pX0_weigh_K45 hG _ _ _ _
  · refine rf_lload (n := 25) 6 dX0_weigh_23 rfl rfl ?_
    refine rf_lconst (n := 26) (0 : Int64) dX0_weigh_25 rfl rfl ?_
    refine rf_lcmp (n := 27) dX0_weigh_26 rfl ?_
    refine rf_if_gt (tg := 45) (n := 30) dX0_weigh_27 rfl rfl (fun c8 => ?_) (fun c8 => ?_)
    · refine rf_mask (lc2 := [some (.ref 41), some (.int p1), some (.long p2), none, some (.long p4), none, none, none]) [true, true, true, true, true, true, false, true] rfl ?_
      exact pX0_weigh_K45 hG _ _ _ _
    · refine rf_lload (n := 32) 6 dX0_weigh_30 rfl rfl ?_
      refine rf_lconst (n := 33) (0 : Int64) dX0_weigh_32 rfl rfl ?_
      refine rf_lcmp (n := 34) dX0_weigh_33 rfl ?_
      refine rf_if_ne (tg := 75) (n := 37) dX0_weigh_34 rfl rfl (fun c7 => ?_) (fun c7 => ?_)
      · refine rf_mask (lc2 := [none, none, none, none, none, none, none, none]) [false, false, false, true, false, true, false, true] rfl ?_
        exact pX0_weigh_K75 hG _
      · refine rf_iload_n (n := 38) 1 dX0_weigh_37 rfl rfl rfl ?_
        refine rf_aload_n (n := 39) 0 dX0_weigh_38 rfl rfl rfl ?_
        refine rf_getI (n := 42) hG dX0_weigh_39 flX0_32 ki_0_5 sS_41 kk_41 rfl ?_
        refine rf_icmp_ge (tg := 75) (n := 45) dX0_weigh_42 rfl rfl (fun c6 => ?_) (fun c6 => ?_)
        · refine rf_mask (lc2 := [none, none, none, none, none, none, none, none]) [false, false, false, true, false, true, false, true] rfl ?_
          exact pX0_weigh_K75 hG _
        · refine rf_mask (lc2 := [some (.ref 41), some (.int p1), some (.long p2), none, some (.long p4), none, none, none]) [true, true, true, true, true, true, false, true] rfl ?_
          exact pX0_weigh_K45 hG _ _ _ _
def fX0_follow_K141 (fr : Int32 → Int32 → Int32 → Int32 → Int32 → Int32 → ax_M → Option (Unit × ax_M)) (l1 : Int32) (l2 : Int32) (l3 : Int32) (l4 : Int32) (l5 : Int32) (l6 : Int32) (l7 : Int32) (r17 : Int32 → ax_M → Option (Unit × ax_M)) (μ : ax_M) : Option (Unit × ax_M) :=
  (r17 (l7 + (1 : Int32)) μ)
theorem pX0_follow_K141 {x : ax_X} {G : ax_G} (hG : ax_ok G) {n0 : Nat} (fr : Int32 → Int32 → Int32 → Int32 → Int32 → Int32 → ax_M → Option (Unit × ax_M)) (hfr : ∀ (p1 : Int32) (p2 : Int32) (p3 : Int32) (p4 : Int32) (p5 : Int32) (p6 : Int32) (μ : ax_M), ax_Ok mX0_follow (n0 + 2) ax_jV [.ref 41, .int p1, .int p2, .int p3, .int p4, .int p5, .int p6] μ (fr p1 p2 p3 p4 p5 p6 μ))  (l1 : Int32) (l2 : Int32) (l3 : Int32) (l4 : Int32) (l5 : Int32) (l6 : Int32) (l7 : Int32) (r17 : Int32 → ax_M → Option (Unit × ax_M)) (hr17 : ∀ (a7 : Int32) (μ : ax_M), ax_Rf mX0_follow (n0 + 2 + 1) x (ax_Z ax_jV x G) G 0 0 17 [some (.ref 41), some (.int l1), some (.int l2), some (.int l3), some (.int l4), some (.int l5), some (.int l6), some (.int a7), none, none, none] [] μ (r17 a7 μ)) (μ : ax_M) : ax_Rf mX0_follow (n0 + 2 + 1) x (ax_Z ax_jV x G) G 0 0 141 [some (.ref 41), some (.int l1), some (.int l2), some (.int l3), some (.int l4), some (.int l5), some (.int l6), some (.int l7), none, none, none] [] μ (fX0_follow_K141 fr l1 l2 l3 l4 l5 l6 l7 r17 μ) := by
  unfold fX0_follow_K141
  refine rf_iinc (lc2 := [some (.ref 41), some (.int l1), some (.int l2), some (.int l3), some (.int l4), some (.int l5), some (.int l6), some (.int (l7 + (1 : Int32))), none, none, none]) (n := 144) (w := (1 : Int32)) 7 dX0_follow_141 rfl rfl rfl (Nat.le_of_ble_eq_true rfl) rfl rfl ?_
  refine rf_goto (tg := 17) dX0_follow_144 rfl ?_
  exact hr17 _ _
def fX0_follow_B17 (fr : Int32 → Int32 → Int32 → Int32 → Int32 → Int32 → ax_M → Option (Unit × ax_M)) (l1 : Int32) (l2 : Int32) (l3 : Int32) (l4 : Int32) (l5 : Int32) (l6 : Int32) (r17 : Int32 → ax_M → Option (Unit × ax_M)) (l7 : Int32) (μ : ax_M) : Option (Unit × ax_M) :=
  (if (μ.1 2 13) ≤ l7 then (some ((), μ)) else (Option.bind (ax_rd μ 42 10 l2) (fun v2 => (if ((v2 >>> (l7 &&& 31)) &&& (1 : Int32)) = 0 then (fX0_follow_K141 fr l1 l2 l3 l4 l5 l6 l7 r17 μ) else (Option.bind (ax_rd μ 43 100 ((l2 * (10 : Int32)) + l7)) (fun v3 => (ax_bd (fX1_delayOf v3 μ) (fun v4 m5 => (ax_let (l5 + v4) (fun v6 => (ax_bd (fX1_shiftOf v3 m5) (fun v7 m8 => (ax_let (l6 + v7) (fun v9 => (if l7 = l1 then (ax_bd (fX0_weigh (l3 + (1 : Int32)) (Int32.toInt64 v6) (Int32.toInt64 v9) m8) (fun _ m14 => (fX0_follow_K141 fr l1 l2 l3 l4 l5 l6 l7 r17 m14))) else (if ((l4 >>> (l7 &&& 31)) &&& (1 : Int32)) = 0 then (ax_bd (fr l1 l7 (l3 + (1 : Int32)) (l4 ||| ((1 : Int32) <<< (l7 &&& 31))) v6 v9 m8) (fun _ m11 => (fX0_follow_K141 fr l1 l2 l3 l4 l5 l6 l7 r17 m11))) else (fX0_follow_K141 fr l1 l2 l3 l4 l5 l6 l7 r17 m8)))))))))))))))))
theorem pX0_follow_B17 {x : ax_X} {G : ax_G} (hG : ax_ok G) {n0 : Nat} (fr : Int32 → Int32 → Int32 → Int32 → Int32 → Int32 → ax_M → Option (Unit × ax_M)) (hfr : ∀ (p1 : Int32) (p2 : Int32) (p3 : Int32) (p4 : Int32) (p5 : Int32) (p6 : Int32) (μ : ax_M), ax_Ok mX0_follow (n0 + 2) ax_jV [.ref 41, .int p1, .int p2, .int p3, .int p4, .int p5, .int p6] μ (fr p1 p2 p3 p4 p5 p6 μ))  (l1 : Int32) (l2 : Int32) (l3 : Int32) (l4 : Int32) (l5 : Int32) (l6 : Int32) (r17 : Int32 → ax_M → Option (Unit × ax_M)) (hr17 : ∀ (a7 : Int32) (μ : ax_M), ax_Rf mX0_follow (n0 + 2 + 1) x (ax_Z ax_jV x G) G 0 0 17 [some (.ref 41), some (.int l1), some (.int l2), some (.int l3), some (.int l4), some (.int l5), some (.int l6), some (.int a7), none, none, none] [] μ (r17 a7 μ)) (l7 : Int32) (μ : ax_M) : ax_Rf mX0_follow (n0 + 2 + 1) x (ax_Z ax_jV x G) G 0 0 17 [some (.ref 41), some (.int l1), some (.int l2), some (.int l3), some (.int l4), some (.int l5), some (.int l6), some (.int l7), none, none, none] [] μ (fX0_follow_B17 fr l1 l2 l3 l4 l5 l6 r17 l7 μ) := by
  unfold fX0_follow_B17
  refine rf_iload (n := 19) 7 dX0_follow_17 rfl rfl ?_
  refine rf_aload_n (n := 20) 0 dX0_follow_19 rfl rfl rfl ?_
  refine rf_getR (n := 23) rr_41_0 kk_2 hG dX0_follow_20 flX0_24 ki_0_0 sS_41 kk_41 rfl ?_
  refine rf_getI (n := 26) hG dX0_follow_23 flX0_46 ki_1_13 sS_2 kk_2 rfl ?_
  refine rf_icmp_ge (tg := 147) (n := 29) dX0_follow_26 rfl rfl (fun c17 => ?_) (fun c17 => ?_)
  · exact rf_retV rfl dX0_follow_147
  · refine rf_aload_n (n := 30) 0 dX0_follow_29 rfl rfl rfl ?_
    refine rf_getR (n := 33) rr_41_1 kk_42 hG dX0_follow_30 flX0_9 ki_0_1 sS_41 kk_41 rfl ?_
    refine rf_iload_n (n := 34) 2 dX0_follow_33 rfl rfl rfl ?_
    refine rf_iald (n := 35) hG dX0_follow_34 sS_42 kk_42 rfl (fun v2 => ?_)
    refine rf_iload (n := 37) 7 dX0_follow_35 rfl rfl ?_
    refine rf_ishr (n := 38) dX0_follow_37 rfl ?_
    refine rf_iconst (n := 39) (1 : Int32) dX0_follow_38 cciconst_1 rfl ?_
    refine rf_iand (n := 40) dX0_follow_39 rfl ?_
    refine rf_if_ne (tg := 46) (n := 43) dX0_follow_40 rfl rfl (fun c16 => ?_) (fun c16 => ?_)
    · refine rf_aload_n (n := 47) 0 dX0_follow_46 rfl rfl rfl ?_
      refine rf_getR (n := 50) rr_41_2 kk_43 hG dX0_follow_47 flX0_15 ki_0_2 sS_41 kk_41 rfl ?_
      refine rf_iload_n (n := 51) 2 dX0_follow_50 rfl rfl rfl ?_
      refine rf_bipush (n := 53) (10 : Int32) dX0_follow_51 ccbipush_10 rfl ?_
      refine rf_imul (n := 54) dX0_follow_53 rfl ?_
      refine rf_iload (n := 56) 7 dX0_follow_54 rfl rfl ?_
      refine rf_iadd (n := 57) dX0_follow_56 rfl ?_
      refine rf_iald (n := 58) hG dX0_follow_57 sS_43 kk_43 rfl (fun v3 => ?_)
      refine rf_istore (lc2 := [some (.ref 41), some (.int l1), some (.int l2), some (.int l3), some (.int l4), some (.int l5), some (.int l6), some (.int l7), some (.int v3), none, none]) (n := 60) 8 dX0_follow_58 rfl (Nat.le_of_ble_eq_true rfl) rfl rfl ?_
      refine rf_iload (n := 62) 5 dX0_follow_60 rfl rfl ?_
      refine rf_aload_n (n := 63) 0 dX0_follow_62 rfl rfl rfl ?_
      refine rf_getR (n := 66) rr_41_0 kk_2 hG dX0_follow_63 flX0_24 ki_0_0 sS_41 kk_41 rfl ?_
      refine rf_iload (n := 68) 8 dX0_follow_66 rfl rfl ?_
      refine rf_cV1I (n := 71) hG (okX1_delayOf _ _) lVX0_77 hhX1_delayOf kk_2 sS_2 ⟨_, rfl, rfl⟩ dX0_follow_68 rfl (by omega) (Nat.le_of_ble_eq_true rfl) (fun v4 m5 => ?_)
      refine rf_iadd (n := 72) dX0_follow_71 rfl ?_
      refine rf_letI (fun v6 => ?_)
      refine rf_istore (lc2 := [some (.ref 41), some (.int l1), some (.int l2), some (.int l3), some (.int l4), some (.int l5), some (.int l6), some (.int l7), some (.int v3), some (.int v6), none]) (n := 74) 9 dX0_follow_72 rfl (Nat.le_of_ble_eq_true rfl) rfl rfl ?_
      refine rf_iload (n := 76) 6 dX0_follow_74 rfl rfl ?_
      refine rf_aload_n (n := 77) 0 dX0_follow_76 rfl rfl rfl ?_
      refine rf_getR (n := 80) rr_41_0 kk_2 hG dX0_follow_77 flX0_24 ki_0_0 sS_41 kk_41 rfl ?_
      refine rf_iload (n := 82) 8 dX0_follow_80 rfl rfl ?_
      refine rf_cV1I (n := 85) hG (okX1_shiftOf _ _) lVX0_81 hhX1_shiftOf kk_2 sS_2 ⟨_, rfl, rfl⟩ dX0_follow_82 rfl (by omega) (Nat.le_of_ble_eq_true rfl) (fun v7 m8 => ?_)
      refine rf_iadd (n := 86) dX0_follow_85 rfl ?_
      refine rf_letI (fun v9 => ?_)
      refine rf_istore (lc2 := [some (.ref 41), some (.int l1), some (.int l2), some (.int l3), some (.int l4), some (.int l5), some (.int l6), some (.int l7), some (.int v3), some (.int v6), some (.int v9)]) (n := 88) 10 dX0_follow_86 rfl (Nat.le_of_ble_eq_true rfl) rfl rfl ?_
      refine rf_iload (n := 90) 7 dX0_follow_88 rfl rfl ?_
      refine rf_iload_n (n := 91) 1 dX0_follow_90 rfl rfl rfl ?_
      refine rf_icmp_ne (tg := 110) (n := 94) dX0_follow_91 rfl rfl (fun c15 => ?_) (fun c15 => ?_)
      · refine rf_iload (n := 112) 4 dX0_follow_110 rfl rfl ?_
        refine rf_iload (n := 114) 7 dX0_follow_112 rfl rfl ?_
        refine rf_ishr (n := 115) dX0_follow_114 rfl ?_
        refine rf_iconst (n := 116) (1 : Int32) dX0_follow_115 cciconst_1 rfl ?_
        refine rf_iand (n := 117) dX0_follow_116 rfl ?_
        refine rf_if_ne (tg := 141) (n := 120) dX0_follow_117 rfl rfl (fun c12 => ?_) (fun c12 => ?_)
        · refine rf_mask (lc2 := [some (.ref 41), some (.int l1), some (.int l2), some (.int l3), some (.int l4), some (.int l5), some (.int l6), some (.int l7), none, none, none]) [true, true, true, true, true, true, true, true, false, false, false] rfl ?_
          exact pX0_follow_K141 hG fr hfr _ _ _ _ _ _ _ r17 hr17 _
        · refine rf_aload_n (n := 121) 0 dX0_follow_120 rfl rfl rfl ?_
          refine rf_iload_n (n := 122) 1 dX0_follow_121 rfl rfl rfl ?_
          refine rf_iload (n := 124) 7 dX0_follow_122 rfl rfl ?_
          refine rf_iload_n (n := 125) 3 dX0_follow_124 rfl rfl rfl ?_
          refine rf_iconst (n := 126) (1 : Int32) dX0_follow_125 cciconst_1 rfl ?_
          refine rf_iadd (n := 127) dX0_follow_126 rfl ?_
          refine rf_iload (n := 129) 4 dX0_follow_127 rfl rfl ?_
          refine rf_iconst (n := 130) (1 : Int32) dX0_follow_129 cciconst_1 rfl ?_
          refine rf_iload (n := 132) 7 dX0_follow_130 rfl rfl ?_
          refine rf_ishl (n := 133) dX0_follow_132 rfl ?_
          refine rf_ior (n := 134) dX0_follow_133 rfl ?_
          refine rf_iload (n := 136) 9 dX0_follow_134 rfl rfl ?_
          refine rf_iload (n := 138) 10 dX0_follow_136 rfl rfl ?_
          refine rf_cV6V (n := 141) hG (hfr _ _ _ _ _ _ _) lVX0_55 hhX0_follow kk_41 sS_41 ⟨_, rfl, rfl⟩ dX0_follow_138 rfl (Nat.le_refl _) (Nat.le_of_ble_eq_true rfl) (fun _ m11 => ?_)
          refine rf_mask (lc2 := [some (.ref 41), some (.int l1), some (.int l2), some (.int l3), some (.int l4), some (.int l5), some (.int l6), some (.int l7), none, none, none]) [true, true, true, true, true, true, true, true, false, false, false] rfl ?_
          exact pX0_follow_K141 hG fr hfr _ _ _ _ _ _ _ r17 hr17 _
      · refine rf_aload_n (n := 95) 0 dX0_follow_94 rfl rfl rfl ?_
        refine rf_iload_n (n := 96) 3 dX0_follow_95 rfl rfl rfl ?_
        refine rf_iconst (n := 97) (1 : Int32) dX0_follow_96 cciconst_1 rfl ?_
        refine rf_iadd (n := 98) dX0_follow_97 rfl ?_
        refine rf_iload (n := 100) 9 dX0_follow_98 rfl rfl ?_
        refine rf_i2l (n := 101) dX0_follow_100 rfl ?_
        refine rf_iload (n := 103) 10 dX0_follow_101 rfl rfl ?_
        refine rf_i2l (n := 104) dX0_follow_103 rfl ?_
        refine rf_cV3V (n := 107) hG (okX0_weigh _ _ _ _) lVX0_84 hhX0_weigh kk_41 sS_41 ⟨_, rfl, rfl⟩ dX0_follow_104 rfl (by omega) (Nat.le_of_ble_eq_true rfl) (fun _ m14 => ?_)
        refine rf_goto (tg := 141) dX0_follow_107 rfl ?_
        refine rf_mask (lc2 := [some (.ref 41), some (.int l1), some (.int l2), some (.int l3), some (.int l4), some (.int l5), some (.int l6), some (.int l7), none, none, none]) [true, true, true, true, true, true, true, true, false, false, false] rfl ?_
        exact pX0_follow_K141 hG fr hfr _ _ _ _ _ _ _ r17 hr17 _
    · refine rf_goto (tg := 141) dX0_follow_43 rfl ?_
      exact pX0_follow_K141 hG fr hfr _ _ _ _ _ _ _ r17 hr17 _
theorem pX0_follow_L17 {x : ax_X} {G : ax_G} (hG : ax_ok G) {n0 : Nat} (fr : Int32 → Int32 → Int32 → Int32 → Int32 → Int32 → ax_M → Option (Unit × ax_M)) (hfr : ∀ (p1 : Int32) (p2 : Int32) (p3 : Int32) (p4 : Int32) (p5 : Int32) (p6 : Int32) (μ : ax_M), ax_Ok mX0_follow (n0 + 2) ax_jV [.ref 41, .int p1, .int p2, .int p3, .int p4, .int p5, .int p6] μ (fr p1 p2 p3 p4 p5 p6 μ))  (l1 : Int32) (l2 : Int32) (l3 : Int32) (l4 : Int32) (l5 : Int32) (l6 : Int32) (n : Nat) (a7 : Int32) (μ : ax_M) : ax_Rf mX0_follow (n0 + 2 + 1) x (ax_Z ax_jV x G) G 0 0 17 [some (.ref 41), some (.int l1), some (.int l2), some (.int l3), some (.int l4), some (.int l5), some (.int l6), some (.int a7), none, none, none] [] μ (ax_lp1 (fX0_follow_B17 fr l1 l2 l3 l4 l5 l6) n a7 μ) :=
  rf_lp1 (P := fun a7 μ t => ax_Rf mX0_follow (n0 + 2 + 1) x (ax_Z ax_jV x G) G 0 0 17 [some (.ref 41), some (.int l1), some (.int l2), some (.int l3), some (.int l4), some (.int l5), some (.int l6), some (.int a7), none, none, none] [] μ t) (fun _ _ => rf_none) (fun rc hrc a7 μ => pX0_follow_B17 hG fr hfr l1 l2 l3 l4 l5 l6 rc hrc a7 μ) n a7 μ
def gX0_follow (fr : Int32 → Int32 → Int32 → Int32 → Int32 → Int32 → ax_M → Option (Unit × ax_M)) (p1 : Int32) (p2 : Int32) (p3 : Int32) (p4 : Int32) (p5 : Int32) (p6 : Int32) (μ : ax_M) : Option (Unit × ax_M) :=
  (if p3 < (10 : Int32) then (Option.bind (ax_wr μ 44 10 p3 p2) (fun m1 => (ax_lp1 (fX0_follow_B17 fr p1 p2 p3 p4 p5 p6) ax_FU p1 m1))) else (some ((), μ)))
def fX0_follow_n : Nat → Int32 → Int32 → Int32 → Int32 → Int32 → Int32 → ax_M → Option (Unit × ax_M)
  | 0, _, _, _, _, _, _, _ => none
  | n + 1, p1, p2, p3, p4, p5, p6, μ => gX0_follow (fX0_follow_n n) p1 p2 p3 p4 p5 p6 μ
theorem okX0_follow_g {n0 : Nat} (fr : Int32 → Int32 → Int32 → Int32 → Int32 → Int32 → ax_M → Option (Unit × ax_M)) (hfr : ∀ (p1 : Int32) (p2 : Int32) (p3 : Int32) (p4 : Int32) (p5 : Int32) (p6 : Int32) (μ : ax_M), ax_Ok mX0_follow (n0 + 2) ax_jV [.ref 41, .int p1, .int p2, .int p3, .int p4, .int p5, .int p6] μ (fr p1 p2 p3 p4 p5 p6 μ))  (p1 : Int32) (p2 : Int32) (p3 : Int32) (p4 : Int32) (p5 : Int32) (p6 : Int32) (μ : ax_M) : ax_Ok mX0_follow (n0 + 2 + 1) ax_jV [.ref 41, .int p1, .int p2, .int p3, .int p4, .int p5, .int p6] μ (gX0_follow fr p1 p2 p3 p4 p5 p6 μ) := by
  refine ax_start (lc := [some (.ref 41), some (.int p1), some (.int p2), some (.int p3), some (.int p4), some (.int p5), some (.int p6), none, none, none, none]) 4 (by decide) rfl (Nat.le_of_ble_eq_true rfl) (fun x G hG => ?_)
  unfold gX0_follow
  refine rf_iload_n (n := 1) 3 dX0_follow_0 rfl rfl rfl ?_
  refine rf_bipush (n := 3) (10 : Int32) dX0_follow_1 ccbipush_10 rfl ?_
  refine rf_icmp_lt (tg := 7) (n := 6) dX0_follow_3 rfl rfl (fun c18 => ?_) (fun c18 => ?_)
  · refine rf_aload_n (n := 8) 0 dX0_follow_7 rfl rfl rfl ?_
    refine rf_getR (n := 11) rr_41_3 kk_44 hG dX0_follow_8 flX0_18 ki_0_3 sS_41 kk_41 rfl ?_
    refine rf_iload_n (n := 12) 3 dX0_follow_11 rfl rfl rfl ?_
    refine rf_iload_n (n := 13) 2 dX0_follow_12 rfl rfl rfl ?_
    refine rf_iast (n := 14) hG dX0_follow_13 sS_44 kk_44 rfl (fun m1 => ?_)
    refine rf_iload_n (n := 15) 1 dX0_follow_14 rfl rfl rfl ?_
    refine rf_istore (lc2 := [some (.ref 41), some (.int p1), some (.int p2), some (.int p3), some (.int p4), some (.int p5), some (.int p6), some (.int p1), none, none, none]) (n := 17) 7 dX0_follow_15 rfl (Nat.le_of_ble_eq_true rfl) rfl rfl ?_
    exact pX0_follow_L17 hG fr hfr _ _ _ _ _ _ _ _ _
  · exact rf_retV rfl dX0_follow_6
theorem okX0_follow_n : ∀ (n0 : Nat) (p1 : Int32) (p2 : Int32) (p3 : Int32) (p4 : Int32) (p5 : Int32) (p6 : Int32) (μ : ax_M), ax_Ok mX0_follow (n0 + 2) ax_jV [.ref 41, .int p1, .int p2, .int p3, .int p4, .int p5, .int p6] μ (fX0_follow_n n0 p1 p2 p3 p4 p5 p6 μ)
  | 0, _, _, _, _, _, _, _ => fun _ _ _ _ _ h => by cases h
  | n0 + 1, p1, p2, p3, p4, p5, p6, μ => by
    have h := okX0_follow_g (n0 := n0) (fr := fX0_follow_n n0) (hfr := okX0_follow_n n0) p1 p2 p3 p4 p5 p6 μ
    rw [show n0 + 1 + 2 = n0 + 2 + 1 by omega]
    exact h
def fX0_follow (p1 : Int32) (p2 : Int32) (p3 : Int32) (p4 : Int32) (p5 : Int32) (p6 : Int32) (μ : ax_M) : Option (Unit × ax_M) := fX0_follow_n 12 p1 p2 p3 p4 p5 p6 μ
theorem okX0_follow (p1 : Int32) (p2 : Int32) (p3 : Int32) (p4 : Int32) (p5 : Int32) (p6 : Int32) (μ : ax_M) : ax_Ok mX0_follow 14 ax_jV [.ref 41, .int p1, .int p2, .int p3, .int p4, .int p5, .int p6] μ (fX0_follow p1 p2 p3 p4 p5 p6 μ) := okX0_follow_n 12 p1 p2 p3 p4 p5 p6 μ
def fX0_look_K68 (l1 : Int32) (r34 : Int32 → ax_M → Option (Unit × ax_M)) (μ : ax_M) : Option (Unit × ax_M) :=
  (r34 (l1 + (1 : Int32)) μ)
theorem pX0_look_K68 {x : ax_X} {G : ax_G} (hG : ax_ok G) (l1 : Int32) (r34 : Int32 → ax_M → Option (Unit × ax_M)) (hr34 : ∀ (a1 : Int32) (μ : ax_M), ax_Rf mX0_look 15 x (ax_Z ax_jV x G) G 0 0 34 [some (.ref 41), some (.int a1)] [] μ (r34 a1 μ)) (μ : ax_M) : ax_Rf mX0_look 15 x (ax_Z ax_jV x G) G 0 0 68 [some (.ref 41), some (.int l1)] [] μ (fX0_look_K68 l1 r34 μ) := by
  unfold fX0_look_K68
  refine rf_iinc (lc2 := [some (.ref 41), some (.int (l1 + (1 : Int32)))]) (n := 71) (w := (1 : Int32)) 1 dX0_look_68 rfl rfl rfl (Nat.le_of_ble_eq_true rfl) rfl rfl ?_
  refine rf_goto (tg := 34) dX0_look_71 rfl ?_
  exact hr34 _ _
def fX0_look_B34 (r34 : Int32 → ax_M → Option (Unit × ax_M)) (l1 : Int32) (μ : ax_M) : Option (Unit × ax_M) :=
  (if (μ.1 2 13) ≤ l1 then (ax_bd (fX0_reduce μ) (fun _ m8 => (some ((), m8)))) else (ax_bd (fX1_isFlop l1 μ) (fun v9 m10 => (if v9 = 0 then (ax_bd (fX0_follow l1 l1 (0 : Int32) ((1 : Int32) <<< (l1 &&& 31)) (0 : Int32) (0 : Int32) m10) (fun _ m12 => (fX0_look_K68 l1 r34 m12))) else (fX0_look_K68 l1 r34 m10)))))
theorem pX0_look_B34 {x : ax_X} {G : ax_G} (hG : ax_ok G) (r34 : Int32 → ax_M → Option (Unit × ax_M)) (hr34 : ∀ (a1 : Int32) (μ : ax_M), ax_Rf mX0_look 15 x (ax_Z ax_jV x G) G 0 0 34 [some (.ref 41), some (.int a1)] [] μ (r34 a1 μ)) (l1 : Int32) (μ : ax_M) : ax_Rf mX0_look 15 x (ax_Z ax_jV x G) G 0 0 34 [some (.ref 41), some (.int l1)] [] μ (fX0_look_B34 r34 l1 μ) := by
  unfold fX0_look_B34
  refine rf_iload_n (n := 35) 1 dX0_look_34 rfl rfl rfl ?_
  refine rf_aload_n (n := 36) 0 dX0_look_35 rfl rfl rfl ?_
  refine rf_getR (n := 39) rr_41_0 kk_2 hG dX0_look_36 flX0_24 ki_0_0 sS_41 kk_41 rfl ?_
  refine rf_getI (n := 42) hG dX0_look_39 flX0_46 ki_1_13 sS_2 kk_2 rfl ?_
  refine rf_icmp_ge (tg := 74) (n := 45) dX0_look_42 rfl rfl (fun c14 => ?_) (fun c14 => ?_)
  · refine rf_aload_n (n := 75) 0 dX0_look_74 rfl rfl rfl ?_
    refine rf_cV0V (n := 78) hG (okX0_reduce _) lVX0_59 hhX0_reduce kk_41 sS_41 ⟨_, rfl, rfl⟩ dX0_look_75 rfl (Nat.le_of_ble_eq_true rfl) (Nat.le_of_ble_eq_true rfl) (fun _ m8 => ?_)
    exact rf_retV rfl dX0_look_78
  · refine rf_aload_n (n := 46) 0 dX0_look_45 rfl rfl rfl ?_
    refine rf_getR (n := 49) rr_41_0 kk_2 hG dX0_look_46 flX0_24 ki_0_0 sS_41 kk_41 rfl ?_
    refine rf_iload_n (n := 50) 1 dX0_look_49 rfl rfl rfl ?_
    refine rf_cV1I (n := 53) hG (okX1_isFlop _ _) lVX0_51 hhX1_isFlop kk_2 sS_2 ⟨_, rfl, rfl⟩ dX0_look_50 rfl (Nat.le_of_ble_eq_true rfl) (Nat.le_of_ble_eq_true rfl) (fun v9 m10 => ?_)
    refine rf_if_ne (tg := 68) (n := 56) dX0_look_53 rfl rfl (fun c13 => ?_) (fun c13 => ?_)
    · exact pX0_look_K68 hG _ r34 hr34 _
    · refine rf_aload_n (n := 57) 0 dX0_look_56 rfl rfl rfl ?_
      refine rf_iload_n (n := 58) 1 dX0_look_57 rfl rfl rfl ?_
      refine rf_iload_n (n := 59) 1 dX0_look_58 rfl rfl rfl ?_
      refine rf_iconst (n := 60) (0 : Int32) dX0_look_59 cciconst_0 rfl ?_
      refine rf_iconst (n := 61) (1 : Int32) dX0_look_60 cciconst_1 rfl ?_
      refine rf_iload_n (n := 62) 1 dX0_look_61 rfl rfl rfl ?_
      refine rf_ishl (n := 63) dX0_look_62 rfl ?_
      refine rf_iconst (n := 64) (0 : Int32) dX0_look_63 cciconst_0 rfl ?_
      refine rf_iconst (n := 65) (0 : Int32) dX0_look_64 cciconst_0 rfl ?_
      refine rf_cV6V (n := 68) hG (okX0_follow _ _ _ _ _ _ _) lVX0_55 hhX0_follow kk_41 sS_41 ⟨_, rfl, rfl⟩ dX0_look_65 rfl (Nat.le_of_ble_eq_true rfl) (Nat.le_of_ble_eq_true rfl) (fun _ m12 => ?_)
      exact pX0_look_K68 hG _ r34 hr34 _
theorem pX0_look_L34 {x : ax_X} {G : ax_G} (hG : ax_ok G) (n : Nat) (a1 : Int32) (μ : ax_M) : ax_Rf mX0_look 15 x (ax_Z ax_jV x G) G 0 0 34 [some (.ref 41), some (.int a1)] [] μ (ax_lp1 (fX0_look_B34) n a1 μ) :=
  rf_lp1 (P := fun a1 μ t => ax_Rf mX0_look 15 x (ax_Z ax_jV x G) G 0 0 34 [some (.ref 41), some (.int a1)] [] μ t) (fun _ _ => rf_none) (fun rc hrc a1 μ => pX0_look_B34 hG rc hrc a1 μ) n a1 μ
def fX0_look (μ : ax_M) : Option (Unit × ax_M) :=
  (if (μ.1 41 8) = 0 then (ax_let (ax_wi μ 41 8 (1 : Int32)) (fun m1 => (ax_let (ax_wi m1 41 5 (0 : Int32)) (fun m2 => (ax_let (ax_wl m2 41 6 (0 : Int64)) (fun m3 => (ax_let (ax_wl m3 41 7 (1 : Int64)) (fun m4 => (ax_bd (fX0_linkCells m4) (fun _ m6 => (ax_lp1 (fX0_look_B34) ax_FU (0 : Int32) m6))))))))))) else (some ((), μ)))
theorem okX0_look (μ : ax_M) : ax_Ok mX0_look 15 ax_jV [.ref 41] μ (fX0_look μ) := by
  refine ax_start (lc := [some (.ref 41), none]) 1 (by decide +kernel) rfl (Nat.le_of_ble_eq_true rfl) (fun x G hG => ?_)
  unfold fX0_look
  refine rf_aload_n (n := 1) 0 dX0_look_0 rfl rfl rfl ?_
  refine rf_getI (n := 4) hG dX0_look_1 flX0_28 ki_0_8 sS_41 kk_41 rfl ?_
  refine rf_if_eq (tg := 8) (n := 7) dX0_look_4 rfl rfl (fun c15 => ?_) (fun c15 => ?_)
  · refine rf_aload_n (n := 9) 0 dX0_look_8 rfl rfl rfl ?_
    refine rf_iconst (n := 10) (1 : Int32) dX0_look_9 cciconst_1 rfl ?_
    refine rf_pfZ (n := 13) hG rfl (Or.inr rfl) dX0_look_10 flX0_28 ki_0_8 nf_0_8 sS_41 kk_41 rfl (fun m1 => ?_)
    refine rf_aload_n (n := 14) 0 dX0_look_13 rfl rfl rfl ?_
    refine rf_iconst (n := 15) (0 : Int32) dX0_look_14 cciconst_0 rfl ?_
    refine rf_pfI (n := 18) hG rfl dX0_look_15 flX0_32 ki_0_5 nf_0_5 sS_41 kk_41 rfl (fun m2 => ?_)
    refine rf_aload_n (n := 19) 0 dX0_look_18 rfl rfl rfl ?_
    refine rf_lconst (n := 20) (0 : Int64) dX0_look_19 rfl rfl ?_
    refine rf_pfL (n := 23) hG rfl dX0_look_20 flX0_36 ki_0_6 nf_0_6 sS_41 kk_41 rfl (fun m3 => ?_)
    refine rf_aload_n (n := 24) 0 dX0_look_23 rfl rfl rfl ?_
    refine rf_lconst (n := 25) (1 : Int64) dX0_look_24 rfl rfl ?_
    refine rf_pfL (n := 28) hG rfl dX0_look_25 flX0_40 ki_0_7 nf_0_7 sS_41 kk_41 rfl (fun m4 => ?_)
    refine rf_aload_n (n := 29) 0 dX0_look_28 rfl rfl rfl ?_
    refine rf_cV0V (n := 32) hG (okX0_linkCells _) lVX0_43 hhX0_linkCells kk_41 sS_41 ⟨_, rfl, rfl⟩ dX0_look_29 rfl (Nat.le_of_ble_eq_true rfl) (Nat.le_of_ble_eq_true rfl) (fun _ m6 => ?_)
    refine rf_iconst (n := 33) (0 : Int32) dX0_look_32 cciconst_0 rfl ?_
    refine rf_istore_n (lc2 := [some (.ref 41), some (.int (0 : Int32))]) (n := 34) 1 dX0_look_33 rfl rfl (Nat.le_of_ble_eq_true rfl) rfl rfl ?_
    exact pX0_look_L34 hG _ _ _
  · exact rf_retV rfl dX0_look_7
def fX8_ratio_K28 (s0 : Int64) (μ : ax_M) : Option (Int64 × ax_M) :=
  (some (s0, μ))
theorem pX8_ratio_K28 {x : ax_X} {G : ax_G} (hG : ax_ok G) (s0 : Int64) (μ : ax_M) : ax_Rf mX8_ratio 16 x (ax_Z ax_jL x G) G 0 0 28 [none, none] [.long s0] μ (fX8_ratio_K28 s0 μ) := by
  unfold fX8_ratio_K28
  exact rf_retL rfl dX8_ratio_28
def fX8_ratio (p1 : Int32) (μ : ax_M) : Option (Int64 × ax_M) :=
  (ax_bd (fX0_look μ) (fun _ m2 => (if p1 = 0 then (fX8_ratio_K28 (m2.2 41 6) m2) else (fX8_ratio_K28 (m2.2 41 7) m2))))
theorem okX8_ratio (p1 : Int32) (μ : ax_M) : ax_Ok mX8_ratio 16 ax_jL [.ref 0, .int p1] μ (fX8_ratio p1 μ) := by
  refine ax_start (lc := [some (.ref 0), some (.int p1)]) 0 (by decide +kernel) rfl (Nat.le_of_ble_eq_true rfl) (fun x G hG => ?_)
  unfold fX8_ratio
  refine rf_aload_n (n := 1) 0 dX8_ratio_0 rfl rfl rfl ?_
  refine rf_getR (n := 4) rr_0_7 kk_41 hG dX8_ratio_1 flX8_55 ki_8_7 sS_0 kk_0 rfl ?_
  refine rf_cV0V (n := 7) hG (okX0_look _) lVX8_259 hhX0_look kk_41 sS_41 ⟨_, rfl, rfl⟩ dX8_ratio_4 rfl (Nat.le_of_ble_eq_true rfl) (Nat.le_of_ble_eq_true rfl) (fun _ m2 => ?_)
  refine rf_iload_n (n := 8) 1 dX8_ratio_7 rfl rfl rfl ?_
  refine rf_if_eq (tg := 21) (n := 11) dX8_ratio_8 rfl rfl (fun c3 => ?_) (fun c3 => ?_)
  · refine rf_aload_n (n := 22) 0 dX8_ratio_21 rfl rfl rfl ?_
    refine rf_getR (n := 25) rr_0_7 kk_41 hG dX8_ratio_22 flX8_55 ki_8_7 sS_0 kk_0 rfl ?_
    refine rf_getL (n := 28) hG dX8_ratio_25 flX8_266 ki_0_6 sS_41 kk_41 rfl ?_
    refine rf_mask (lc2 := [none, none]) [false, false] rfl ?_
    exact pX8_ratio_K28 hG _ _
  · refine rf_aload_n (n := 12) 0 dX8_ratio_11 rfl rfl rfl ?_
    refine rf_getR (n := 15) rr_0_7 kk_41 hG dX8_ratio_12 flX8_55 ki_8_7 sS_0 kk_0 rfl ?_
    refine rf_getL (n := 18) hG dX8_ratio_15 flX8_262 ki_0_7 sS_41 kk_41 rfl ?_
    refine rf_goto (tg := 28) dX8_ratio_18 rfl ?_
    refine rf_mask (lc2 := [none, none]) [false, false] rfl ?_
    exact pX8_ratio_K28 hG _ _
def fX9_isFirst_K64 (s0 : Int32) (μ : ax_M) : Option (Int32 × ax_M) :=
  (some (vp_nar .boolean s0, μ))
theorem pX9_isFirst_K64 {x : ax_X} {G : ax_G} (hG : ax_ok G) (s0 : Int32) (μ : ax_M) : ax_Rf mX9_isFirst 0 x (ax_Z ax_jI x G) G 0 0 64 [none, none, none] [.int s0] μ (fX9_isFirst_K64 s0 μ) := by
  unfold fX9_isFirst_K64
  exact rf_retZ rfl dX9_isFirst_64
def fX9_isFirst_B24 (l1 : Int32) (r24 : Int32 → ax_M → Option (Int32 × ax_M)) (l2 : Int32) (μ : ax_M) : Option (Int32 × ax_M) :=
  (if l1 ≤ l2 then (some ((0 : Int32), μ)) else (Option.bind (ax_rd μ 80 10 l2) (fun v1 => (Option.bind (ax_rd μ 82 10 l2) (fun v2 => (if v1 = v2 then (r24 (l2 + (1 : Int32)) μ) else (Option.bind (ax_rd μ 80 10 l2) (fun v3 => (Option.bind (ax_rd μ 82 10 l2) (fun v4 => (if v4 ≤ v3 then (fX9_isFirst_K64 (0 : Int32) μ) else (fX9_isFirst_K64 (1 : Int32) μ))))))))))))
theorem pX9_isFirst_B24 {x : ax_X} {G : ax_G} (hG : ax_ok G) (l1 : Int32) (r24 : Int32 → ax_M → Option (Int32 × ax_M)) (hr24 : ∀ (a2 : Int32) (μ : ax_M), ax_Rf mX9_isFirst 0 x (ax_Z ax_jI x G) G 0 0 24 [some (.ref 57), some (.int l1), some (.int a2)] [] μ (r24 a2 μ)) (l2 : Int32) (μ : ax_M) : ax_Rf mX9_isFirst 0 x (ax_Z ax_jI x G) G 0 0 24 [some (.ref 57), some (.int l1), some (.int l2)] [] μ (fX9_isFirst_B24 l1 r24 l2 μ) := by
  unfold fX9_isFirst_B24
  refine rf_iload_n (n := 25) 2 dX9_isFirst_24 rfl rfl rfl ?_
  refine rf_iload_n (n := 26) 1 dX9_isFirst_25 rfl rfl rfl ?_
  refine rf_icmp_ge (tg := 71) (n := 29) dX9_isFirst_26 rfl rfl (fun c7 => ?_) (fun c7 => ?_)
  · refine rf_iconst (n := 72) (0 : Int32) dX9_isFirst_71 cciconst_0 rfl ?_
    exact rf_retB rfl (Or.inl rfl) dX9_isFirst_72
  · refine rf_aload_n (n := 30) 0 dX9_isFirst_29 rfl rfl rfl ?_
    refine rf_getR (n := 33) rr_57_38 kk_80 hG dX9_isFirst_30 flX9_82 ki_9_38 sS_57 kk_57 rfl ?_
    refine rf_iload_n (n := 34) 2 dX9_isFirst_33 rfl rfl rfl ?_
    refine rf_iald (n := 35) hG dX9_isFirst_34 sS_80 kk_80 rfl (fun v1 => ?_)
    refine rf_aload_n (n := 36) 0 dX9_isFirst_35 rfl rfl rfl ?_
    refine rf_getR (n := 39) rr_57_40 kk_82 hG dX9_isFirst_36 flX9_88 ki_9_40 sS_57 kk_57 rfl ?_
    refine rf_iload_n (n := 40) 2 dX9_isFirst_39 rfl rfl rfl ?_
    refine rf_iald (n := 41) hG dX9_isFirst_40 sS_82 kk_82 rfl (fun v2 => ?_)
    refine rf_icmp_eq (tg := 65) (n := 44) dX9_isFirst_41 rfl rfl (fun c6 => ?_) (fun c6 => ?_)
    · refine rf_iinc (lc2 := [some (.ref 57), some (.int l1), some (.int (l2 + (1 : Int32)))]) (n := 68) (w := (1 : Int32)) 2 dX9_isFirst_65 rfl rfl rfl (Nat.le_of_ble_eq_true rfl) rfl rfl ?_
      refine rf_goto (tg := 24) dX9_isFirst_68 rfl ?_
      exact hr24 _ _
    · refine rf_aload_n (n := 45) 0 dX9_isFirst_44 rfl rfl rfl ?_
      refine rf_getR (n := 48) rr_57_38 kk_80 hG dX9_isFirst_45 flX9_82 ki_9_38 sS_57 kk_57 rfl ?_
      refine rf_iload_n (n := 49) 2 dX9_isFirst_48 rfl rfl rfl ?_
      refine rf_iald (n := 50) hG dX9_isFirst_49 sS_80 kk_80 rfl (fun v3 => ?_)
      refine rf_aload_n (n := 51) 0 dX9_isFirst_50 rfl rfl rfl ?_
      refine rf_getR (n := 54) rr_57_40 kk_82 hG dX9_isFirst_51 flX9_88 ki_9_40 sS_57 kk_57 rfl ?_
      refine rf_iload_n (n := 55) 2 dX9_isFirst_54 rfl rfl rfl ?_
      refine rf_iald (n := 56) hG dX9_isFirst_55 sS_82 kk_82 rfl (fun v4 => ?_)
      refine rf_icmp_ge (tg := 63) (n := 59) dX9_isFirst_56 rfl rfl (fun c5 => ?_) (fun c5 => ?_)
      · refine rf_iconst (n := 64) (0 : Int32) dX9_isFirst_63 cciconst_0 rfl ?_
        refine rf_mask (lc2 := [none, none, none]) [false, false, false] rfl ?_
        exact pX9_isFirst_K64 hG _ _
      · refine rf_iconst (n := 60) (1 : Int32) dX9_isFirst_59 cciconst_1 rfl ?_
        refine rf_goto (tg := 64) dX9_isFirst_60 rfl ?_
        refine rf_mask (lc2 := [none, none, none]) [false, false, false] rfl ?_
        exact pX9_isFirst_K64 hG _ _
theorem pX9_isFirst_L24 {x : ax_X} {G : ax_G} (hG : ax_ok G) (l1 : Int32) (n : Nat) (a2 : Int32) (μ : ax_M) : ax_Rf mX9_isFirst 0 x (ax_Z ax_jI x G) G 0 0 24 [some (.ref 57), some (.int l1), some (.int a2)] [] μ (ax_lp1 (fX9_isFirst_B24 l1) n a2 μ) :=
  rf_lp1 (P := fun a2 μ t => ax_Rf mX9_isFirst 0 x (ax_Z ax_jI x G) G 0 0 24 [some (.ref 57), some (.int l1), some (.int a2)] [] μ t) (fun _ _ => rf_none) (fun rc hrc a2 μ => pX9_isFirst_B24 hG l1 rc hrc a2 μ) n a2 μ
def fX9_isFirst_K21 (s0 : Int32) (μ : ax_M) : Option (Int32 × ax_M) :=
  (some (vp_nar .boolean s0, μ))
theorem pX9_isFirst_K21 {x : ax_X} {G : ax_G} (hG : ax_ok G) (s0 : Int32) (μ : ax_M) : ax_Rf mX9_isFirst 0 x (ax_Z ax_jI x G) G 0 0 21 [none, none, none] [.int s0] μ (fX9_isFirst_K21 s0 μ) := by
  unfold fX9_isFirst_K21
  exact rf_retZ rfl dX9_isFirst_21
def fX9_isFirst (p1 : Int32) (μ : ax_M) : Option (Int32 × ax_M) :=
  (if p1 = (μ.1 57 41) then (ax_lp1 (fX9_isFirst_B24 p1) ax_FU (0 : Int32) μ) else (if (μ.1 57 41) ≤ p1 then (fX9_isFirst_K21 (0 : Int32) μ) else (fX9_isFirst_K21 (1 : Int32) μ)))
theorem okX9_isFirst (p1 : Int32) (μ : ax_M) : ax_Ok mX9_isFirst 0 ax_jI [.ref 57, .int p1] μ (fX9_isFirst p1 μ) := by
  refine ax_start (lc := [some (.ref 57), some (.int p1), none]) 1 (by decide +kernel) rfl (Nat.le_of_ble_eq_true rfl) (fun x G hG => ?_)
  unfold fX9_isFirst
  refine rf_iload_n (n := 1) 1 dX9_isFirst_0 rfl rfl rfl ?_
  refine rf_aload_n (n := 2) 0 dX9_isFirst_1 rfl rfl rfl ?_
  refine rf_getI (n := 5) hG dX9_isFirst_2 flX9_340 ki_9_41 sS_57 kk_57 rfl ?_
  refine rf_icmp_eq (tg := 22) (n := 8) dX9_isFirst_5 rfl rfl (fun c9 => ?_) (fun c9 => ?_)
  · refine rf_iconst (n := 23) (0 : Int32) dX9_isFirst_22 cciconst_0 rfl ?_
    refine rf_istore_n (lc2 := [some (.ref 57), some (.int p1), some (.int (0 : Int32))]) (n := 24) 2 dX9_isFirst_23 rfl rfl (Nat.le_of_ble_eq_true rfl) rfl rfl ?_
    exact pX9_isFirst_L24 hG _ _ _ _
  · refine rf_iload_n (n := 9) 1 dX9_isFirst_8 rfl rfl rfl ?_
    refine rf_aload_n (n := 10) 0 dX9_isFirst_9 rfl rfl rfl ?_
    refine rf_getI (n := 13) hG dX9_isFirst_10 flX9_340 ki_9_41 sS_57 kk_57 rfl ?_
    refine rf_icmp_ge (tg := 20) (n := 16) dX9_isFirst_13 rfl rfl (fun c8 => ?_) (fun c8 => ?_)
    · refine rf_iconst (n := 21) (0 : Int32) dX9_isFirst_20 cciconst_0 rfl ?_
      refine rf_mask (lc2 := [none, none, none]) [false, false, true] rfl ?_
      exact pX9_isFirst_K21 hG _ _
    · refine rf_iconst (n := 17) (1 : Int32) dX9_isFirst_16 cciconst_1 rfl ?_
      refine rf_goto (tg := 21) dX9_isFirst_17 rfl ?_
      refine rf_mask (lc2 := [none, none, none]) [false, false, true] rfl ?_
      exact pX9_isFirst_K21 hG _ _
