theorem flX1_15 : ax_fl RX1 15 1 1 := ⟨_, rfl, by decide, rfl, ax_tbl_of 41 (by decide +kernel) rfl⟩
theorem flX1_18 : ax_fl RX1 18 1 2 := ⟨_, rfl, by decide, rfl, ax_tbl_of 45 (by decide +kernel) rfl⟩
theorem flX1_42 : ax_fl RX1 42 1 10 := ⟨_, rfl, by decide, rfl, ax_tbl_of 80 (by decide +kernel) rfl⟩
theorem flX1_45 : ax_fl RX1 45 1 11 := ⟨_, rfl, by decide, rfl, ax_tbl_of 84 (by decide +kernel) rfl⟩
theorem flX1_48 : ax_fl RX1 48 1 16 := ⟨_, rfl, by decide, rfl, ax_tbl_of 108 (by decide +kernel) rfl⟩
theorem flX1_52 : ax_fl RX1 52 1 12 := ⟨_, rfl, by decide, rfl, ax_tbl_of 88 (by decide +kernel) rfl⟩
theorem flX1_61 : ax_fl RX1 61 1 15 := ⟨_, rfl, by decide, rfl, ax_tbl_of 105 (by decide +kernel) rfl⟩
theorem flX1_64 : ax_fl RX1 64 1 17 := ⟨_, rfl, by decide, rfl, ax_tbl_of 113 (by decide +kernel) rfl⟩
theorem flX2_11 : ax_fl RX2 11 2 0 := ⟨_, rfl, by decide, rfl, ax_tbl_of 217 (by decide +kernel) rfl⟩
theorem flX2_18 : ax_fl RX2 18 2 2 := ⟨_, rfl, by decide, rfl, ax_tbl_of 219 (by decide +kernel) rfl⟩
theorem flX2_26 : ax_fl RX2 26 2 3 := ⟨_, rfl, by decide, rfl, ax_tbl_of 220 (by decide +kernel) rfl⟩
theorem flX8_9 : ax_fl RX8 9 8 0 := ⟨_, rfl, by decide, rfl, ax_tbl_of 387 (by decide +kernel) rfl⟩
theorem flX8_16 : ax_fl RX8 16 8 2 := ⟨_, rfl, by decide, rfl, ax_tbl_of 389 (by decide +kernel) rfl⟩
theorem flX8_25 : ax_fl RX8 25 8 3 := ⟨_, rfl, by decide, rfl, ax_tbl_of 390 (by decide +kernel) rfl⟩
theorem flX8_32 : ax_fl RX8 32 8 4 := ⟨_, rfl, by decide, rfl, ax_tbl_of 391 (by decide +kernel) rfl⟩
theorem flX8_41 : ax_fl RX8 41 8 5 := ⟨_, rfl, by decide, rfl, ax_tbl_of 392 (by decide +kernel) rfl⟩
theorem flX8_55 : ax_fl RX8 55 8 7 := ⟨_, rfl, by decide, rfl, ax_tbl_of 394 (by decide +kernel) rfl⟩
theorem flX8_68 : ax_fl RX8 68 8 1 := ⟨_, rfl, by decide, rfl, ax_tbl_of 388 (by decide +kernel) rfl⟩
theorem flX8_99 : ax_fl RX8 99 3 2 := ⟨_, rfl, by decide, rfl, ax_tbl_of 172 (by decide +kernel) rfl⟩
theorem flX8_102 : ax_fl RX8 102 3 3 := ⟨_, rfl, by decide, rfl, ax_tbl_of 174 (by decide +kernel) rfl⟩
theorem flX8_105 : ax_fl RX8 105 1 0 := ⟨_, rfl, by decide, rfl, ax_tbl_of 39 (by decide +kernel) rfl⟩
theorem flX8_108 : ax_fl RX8 108 1 12 := ⟨_, rfl, by decide, rfl, ax_tbl_of 89 (by decide +kernel) rfl⟩
theorem flX8_115 : ax_fl RX8 115 1 3 := ⟨_, rfl, by decide, rfl, ax_tbl_of 50 (by decide +kernel) rfl⟩
theorem flX8_118 : ax_fl RX8 118 1 13 := ⟨_, rfl, by decide, rfl, ax_tbl_of 96 (by decide +kernel) rfl⟩
theorem flX8_121 : ax_fl RX8 121 5 5 := ⟨_, rfl, by decide, rfl, ax_tbl_of 249 (by decide +kernel) rfl⟩
theorem flX8_124 : ax_fl RX8 124 0 8 := ⟨_, rfl, by decide, rfl, ax_tbl_of 305 (by decide +kernel) rfl⟩
theorem flX8_128 : ax_fl RX8 128 1 16 := ⟨_, rfl, by decide, rfl, ax_tbl_of 111 (by decide +kernel) rfl⟩
theorem flX8_137 : ax_fl RX8 137 1 1 := ⟨_, rfl, by decide, rfl, ax_tbl_of 44 (by decide +kernel) rfl⟩
theorem flX8_140 : ax_fl RX8 140 1 2 := ⟨_, rfl, by decide, rfl, ax_tbl_of 48 (by decide +kernel) rfl⟩
theorem flX9_7 : ax_fl RX9 7 9 1 := ⟨_, rfl, by decide, rfl, ax_tbl_of 1215 (by decide +kernel) rfl⟩
theorem flX9_13 : ax_fl RX9 13 9 3 := ⟨_, rfl, by decide, rfl, ax_tbl_of 1217 (by decide +kernel) rfl⟩
theorem flX9_20 : ax_fl RX9 20 9 5 := ⟨_, rfl, by decide, rfl, ax_tbl_of 1219 (by decide +kernel) rfl⟩
theorem flX9_29 : ax_fl RX9 29 9 8 := ⟨_, rfl, by decide, rfl, ax_tbl_of 1222 (by decide +kernel) rfl⟩
theorem flX9_59 : ax_fl RX9 59 9 27 := ⟨_, rfl, by decide, rfl, ax_tbl_of 1241 (by decide +kernel) rfl⟩
theorem flX9_63 : ax_fl RX9 63 9 28 := ⟨_, rfl, by decide, rfl, ax_tbl_of 1242 (by decide +kernel) rfl⟩
theorem flX9_66 : ax_fl RX9 66 9 29 := ⟨_, rfl, by decide, rfl, ax_tbl_of 1243 (by decide +kernel) rfl⟩
theorem flX9_103 : ax_fl RX9 103 9 0 := ⟨_, rfl, by decide, rfl, ax_tbl_of 1214 (by decide +kernel) rfl⟩
theorem flX9_106 : ax_fl RX9 106 9 2 := ⟨_, rfl, by decide, rfl, ax_tbl_of 1216 (by decide +kernel) rfl⟩
theorem flX9_220 : ax_fl RX9 220 9 26 := ⟨_, rfl, by decide, rfl, ax_tbl_of 1240 (by decide +kernel) rfl⟩
theorem flX9_223 : ax_fl RX9 223 9 30 := ⟨_, rfl, by decide, rfl, ax_tbl_of 1244 (by decide +kernel) rfl⟩
theorem ki_0_8 : ax_kI 0 8 := fun _ _ _ => rfl
theorem ki_1_0 : ax_kR 1 0 := fun _ _ _ => rfl
theorem ki_1_1 : ax_kR 1 1 := fun _ _ _ => rfl
theorem ki_1_2 : ax_kR 1 2 := fun _ _ _ => rfl
theorem ki_1_3 : ax_kR 1 3 := fun _ _ _ => rfl
theorem ki_1_10 : ax_kR 1 10 := fun _ _ _ => rfl
theorem ki_1_11 : ax_kR 1 11 := fun _ _ _ => rfl
theorem ki_1_12 : ax_kI 1 12 := fun _ _ _ => rfl
theorem ki_1_13 : ax_kI 1 13 := fun _ _ _ => rfl
theorem ki_1_15 : ax_kI 1 15 := fun _ _ _ => rfl
theorem ki_1_16 : ax_kI 1 16 := fun _ _ _ => rfl
theorem ki_1_17 : ax_kI 1 17 := fun _ _ _ => rfl
theorem ki_2_0 : ax_kR 2 0 := fun _ _ _ => rfl
theorem ki_2_2 : ax_kI 2 2 := fun _ _ _ => rfl
theorem ki_2_3 : ax_kI 2 3 := fun _ _ _ => rfl
theorem ki_3_2 : ax_kI 3 2 := fun _ _ _ => rfl
theorem ki_3_3 : ax_kI 3 3 := fun _ _ _ => rfl
theorem ki_5_5 : ax_kI 5 5 := fun _ _ _ => rfl
theorem ki_8_0 : ax_kR 8 0 := fun _ _ _ => rfl
theorem ki_8_1 : ax_kI 8 1 := fun _ _ _ => rfl
theorem ki_8_2 : ax_kR 8 2 := fun _ _ _ => rfl
theorem ki_8_3 : ax_kR 8 3 := fun _ _ _ => rfl
theorem ki_8_4 : ax_kR 8 4 := fun _ _ _ => rfl
theorem ki_8_5 : ax_kR 8 5 := fun _ _ _ => rfl
theorem ki_8_7 : ax_kR 8 7 := fun _ _ _ => rfl
theorem ki_9_0 : ax_kI 9 0 := fun _ _ _ => rfl
theorem ki_9_1 : ax_kR 9 1 := fun _ _ _ => rfl
theorem ki_9_2 : ax_kI 9 2 := fun _ _ _ => rfl
theorem ki_9_3 : ax_kR 9 3 := fun _ _ _ => rfl
theorem ki_9_5 : ax_kR 9 5 := fun _ _ _ => rfl
theorem ki_9_8 : ax_kR 9 8 := fun _ _ _ => rfl
theorem ki_9_26 : ax_kI 9 26 := fun _ _ _ => rfl
theorem ki_9_27 : ax_kI 9 27 := fun _ _ _ => rfl
theorem ki_9_28 : ax_kR 9 28 := fun _ _ _ => rfl
theorem ki_9_29 : ax_kR 9 29 := fun _ _ _ => rfl
theorem ki_9_30 : ax_kI 9 30 := fun _ _ _ => rfl
theorem nf_0_8 : ax_nf 0 8 := ⟨_, rfl, rfl⟩
theorem nf_1_16 : ax_nf 1 16 := ⟨_, rfl, rfl⟩
theorem nf_2_2 : ax_nf 2 2 := ⟨_, rfl, rfl⟩
theorem nf_2_3 : ax_nf 2 3 := ⟨_, rfl, rfl⟩
theorem nf_5_5 : ax_nf 5 5 := ⟨_, rfl, rfl⟩
theorem nf_8_1 : ax_nf 8 1 := ⟨_, rfl, rfl⟩
theorem nf_9_0 : ax_nf 9 0 := ⟨_, rfl, rfl⟩
theorem nf_9_2 : ax_nf 9 2 := ⟨_, rfl, rfl⟩
theorem nf_9_30 : ax_nf 9 30 := ⟨_, rfl, rfl⟩
theorem sS_0 : ax_S 0 = (0, 8) := rfl
theorem kk_0 : 0 < ax_K0 := Nat.le_of_ble_eq_true rfl
theorem sS_1 : ax_S 1 = (1, 700) := rfl
theorem kk_1 : 1 < ax_K0 := Nat.le_of_ble_eq_true rfl
theorem sS_2 : ax_S 2 = (0, 1) := rfl
theorem kk_2 : 2 < ax_K0 := Nat.le_of_ble_eq_true rfl
theorem sS_3 : ax_S 3 = (1, 4) := rfl
theorem kk_3 : 3 < ax_K0 := Nat.le_of_ble_eq_true rfl
theorem sS_4 : ax_S 4 = (1, 4) := rfl
theorem kk_4 : 4 < ax_K0 := Nat.le_of_ble_eq_true rfl
theorem sS_5 : ax_S 5 = (1, 4) := rfl
theorem kk_5 : 5 < ax_K0 := Nat.le_of_ble_eq_true rfl
theorem sS_6 : ax_S 6 = (1, 10) := rfl
theorem kk_6 : 6 < ax_K0 := Nat.le_of_ble_eq_true rfl
theorem sS_13 : ax_S 13 = (1, 24) := rfl
theorem kk_13 : 13 < ax_K0 := Nat.le_of_ble_eq_true rfl
theorem sS_14 : ax_S 14 = (1, 24) := rfl
theorem kk_14 : 14 < ax_K0 := Nat.le_of_ble_eq_true rfl
theorem sS_15 : ax_S 15 = (0, 3) := rfl
theorem kk_15 : 15 < ax_K0 := Nat.le_of_ble_eq_true rfl
theorem sS_29 : ax_S 29 = (0, 2) := rfl
theorem kk_29 : 29 < ax_K0 := Nat.le_of_ble_eq_true rfl
theorem sS_30 : ax_S 30 = (1, 1180) := rfl
theorem kk_30 : 30 < ax_K0 := Nat.le_of_ble_eq_true rfl
theorem sS_32 : ax_S 32 = (0, 5) := rfl
theorem kk_32 : 32 < ax_K0 := Nat.le_of_ble_eq_true rfl
theorem sS_41 : ax_S 41 = (0, 0) := rfl
theorem kk_41 : 41 < ax_K0 := Nat.le_of_ble_eq_true rfl
theorem sS_57 : ax_S 57 = (0, 9) := rfl
theorem kk_57 : 57 < ax_K0 := Nat.le_of_ble_eq_true rfl
theorem sS_58 : ax_S 58 = (1, 700) := rfl
theorem kk_58 : 58 < ax_K0 := Nat.le_of_ble_eq_true rfl
theorem sS_59 : ax_S 59 = (1, 12) := rfl
theorem kk_59 : 59 < ax_K0 := Nat.le_of_ble_eq_true rfl
theorem sS_61 : ax_S 61 = (1, 8) := rfl
theorem kk_61 : 61 < ax_K0 := Nat.le_of_ble_eq_true rfl
theorem sS_64 : ax_S 64 = (1, 20) := rfl
theorem kk_64 : 64 < ax_K0 := Nat.le_of_ble_eq_true rfl
theorem sS_74 : ax_S 74 = (1, 68) := rfl
theorem kk_74 : 74 < ax_K0 := Nat.le_of_ble_eq_true rfl
theorem sS_75 : ax_S 75 = (1, 1428) := rfl
theorem kk_75 : 75 < ax_K0 := Nat.le_of_ble_eq_true rfl
theorem rr_0_0 : ax_R 0 0 = some 1 := rfl
theorem rr_0_2 : ax_R 0 2 = some 2 := rfl
theorem rr_0_3 : ax_R 0 3 = some 15 := rfl
theorem rr_0_4 : ax_R 0 4 = some 29 := rfl
theorem rr_0_5 : ax_R 0 5 = some 32 := rfl
theorem rr_0_7 : ax_R 0 7 = some 41 := rfl
theorem rr_2_0 : ax_R 2 0 = some 3 := rfl
theorem rr_2_1 : ax_R 2 1 = some 4 := rfl
theorem rr_2_2 : ax_R 2 2 = some 5 := rfl
theorem rr_2_3 : ax_R 2 3 = some 6 := rfl
theorem rr_2_10 : ax_R 2 10 = some 13 := rfl
theorem rr_2_11 : ax_R 2 11 = some 14 := rfl
theorem rr_29_0 : ax_R 29 0 = some 30 := rfl
theorem rr_57_1 : ax_R 57 1 = some 58 := rfl
theorem rr_57_3 : ax_R 57 3 = some 59 := rfl
theorem rr_57_5 : ax_R 57 5 = some 61 := rfl
theorem rr_57_8 : ax_R 57 8 = some 64 := rfl
theorem rr_57_28 : ax_R 57 28 = some 74 := rfl
theorem rr_57_29 : ax_R 57 29 = some 75 := rfl
theorem ccbipush_8 : (Int8.ofInt (8)).toInt32 = 8 := by decide
theorem ccbipush_12 : (Int8.ofInt (12)).toInt32 = 12 := by decide
theorem ccbipush_16 : (Int8.ofInt (16)).toInt32 = 16 := by decide
theorem ccbipush_20 : (Int8.ofInt (20)).toInt32 = 20 := by decide
theorem ccbipush_24 : (Int8.ofInt (24)).toInt32 = 24 := by decide
theorem ccbipush_59 : (Int8.ofInt (59)).toInt32 = 59 := by decide
theorem ccbipush_63 : (Int8.ofInt (63)).toInt32 = 63 := by decide
theorem ccbipush_64 : (Int8.ofInt (64)).toInt32 = 64 := by decide
theorem ccbipush_68 : (Int8.ofInt (68)).toInt32 = 68 := by decide
theorem cciconst_m1 : Int32.ofInt (-1) = -1 := by decide
theorem cciconst_0 : Int32.ofInt (0) = 0 := by decide
theorem cciconst_1 : Int32.ofInt (1) = 1 := by decide
theorem cciconst_2 : Int32.ofInt (2) = 2 := by decide
theorem cciconst_3 : Int32.ofInt (3) = 3 := by decide
theorem cciconst_4 : Int32.ofInt (4) = 4 := by decide
theorem cciconst_5 : Int32.ofInt (5) = 5 := by decide
theorem ccsipush_255 : (Int16.ofInt (255)).toInt32 = 255 := by decide
theorem ccsipush_680 : (Int16.ofInt (680)).toInt32 = 680 := by decide
theorem ccsipush_700 : (Int16.ofInt (700)).toInt32 = 700 := by decide
theorem ccsipush_1292 : (Int16.ofInt (1292)).toInt32 = 1292 := by decide
theorem ccsipush_9999 : (Int16.ofInt (9999)).toInt32 = 9999 := by decide
abbrev mX1_hasPhase : ax_Mi := (yX1_hasPhase, cX1_hasPhase, 2, (some .boolean))
theorem hhX1_hasPhase : ax_hd mX1_hasPhase 1 := ⟨by decide +kernel, Nat.le_of_ble_eq_true rfl, ax_tbl_of 571 (by decide +kernel) rfl, ax_tbl_of 2 (by decide +kernel) rfl⟩
abbrev mX1_writeTo : ax_Mi := (yX1_writeTo, cX1_writeTo, 4, none)
theorem hhX1_writeTo : ax_hd mX1_writeTo 2 := ⟨by decide +kernel, Nat.le_of_ble_eq_true rfl, ax_tbl_of 562 (by decide +kernel) rfl, ax_tbl_of 2 (by decide +kernel) rfl⟩
abbrev mX2_push : ax_Mi := (yX2_push, cX2_push, 2, none)
theorem hhX2_push : ax_hd mX2_push 1 := ⟨by decide +kernel, Nat.le_of_ble_eq_true rfl, ax_tbl_of 558 (by decide +kernel) rfl, ax_tbl_of 4 (by decide +kernel) rfl⟩
abbrev mX8_beginChange : ax_Mi := (yX8_beginChange, cX8_beginChange, 1, none)
theorem hhX8_beginChange : ax_hd mX8_beginChange 0 := ⟨by decide +kernel, Nat.le_of_ble_eq_true rfl, ax_tbl_of 554 (by decide +kernel) rfl, ax_tbl_of 1 (by decide +kernel) rfl⟩
abbrev mX8_fault : ax_Mi := (yX8_fault, cX8_fault, 2, (some .int))
theorem hhX8_fault : ax_hd mX8_fault 1 := ⟨by decide +kernel, Nat.le_of_ble_eq_true rfl, ax_tbl_of 541 (by decide +kernel) rfl, ax_tbl_of 1 (by decide +kernel) rfl⟩
abbrev mX8_feed : ax_Mi := (yX8_feed, cX8_feed, 6, (some .int))
theorem hhX8_feed : ax_hd mX8_feed 5 := ⟨by decide +kernel, Nat.le_of_ble_eq_true rfl, ax_tbl_of 418 (by decide +kernel) rfl, ax_tbl_of 1 (by decide +kernel) rfl⟩
abbrev mX8_find : ax_Mi := (yX8_find, cX8_find, 4, (some .int))
theorem hhX8_find : ax_hd mX8_find 3 := ⟨by decide +kernel, Nat.le_of_ble_eq_true rfl, ax_tbl_of 501 (by decide +kernel) rfl, ax_tbl_of 1 (by decide +kernel) rfl⟩
abbrev mX8_forgetAnswers : ax_Mi := (yX8_forgetAnswers, cX8_forgetAnswers, 1, none)
theorem hhX8_forgetAnswers : ax_hd mX8_forgetAnswers 0 := ⟨by decide +kernel, Nat.le_of_ble_eq_true rfl, ax_tbl_of 537 (by decide +kernel) rfl, ax_tbl_of 1 (by decide +kernel) rfl⟩
abbrev mX8_named : ax_Mi := (yX8_named, cX8_named, 3, (some .int))
theorem hhX8_named : ax_hd mX8_named 2 := ⟨by decide +kernel, Nat.le_of_ble_eq_true rfl, ax_tbl_of 545 (by decide +kernel) rfl, ax_tbl_of 1 (by decide +kernel) rfl⟩
abbrev mX8_period : ax_Mi := (yX8_period, cX8_period, 3, (some .int))
theorem hhX8_period : ax_hd mX8_period 1 := ⟨by decide +kernel, Nat.le_of_ble_eq_true rfl, ax_tbl_of 550 (by decide +kernel) rfl, ax_tbl_of 1 (by decide +kernel) rfl⟩
abbrev mX8_phase : ax_Mi := (yX8_phase, cX8_phase, 4, (some .boolean))
theorem hhX8_phase : ax_hd mX8_phase 3 := ⟨by decide +kernel, Nat.le_of_ble_eq_true rfl, ax_tbl_of 567 (by decide +kernel) rfl, ax_tbl_of 1 (by decide +kernel) rfl⟩
abbrev mX8_putFour : ax_Mi := (yX8_putFour, cX8_putFour, 3, none)
theorem hhX8_putFour : ax_hd mX8_putFour 1 := ⟨by decide +kernel, Nat.le_of_ble_eq_true rfl, ax_tbl_of 422 (by decide +kernel) rfl, ax_tbl_of 1 (by decide +kernel) rfl⟩
abbrev mX9_cells : ax_Mi := (yX9_cells, cX9_cells, 1, (some .int))
theorem hhX9_cells : ax_hd mX9_cells 0 := ⟨by decide +kernel, Nat.le_of_ble_eq_true rfl, ax_tbl_of 1209 (by decide +kernel) rfl, ax_tbl_of 10 (by decide +kernel) rfl⟩
abbrev mX9_fault : ax_Mi := (yX9_fault, cX9_fault, 2, (some .int))
theorem hhX9_fault : ax_hd mX9_fault 1 := ⟨by decide +kernel, Nat.le_of_ble_eq_true rfl, ax_tbl_of 1493 (by decide +kernel) rfl, ax_tbl_of 10 (by decide +kernel) rfl⟩
abbrev mX9_feed : ax_Mi := (yX9_feed, cX9_feed, 8, (some .int))
theorem hhX9_feed : ax_hd mX9_feed 5 := ⟨by decide +kernel, Nat.le_of_ble_eq_true rfl, ax_tbl_of 1362 (by decide +kernel) rfl, ax_tbl_of 10 (by decide +kernel) rfl⟩
abbrev mX9_foundIn : ax_Mi := (yX9_foundIn, cX9_foundIn, 5, (some .int))
theorem hhX9_foundIn : ax_hd mX9_foundIn 4 := ⟨by decide +kernel, Nat.le_of_ble_eq_true rfl, ax_tbl_of 1473 (by decide +kernel) rfl, ax_tbl_of 10 (by decide +kernel) rfl⟩
abbrev mX9_isPhase : ax_Mi := (yX9_isPhase, cX9_isPhase, 2, (some .boolean))
theorem hhX9_isPhase : ax_hd mX9_isPhase 1 := ⟨by decide +kernel, Nat.le_of_ble_eq_true rfl, ax_tbl_of 1557 (by decide +kernel) rfl, ax_tbl_of 10 (by decide +kernel) rfl⟩
abbrev mX9_lays : ax_Mi := (yX9_lays, cX9_lays, 3, none)
theorem hhX9_lays : ax_hd mX9_lays 1 := ⟨by decide +kernel, Nat.le_of_ble_eq_true rfl, ax_tbl_of 1513 (by decide +kernel) rfl, ax_tbl_of 10 (by decide +kernel) rfl⟩
abbrev mX9_named : ax_Mi := (yX9_named, cX9_named, 3, (some .int))
theorem hhX9_named : ax_hd mX9_named 2 := ⟨by decide +kernel, Nat.le_of_ble_eq_true rfl, ax_tbl_of 1497 (by decide +kernel) rfl, ax_tbl_of 10 (by decide +kernel) rfl⟩
abbrev mX9_period : ax_Mi := (yX9_period, cX9_period, 3, (some .int))
theorem hhX9_period : ax_hd mX9_period 1 := ⟨by decide +kernel, Nat.le_of_ble_eq_true rfl, ax_tbl_of 1521 (by decide +kernel) rfl, ax_tbl_of 10 (by decide +kernel) rfl⟩
abbrev mX9_phase : ax_Mi := (yX9_phase, cX9_phase, 4, (some .boolean))
theorem hhX9_phase : ax_hd mX9_phase 3 := ⟨by decide +kernel, Nat.le_of_ble_eq_true rfl, ax_tbl_of 1553 (by decide +kernel) rfl, ax_tbl_of 10 (by decide +kernel) rfl⟩
abbrev mX9_phases : ax_Mi := (yX9_phases, cX9_phases, 1, (some .int))
theorem hhX9_phases : ax_hd mX9_phases 0 := ⟨by decide +kernel, Nat.le_of_ble_eq_true rfl, ax_tbl_of 1205 (by decide +kernel) rfl, ax_tbl_of 10 (by decide +kernel) rfl⟩
abbrev mX9_remembers : ax_Mi := (yX9_remembers, cX9_remembers, 2, none)
theorem hhX9_remembers : ax_hd mX9_remembers 0 := ⟨by decide +kernel, Nat.le_of_ble_eq_true rfl, ax_tbl_of 1525 (by decide +kernel) rfl, ax_tbl_of 10 (by decide +kernel) rfl⟩
theorem lVX2_22 : ax_lV RX2 22 mX1_writeTo := ⟨ax_tbl_of 559 (by decide +kernel) rfl, ax_tbl_of 560 (by decide +kernel) rfl, ax_tbl_of 561 (by decide +kernel) rfl⟩
theorem lVX8_72 : ax_lV RX8 72 mX8_putFour := ⟨ax_tbl_of 419 (by decide +kernel) rfl, ax_tbl_of 421 (by decide +kernel) rfl, ax_tbl_sel 0 (by decide +kernel) rfl⟩
theorem lVX8_93 : ax_lV RX8 93 mX8_forgetAnswers := ⟨ax_tbl_of 534 (by decide +kernel) rfl, ax_tbl_of 536 (by decide +kernel) rfl, ax_tbl_sel 16 (by decide +kernel) rfl⟩
theorem lSX8_111 : ax_lS RX8 111 mX8_find := ⟨ax_tbl_of 546 (by decide +kernel) rfl, ax_tbl_of 500 (by decide +kernel) rfl⟩
theorem lVX8_125 : ax_lV RX8 125 mX2_push := ⟨ax_tbl_of 555 (by decide +kernel) rfl, ax_tbl_of 556 (by decide +kernel) rfl, ax_tbl_of 557 (by decide +kernel) rfl⟩
theorem lVX8_131 : ax_lV RX8 131 mX8_beginChange := ⟨ax_tbl_of 551 (by decide +kernel) rfl, ax_tbl_of 553 (by decide +kernel) rfl, ax_tbl_sel 17 (by decide +kernel) rfl⟩
theorem lVX8_134 : ax_lV RX8 134 mX1_hasPhase := ⟨ax_tbl_of 568 (by decide +kernel) rfl, ax_tbl_of 569 (by decide +kernel) rfl, ax_tbl_of 570 (by decide +kernel) rfl⟩
theorem lSX9_177 : ax_lS RX9 177 mX9_foundIn := ⟨ax_tbl_of 1471 (by decide +kernel) rfl, ax_tbl_of 1472 (by decide +kernel) rfl⟩
theorem lVX9_230 : ax_lV RX9 230 mX9_phases := ⟨ax_tbl_of 1202 (by decide +kernel) rfl, ax_tbl_of 1204 (by decide +kernel) rfl, ax_tbl_sel 47 (by decide +kernel) rfl⟩
theorem lVX9_233 : ax_lV RX9 233 mX9_cells := ⟨ax_tbl_of 1206 (by decide +kernel) rfl, ax_tbl_of 1208 (by decide +kernel) rfl, ax_tbl_sel 48 (by decide +kernel) rfl⟩
theorem lVX9_239 : ax_lV RX9 239 mX9_lays := ⟨ax_tbl_of 1510 (by decide +kernel) rfl, ax_tbl_of 1512 (by decide +kernel) rfl, ax_tbl_sel 67 (by decide +kernel) rfl⟩
theorem lVX9_245 : ax_lV RX9 245 mX9_remembers := ⟨ax_tbl_of 1522 (by decide +kernel) rfl, ax_tbl_of 1524 (by decide +kernel) rfl, ax_tbl_sel 68 (by decide +kernel) rfl⟩
theorem lVX9_262 : ax_lV RX9 262 mX9_isPhase := ⟨ax_tbl_of 1554 (by decide +kernel) rfl, ax_tbl_of 1556 (by decide +kernel) rfl, ax_tbl_sel 73 (by decide +kernel) rfl⟩
theorem ax_maxw : Cond.static Lib.Math.max.name ∈ ax_tbl ∧ Cond.initialized "java/lang/Math" ∈ ax_tbl ∧ Cond.code Lib.Math.max.name Lib.Math.max.code 2 (some .int) ∈ ax_tbl := ⟨ax_tbl_of 605 (by decide +kernel) rfl, ax_tbl_of 11 (by decide +kernel) rfl, ax_tbl_of 606 (by decide +kernel) rfl⟩
theorem ax_minw : Cond.static Lib.Math.min.name ∈ ax_tbl ∧ Cond.initialized "java/lang/Math" ∈ ax_tbl ∧ Cond.code Lib.Math.min.name Lib.Math.min.code 2 (some .int) ∈ ax_tbl := ⟨ax_tbl_of 432 (by decide +kernel) rfl, ax_tbl_of 11 (by decide +kernel) rfl, ax_tbl_of 433 (by decide +kernel) rfl⟩
theorem mxX2_29 : Cond.methodLink RX2 29 Lib.Math.min.name ∈ ax_tbl := ax_tbl_of 563 (by decide +kernel) rfl
theorem ax_cpw : Cond.native arraycopyName ∈ ax_tbl ∧ Cond.static arraycopyName ∈ ax_tbl ∧ Cond.initialized "java/lang/System" ∈ ax_tbl := ⟨ax_tbl_of 529 (by decide +kernel) rfl, ax_tbl_of 528 (by decide +kernel) rfl, ax_tbl_of 12 (by decide +kernel) rfl⟩
theorem cpX1_70 : Cond.methodLink RX1 70 arraycopyName ∈ ax_tbl := ax_tbl_of 527 (by decide +kernel) rfl
