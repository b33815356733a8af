def fX4_moveNearZero_K159 (μ : ax_M) : Option (Int32 × ax_M) :=
  (some ((-2000 : Int32), μ))
theorem pX4_moveNearZero_K159 {x : ax_X} {G : ax_G} (hG : ax_ok G) (μ : ax_M) : ax_Rf mX4_moveNearZero 4 x (ax_Z ax_jI x G) G 0 0 159 [none, none, none, none, none, none, none, none, none, none] [] μ (fX4_moveNearZero_K159 μ) := by
  unfold fX4_moveNearZero_K159
  refine rf_sipush (n := 162) (-2000 : Int32) dX4_moveNearZero_159 ccsipush_m2000 rfl ?_
  exact rf_retI rfl dX4_moveNearZero_162
def fX4_moveNearZero_K153 (l1 : Int32) (l2 : Int32) (l3 : Int32) (l4 : Int32) (l5 : Int32) (r22 : Int32 → Int32 → Int32 → ax_M → Option (Int32 × ax_M)) (μ : ax_M) : Option (Int32 × ax_M) :=
  (r22 l3 l4 (l5 + (1 : Int32)) μ)
theorem pX4_moveNearZero_K153 {x : ax_X} {G : ax_G} (hG : ax_ok G) (l1 : Int32) (l2 : Int32) (l3 : Int32) (l4 : Int32) (l5 : Int32) (r22 : Int32 → Int32 → Int32 → ax_M → Option (Int32 × ax_M)) (hr22 : ∀ (a3 : Int32) (a4 : Int32) (a5 : Int32) (μ : ax_M), ax_Rf mX4_moveNearZero 4 x (ax_Z ax_jI x G) G 0 0 22 [some (.ref 46), some (.int l1), some (.int l2), some (.int a3), some (.int a4), some (.int a5), none, none, none, none] [] μ (r22 a3 a4 a5 μ)) (μ : ax_M) : ax_Rf mX4_moveNearZero 4 x (ax_Z ax_jI x G) G 0 0 153 [some (.ref 46), some (.int l1), some (.int l2), some (.int l3), some (.int l4), some (.int l5), none, none, none, none] [] μ (fX4_moveNearZero_K153 l1 l2 l3 l4 l5 r22 μ) := by
  unfold fX4_moveNearZero_K153
  refine rf_iinc (lc2 := [some (.ref 46), some (.int l1), some (.int l2), some (.int l3), some (.int l4), some (.int (l5 + (1 : Int32))), none, none, none, none]) (n := 156) (w := (1 : Int32)) 5 dX4_moveNearZero_153 rfl rfl rfl (Nat.le_of_ble_eq_true rfl) rfl rfl ?_
  refine rf_goto (tg := 22) dX4_moveNearZero_156 rfl ?_
  exact hr22 _ _ _ _
def fX4_moveNearZero_B22 (l1 : Int32) (l2 : Int32) (r22 : Int32 → Int32 → Int32 → ax_M → Option (Int32 × ax_M)) (l3 : Int32) (l4 : Int32) (l5 : Int32) (μ : ax_M) : Option (Int32 × ax_M) :=
  (if (1998 : Int32) < l5 then (fX4_moveNearZero_K159 μ) else (if l4 < l3 then (fX4_moveNearZero_K159 μ) else (ax_let (ax_mn (ax_mx (0 : Int32) l3) l4) (fun v5 => (ax_bd (fX1_moveWork l1 v5 μ) (fun _ m7 => (ax_bd (fX6_load m7) (fun _ m9 => (ax_bd (fX6_holds l2 m9) (fun v10 m11 => (ax_bd (fX1_moveWork l1 (-v5) m11) (fun _ m13 => (if v10 = 0 then (ax_bd (fX6_cutSlope l1 m13) (fun v14 m15 => (ax_bd (fX6_beyond l2 m15) (fun v16 m17 => (ax_bd (fX8_roundedUp v16 (64 : Int32) m17) (fun v18 m19 => (ax_let (ax_mx (1 : Int32) v18) (fun v20 => (if v14 = 0 then (some ((-2000 : Int32), m19)) else (if v14 ≤ 0 then (ax_let (v5 + v20) (fun v21 => (fX4_moveNearZero_K153 l1 l2 v21 l4 l5 r22 m19))) else (ax_let (v5 - v20) (fun v22 => (fX4_moveNearZero_K153 l1 l2 l3 v22 l5 r22 m19))))))))))))) else (some (v5, m13)))))))))))))))
theorem pX4_moveNearZero_B22 {x : ax_X} {G : ax_G} (hG : ax_ok G) (l1 : Int32) (l2 : Int32) (r22 : Int32 → Int32 → Int32 → ax_M → Option (Int32 × ax_M)) (hr22 : ∀ (a3 : Int32) (a4 : Int32) (a5 : Int32) (μ : ax_M), ax_Rf mX4_moveNearZero 4 x (ax_Z ax_jI x G) G 0 0 22 [some (.ref 46), some (.int l1), some (.int l2), some (.int a3), some (.int a4), some (.int a5), none, none, none, none] [] μ (r22 a3 a4 a5 μ)) (l3 : Int32) (l4 : Int32) (l5 : Int32) (μ : ax_M) : ax_Rf mX4_moveNearZero 4 x (ax_Z ax_jI x G) G 0 0 22 [some (.ref 46), some (.int l1), some (.int l2), some (.int l3), some (.int l4), some (.int l5), none, none, none, none] [] μ (fX4_moveNearZero_B22 l1 l2 r22 l3 l4 l5 μ) := by
  unfold fX4_moveNearZero_B22
  refine rf_iload (n := 24) 5 dX4_moveNearZero_22 rfl rfl ?_
  refine rf_sipush (n := 27) (1998 : Int32) dX4_moveNearZero_24 ccsipush_1998 rfl ?_
  refine rf_icmp_gt (tg := 159) (n := 30) dX4_moveNearZero_27 rfl rfl (fun c27 => ?_) (fun c27 => ?_)
  · refine rf_mask (lc2 := [none, none, none, none, none, none, none, none, none, none]) [false, false, false, false, false, false, true, true, true, true] rfl ?_
    exact pX4_moveNearZero_K159 hG _
  · refine rf_iload_n (n := 31) 3 dX4_moveNearZero_30 rfl rfl rfl ?_
    refine rf_iload (n := 33) 4 dX4_moveNearZero_31 rfl rfl ?_
    refine rf_icmp_gt (tg := 159) (n := 36) dX4_moveNearZero_33 rfl rfl (fun c26 => ?_) (fun c26 => ?_)
    · refine rf_mask (lc2 := [none, none, none, none, none, none, none, none, none, none]) [false, false, false, false, false, false, true, true, true, true] rfl ?_
      exact pX4_moveNearZero_K159 hG _
    · refine rf_iconst (n := 37) (0 : Int32) dX4_moveNearZero_36 cciconst_0 rfl ?_
      refine rf_iload_n (n := 38) 3 dX4_moveNearZero_37 rfl rfl rfl ?_
      refine rf_max (n := 41) dX4_moveNearZero_38 mxX4_68 ax_maxw (Nat.le_of_ble_eq_true rfl) (Nat.le_of_ble_eq_true rfl) rfl ?_
      refine rf_iload (n := 43) 4 dX4_moveNearZero_41 rfl rfl ?_
      refine rf_min (n := 46) dX4_moveNearZero_43 mxX4_110 ax_minw (Nat.le_of_ble_eq_true rfl) (Nat.le_of_ble_eq_true rfl) rfl ?_
      refine rf_letI (fun v5 => ?_)
      refine rf_istore (lc2 := [some (.ref 46), some (.int l1), some (.int l2), some (.int l3), some (.int l4), some (.int l5), some (.int v5), none, none, none]) (n := 48) 6 dX4_moveNearZero_46 rfl (Nat.le_of_ble_eq_true rfl) rfl rfl ?_
      refine rf_aload_n (n := 49) 0 dX4_moveNearZero_48 rfl rfl rfl ?_
      refine rf_getR (n := 52) rr_46_0 kk_2 hG dX4_moveNearZero_49 flX4_18 ki_4_0 sS_46 kk_46 rfl ?_
      refine rf_iload_n (n := 53) 1 dX4_moveNearZero_52 rfl rfl rfl ?_
      refine rf_iload (n := 55) 6 dX4_moveNearZero_53 rfl rfl ?_
      refine rf_cV2V (n := 58) hG (okX1_moveWork _ _ _) lVX4_113 hhX1_moveWork kk_2 sS_2 ⟨_, rfl, rfl⟩ dX4_moveNearZero_55 rfl (Nat.le_of_ble_eq_true rfl) (Nat.le_of_ble_eq_true rfl) (fun _ m7 => ?_)
      refine rf_aload_n (n := 59) 0 dX4_moveNearZero_58 rfl rfl rfl ?_
      refine rf_getR (n := 62) rr_46_2 kk_49 hG dX4_moveNearZero_59 flX4_31 ki_4_2 sS_46 kk_46 rfl ?_
      refine rf_cV0V (n := 65) hG (okX6_load _) lVX4_35 hhX6_load kk_49 sS_49 ⟨_, rfl, rfl⟩ dX4_moveNearZero_62 rfl (Nat.le_of_ble_eq_true rfl) (Nat.le_of_ble_eq_true rfl) (fun _ m9 => ?_)
      refine rf_aload_n (n := 66) 0 dX4_moveNearZero_65 rfl rfl rfl ?_
      refine rf_getR (n := 69) rr_46_2 kk_49 hG dX4_moveNearZero_66 flX4_31 ki_4_2 sS_46 kk_46 rfl ?_
      refine rf_iload_n (n := 70) 2 dX4_moveNearZero_69 rfl rfl rfl ?_
      refine rf_cV1I (n := 73) hG (okX6_holds _ _) lVX4_54 hhX6_holds kk_49 sS_49 ⟨_, rfl, rfl⟩ dX4_moveNearZero_70 rfl (Nat.le_of_ble_eq_true rfl) (Nat.le_of_ble_eq_true rfl) (fun v10 m11 => ?_)
      refine rf_istore (lc2 := [some (.ref 46), some (.int l1), some (.int l2), some (.int l3), some (.int l4), some (.int l5), some (.int v5), some (.int v10), none, none]) (n := 75) 7 dX4_moveNearZero_73 rfl (Nat.le_of_ble_eq_true rfl) rfl rfl ?_
      refine rf_aload_n (n := 76) 0 dX4_moveNearZero_75 rfl rfl rfl ?_
      refine rf_getR (n := 79) rr_46_0 kk_2 hG dX4_moveNearZero_76 flX4_18 ki_4_0 sS_46 kk_46 rfl ?_
      refine rf_iload_n (n := 80) 1 dX4_moveNearZero_79 rfl rfl rfl ?_
      refine rf_iload (n := 82) 6 dX4_moveNearZero_80 rfl rfl ?_
      refine rf_ineg (n := 83) dX4_moveNearZero_82 rfl ?_
      refine rf_cV2V (n := 86) hG (okX1_moveWork _ _ _) lVX4_113 hhX1_moveWork kk_2 sS_2 ⟨_, rfl, rfl⟩ dX4_moveNearZero_83 rfl (Nat.le_of_ble_eq_true rfl) (Nat.le_of_ble_eq_true rfl) (fun _ m13 => ?_)
      refine rf_iload (n := 88) 7 dX4_moveNearZero_86 rfl rfl ?_
      refine rf_if_eq (tg := 94) (n := 91) dX4_moveNearZero_88 rfl rfl (fun c25 => ?_) (fun c25 => ?_)
      · refine rf_aload_n (n := 95) 0 dX4_moveNearZero_94 rfl rfl rfl ?_
        refine rf_getR (n := 98) rr_46_2 kk_49 hG dX4_moveNearZero_95 flX4_31 ki_4_2 sS_46 kk_46 rfl ?_
        refine rf_iload_n (n := 99) 1 dX4_moveNearZero_98 rfl rfl rfl ?_
        refine rf_cV1I (n := 102) hG (okX6_cutSlope _ _) lVX4_117 hhX6_cutSlope kk_49 sS_49 ⟨_, rfl, rfl⟩ dX4_moveNearZero_99 rfl (Nat.le_of_ble_eq_true rfl) (Nat.le_of_ble_eq_true rfl) (fun v14 m15 => ?_)
        refine rf_istore (lc2 := [some (.ref 46), some (.int l1), some (.int l2), some (.int l3), some (.int l4), some (.int l5), some (.int v5), some (.int v10), some (.int v14), none]) (n := 104) 8 dX4_moveNearZero_102 rfl (Nat.le_of_ble_eq_true rfl) rfl rfl ?_
        refine rf_iconst (n := 105) (1 : Int32) dX4_moveNearZero_104 cciconst_1 rfl ?_
        refine rf_aload_n (n := 106) 0 dX4_moveNearZero_105 rfl rfl rfl ?_
        refine rf_getR (n := 109) rr_46_2 kk_49 hG dX4_moveNearZero_106 flX4_31 ki_4_2 sS_46 kk_46 rfl ?_
        refine rf_iload_n (n := 110) 2 dX4_moveNearZero_109 rfl rfl rfl ?_
        refine rf_cV1I (n := 113) hG (okX6_beyond _ _) lVX4_61 hhX6_beyond kk_49 sS_49 ⟨_, rfl, rfl⟩ dX4_moveNearZero_110 rfl (Nat.le_of_ble_eq_true rfl) (Nat.le_of_ble_eq_true rfl) (fun v16 m17 => ?_)
        refine rf_bipush (n := 115) (64 : Int32) dX4_moveNearZero_113 ccbipush_64 rfl ?_
        refine rf_cN2I (n := 118) hG (okX8_roundedUp _ _ _) lNX4_65 hhX8_roundedUp dX4_moveNearZero_115 rfl (Nat.le_of_ble_eq_true rfl) (Nat.le_of_ble_eq_true rfl) (fun v18 m19 => ?_)
        refine rf_max (n := 121) dX4_moveNearZero_118 mxX4_68 ax_maxw (Nat.le_of_ble_eq_true rfl) (Nat.le_of_ble_eq_true rfl) rfl ?_
        refine rf_letI (fun v20 => ?_)
        refine rf_istore (lc2 := [some (.ref 46), some (.int l1), some (.int l2), some (.int l3), some (.int l4), some (.int l5), some (.int v5), some (.int v10), some (.int v14), some (.int v20)]) (n := 123) 9 dX4_moveNearZero_121 rfl (Nat.le_of_ble_eq_true rfl) rfl rfl ?_
        refine rf_iload (n := 125) 8 dX4_moveNearZero_123 rfl rfl ?_
        refine rf_if_ne (tg := 132) (n := 128) dX4_moveNearZero_125 rfl rfl (fun c24 => ?_) (fun c24 => ?_)
        · refine rf_iload (n := 134) 8 dX4_moveNearZero_132 rfl rfl ?_
          refine rf_if_le (tg := 147) (n := 137) dX4_moveNearZero_134 rfl rfl (fun c23 => ?_) (fun c23 => ?_)
          · refine rf_iload (n := 149) 6 dX4_moveNearZero_147 rfl rfl ?_
            refine rf_iload (n := 151) 9 dX4_moveNearZero_149 rfl rfl ?_
            refine rf_iadd (n := 152) dX4_moveNearZero_151 rfl ?_
            refine rf_letI (fun v21 => ?_)
            refine rf_istore_n (lc2 := [some (.ref 46), some (.int l1), some (.int l2), some (.int v21), some (.int l4), some (.int l5), some (.int v5), some (.int v10), some (.int v14), some (.int v20)]) (n := 153) 3 dX4_moveNearZero_152 rfl rfl (Nat.le_of_ble_eq_true rfl) rfl rfl ?_
            refine rf_mask (lc2 := [some (.ref 46), some (.int l1), some (.int l2), some (.int v21), some (.int l4), some (.int l5), none, none, none, none]) [true, true, true, true, true, true, false, false, false, false] rfl ?_
            exact pX4_moveNearZero_K153 hG _ _ _ _ _ r22 hr22 _
          · refine rf_iload (n := 139) 6 dX4_moveNearZero_137 rfl rfl ?_
            refine rf_iload (n := 141) 9 dX4_moveNearZero_139 rfl rfl ?_
            refine rf_isub (n := 142) dX4_moveNearZero_141 rfl ?_
            refine rf_letI (fun v22 => ?_)
            refine rf_istore (lc2 := [some (.ref 46), some (.int l1), some (.int l2), some (.int l3), some (.int v22), some (.int l5), some (.int v5), some (.int v10), some (.int v14), some (.int v20)]) (n := 144) 4 dX4_moveNearZero_142 rfl (Nat.le_of_ble_eq_true rfl) rfl rfl ?_
            refine rf_goto (tg := 153) dX4_moveNearZero_144 rfl ?_
            refine rf_mask (lc2 := [some (.ref 46), some (.int l1), some (.int l2), some (.int l3), some (.int v22), some (.int l5), none, none, none, none]) [true, true, true, true, true, true, false, false, false, false] rfl ?_
            exact pX4_moveNearZero_K153 hG _ _ _ _ _ r22 hr22 _
        · refine rf_sipush (n := 131) (-2000 : Int32) dX4_moveNearZero_128 ccsipush_m2000 rfl ?_
          exact rf_retI rfl dX4_moveNearZero_131
      · refine rf_iload (n := 93) 6 dX4_moveNearZero_91 rfl rfl ?_
        exact rf_retI rfl dX4_moveNearZero_93
theorem pX4_moveNearZero_L22 {x : ax_X} {G : ax_G} (hG : ax_ok G) (l1 : Int32) (l2 : Int32) (n : Nat) (a3 : Int32) (a4 : Int32) (a5 : Int32) (μ : ax_M) : ax_Rf mX4_moveNearZero 4 x (ax_Z ax_jI x G) G 0 0 22 [some (.ref 46), some (.int l1), some (.int l2), some (.int a3), some (.int a4), some (.int a5), none, none, none, none] [] μ (ax_lp3 (fX4_moveNearZero_B22 l1 l2) n a3 a4 a5 μ) :=
  rf_lp3 (P := fun a3 a4 a5 μ t => ax_Rf mX4_moveNearZero 4 x (ax_Z ax_jI x G) G 0 0 22 [some (.ref 46), some (.int l1), some (.int l2), some (.int a3), some (.int a4), some (.int a5), none, none, none, none] [] μ t) (fun _ _ _ _ => rf_none) (fun rc hrc a3 a4 a5 μ => pX4_moveNearZero_B22 hG l1 l2 rc hrc a3 a4 a5 μ) n a3 a4 a5 μ
def fX4_moveNearZero (p1 : Int32) (p2 : Int32) (μ : ax_M) : Option (Int32 × ax_M) :=
  (ax_bd (fX1_leastMove p1 μ) (fun v1 m2 => (ax_bd (fX1_greatestMove p1 m2) (fun v3 m4 => (ax_lp3 (fX4_moveNearZero_B22 p1 p2) ax_FU v1 v3 (0 : Int32) m4)))))
theorem okX4_moveNearZero (p1 : Int32) (p2 : Int32) (μ : ax_M) : ax_Ok mX4_moveNearZero 4 ax_jI [.ref 46, .int p1, .int p2] μ (fX4_moveNearZero p1 p2 μ) := by
  refine ax_start (lc := [some (.ref 46), some (.int p1), some (.int p2), none, none, none, none, none, none, none]) 7 (by decide +kernel) rfl (Nat.le_of_ble_eq_true rfl) (fun x G hG => ?_)
  unfold fX4_moveNearZero
  refine rf_aload_n (n := 1) 0 dX4_moveNearZero_0 rfl rfl rfl ?_
  refine rf_getR (n := 4) rr_46_0 kk_2 hG dX4_moveNearZero_1 flX4_18 ki_4_0 sS_46 kk_46 rfl ?_
  refine rf_iload_n (n := 5) 1 dX4_moveNearZero_4 rfl rfl rfl ?_
  refine rf_cV1I (n := 8) hG (okX1_leastMove _ _) lVX4_104 hhX1_leastMove kk_2 sS_2 ⟨_, rfl, rfl⟩ dX4_moveNearZero_5 rfl (Nat.le_of_ble_eq_true rfl) (Nat.le_of_ble_eq_true rfl) (fun v1 m2 => ?_)
  refine rf_istore_n (lc2 := [some (.ref 46), some (.int p1), some (.int p2), some (.int v1), none, none, none, none, none, none]) (n := 9) 3 dX4_moveNearZero_8 rfl rfl (Nat.le_of_ble_eq_true rfl) rfl rfl ?_
  refine rf_aload_n (n := 10) 0 dX4_moveNearZero_9 rfl rfl rfl ?_
  refine rf_getR (n := 13) rr_46_0 kk_2 hG dX4_moveNearZero_10 flX4_18 ki_4_0 sS_46 kk_46 rfl ?_
  refine rf_iload_n (n := 14) 1 dX4_moveNearZero_13 rfl rfl rfl ?_
  refine rf_cV1I (n := 17) hG (okX1_greatestMove _ _) lVX4_107 hhX1_greatestMove kk_2 sS_2 ⟨_, rfl, rfl⟩ dX4_moveNearZero_14 rfl (Nat.le_of_ble_eq_true rfl) (Nat.le_of_ble_eq_true rfl) (fun v3 m4 => ?_)
  refine rf_istore (lc2 := [some (.ref 46), some (.int p1), some (.int p2), some (.int v1), some (.int v3), none, none, none, none, none]) (n := 19) 4 dX4_moveNearZero_17 rfl (Nat.le_of_ble_eq_true rfl) rfl rfl ?_
  refine rf_iconst (n := 20) (0 : Int32) dX4_moveNearZero_19 cciconst_0 rfl ?_
  refine rf_istore (lc2 := [some (.ref 46), some (.int p1), some (.int p2), some (.int v1), some (.int v3), some (.int (0 : Int32)), none, none, none, none]) (n := 22) 5 dX4_moveNearZero_20 rfl (Nat.le_of_ble_eq_true rfl) rfl rfl ?_
  exact pX4_moveNearZero_L22 hG _ _ _ _ _ _ _
def fX4_bestMoving_K91 (l2 : Int32) (μ : ax_M) : Option (Int32 × ax_M) :=
  (some (l2, μ))
theorem pX4_bestMoving_K91 {x : ax_X} {G : ax_G} (hG : ax_ok G) (l2 : Int32) (μ : ax_M) : ax_Rf mX4_bestMoving 5 x (ax_Z ax_jI x G) G 0 0 91 [none, none, some (.int l2), none, none, none, none, none] [] μ (fX4_bestMoving_K91 l2 μ) := by
  unfold fX4_bestMoving_K91
  refine rf_iload_n (n := 92) 2 dX4_bestMoving_91 rfl rfl rfl ?_
  exact rf_retI rfl dX4_bestMoving_92
def fX4_bestMoving_K85 (l1 : Int32) (l2 : Int32) (l3 : Int32) (l4 : Int32) (l5 : Int32) (r30 : Int32 → Int32 → Int32 → Int32 → ax_M → Option (Int32 × ax_M)) (μ : ax_M) : Option (Int32 × ax_M) :=
  (r30 l2 l3 l4 (l5 + (1 : Int32)) μ)
theorem pX4_bestMoving_K85 {x : ax_X} {G : ax_G} (hG : ax_ok G) (l1 : Int32) (l2 : Int32) (l3 : Int32) (l4 : Int32) (l5 : Int32) (r30 : Int32 → Int32 → Int32 → Int32 → ax_M → Option (Int32 × ax_M)) (hr30 : ∀ (a2 : Int32) (a3 : Int32) (a4 : Int32) (a5 : Int32) (μ : ax_M), ax_Rf mX4_bestMoving 5 x (ax_Z ax_jI x G) G 0 0 30 [some (.ref 46), some (.int l1), some (.int a2), some (.int a3), some (.int a4), some (.int a5), none, none] [] μ (r30 a2 a3 a4 a5 μ)) (μ : ax_M) : ax_Rf mX4_bestMoving 5 x (ax_Z ax_jI x G) G 0 0 85 [some (.ref 46), some (.int l1), some (.int l2), some (.int l3), some (.int l4), some (.int l5), none, none] [] μ (fX4_bestMoving_K85 l1 l2 l3 l4 l5 r30 μ) := by
  unfold fX4_bestMoving_K85
  refine rf_iinc (lc2 := [some (.ref 46), some (.int l1), some (.int l2), some (.int l3), some (.int l4), some (.int (l5 + (1 : Int32))), none, none]) (n := 88) (w := (1 : Int32)) 5 dX4_bestMoving_85 rfl rfl rfl (Nat.le_of_ble_eq_true rfl) rfl rfl ?_
  refine rf_goto (tg := 30) dX4_bestMoving_88 rfl ?_
  exact hr30 _ _ _ _ _
def fX4_bestMoving_B30 (l1 : Int32) (r30 : Int32 → Int32 → Int32 → Int32 → ax_M → Option (Int32 × ax_M)) (l2 : Int32) (l3 : Int32) (l4 : Int32) (l5 : Int32) (μ : ax_M) : Option (Int32 × ax_M) :=
  (if (32 : Int32) ≤ l5 then (fX4_bestMoving_K91 l2 μ) else (if l4 < l3 then (fX4_bestMoving_K91 l2 μ) else (Option.bind (ax_dv (l3 + l4) (2 : Int32)) (fun v3 => (ax_bd (fX4_moveNearZero l1 v3 μ) (fun v4 m5 => (if v4 = (-2000 : Int32) then (ax_let (v3 + (1 : Int32)) (fun v7 => (fX4_bestMoving_K85 l1 l2 v7 l4 l5 r30 m5))) else (ax_let (v3 - (1 : Int32)) (fun v6 => (fX4_bestMoving_K85 l1 v4 l3 v6 l5 r30 m5))))))))))
theorem pX4_bestMoving_B30 {x : ax_X} {G : ax_G} (hG : ax_ok G) (l1 : Int32) (r30 : Int32 → Int32 → Int32 → Int32 → ax_M → Option (Int32 × ax_M)) (hr30 : ∀ (a2 : Int32) (a3 : Int32) (a4 : Int32) (a5 : Int32) (μ : ax_M), ax_Rf mX4_bestMoving 5 x (ax_Z ax_jI x G) G 0 0 30 [some (.ref 46), some (.int l1), some (.int a2), some (.int a3), some (.int a4), some (.int a5), none, none] [] μ (r30 a2 a3 a4 a5 μ)) (l2 : Int32) (l3 : Int32) (l4 : Int32) (l5 : Int32) (μ : ax_M) : ax_Rf mX4_bestMoving 5 x (ax_Z ax_jI x G) G 0 0 30 [some (.ref 46), some (.int l1), some (.int l2), some (.int l3), some (.int l4), some (.int l5), none, none] [] μ (fX4_bestMoving_B30 l1 r30 l2 l3 l4 l5 μ) := by
  unfold fX4_bestMoving_B30
  refine rf_iload (n := 32) 5 dX4_bestMoving_30 rfl rfl ?_
  refine rf_bipush (n := 34) (32 : Int32) dX4_bestMoving_32 ccbipush_32 rfl ?_
  refine rf_icmp_ge (tg := 91) (n := 37) dX4_bestMoving_34 rfl rfl (fun c10 => ?_) (fun c10 => ?_)
  · refine rf_mask (lc2 := [none, none, some (.int l2), none, none, none, none, none]) [false, false, true, false, false, false, true, true] rfl ?_
    exact pX4_bestMoving_K91 hG _ _
  · refine rf_iload_n (n := 38) 3 dX4_bestMoving_37 rfl rfl rfl ?_
    refine rf_iload (n := 40) 4 dX4_bestMoving_38 rfl rfl ?_
    refine rf_icmp_gt (tg := 91) (n := 43) dX4_bestMoving_40 rfl rfl (fun c9 => ?_) (fun c9 => ?_)
    · refine rf_mask (lc2 := [none, none, some (.int l2), none, none, none, none, none]) [false, false, true, false, false, false, true, true] rfl ?_
      exact pX4_bestMoving_K91 hG _ _
    · refine rf_iload_n (n := 44) 3 dX4_bestMoving_43 rfl rfl rfl ?_
      refine rf_iload (n := 46) 4 dX4_bestMoving_44 rfl rfl ?_
      refine rf_iadd (n := 47) dX4_bestMoving_46 rfl ?_
      refine rf_iconst (n := 48) (2 : Int32) dX4_bestMoving_47 cciconst_2 rfl ?_
      refine rf_idiv (n := 49) dX4_bestMoving_48 rfl (fun v3 => ?_)
      refine rf_istore (lc2 := [some (.ref 46), some (.int l1), some (.int l2), some (.int l3), some (.int l4), some (.int l5), some (.int v3), none]) (n := 51) 6 dX4_bestMoving_49 rfl (Nat.le_of_ble_eq_true rfl) rfl rfl ?_
      refine rf_aload_n (n := 52) 0 dX4_bestMoving_51 rfl rfl rfl ?_
      refine rf_iload_n (n := 53) 1 dX4_bestMoving_52 rfl rfl rfl ?_
      refine rf_iload (n := 55) 6 dX4_bestMoving_53 rfl rfl ?_
      refine rf_cV2I (n := 58) hG (okX4_moveNearZero _ _ _) lVX4_101 hhX4_moveNearZero kk_46 sS_46 ⟨_, rfl, rfl⟩ dX4_bestMoving_55 rfl (Nat.le_of_ble_eq_true rfl) (Nat.le_of_ble_eq_true rfl) (fun v4 m5 => ?_)
      refine rf_istore (lc2 := [some (.ref 46), some (.int l1), some (.int l2), some (.int l3), some (.int l4), some (.int l5), some (.int v3), some (.int v4)]) (n := 60) 7 dX4_bestMoving_58 rfl (Nat.le_of_ble_eq_true rfl) rfl rfl ?_
      refine rf_iload (n := 62) 7 dX4_bestMoving_60 rfl rfl ?_
      refine rf_sipush (n := 65) (-2000 : Int32) dX4_bestMoving_62 ccsipush_m2000 rfl ?_
      refine rf_icmp_ne (tg := 76) (n := 68) dX4_bestMoving_65 rfl rfl (fun c8 => ?_) (fun c8 => ?_)
      · refine rf_iload (n := 78) 7 dX4_bestMoving_76 rfl rfl ?_
        refine rf_istore_n (lc2 := [some (.ref 46), some (.int l1), some (.int v4), some (.int l3), some (.int l4), some (.int l5), some (.int v3), some (.int v4)]) (n := 79) 2 dX4_bestMoving_78 rfl rfl (Nat.le_of_ble_eq_true rfl) rfl rfl ?_
        refine rf_iload (n := 81) 6 dX4_bestMoving_79 rfl rfl ?_
        refine rf_iconst (n := 82) (1 : Int32) dX4_bestMoving_81 cciconst_1 rfl ?_
        refine rf_isub (n := 83) dX4_bestMoving_82 rfl ?_
        refine rf_letI (fun v6 => ?_)
        refine rf_istore (lc2 := [some (.ref 46), some (.int l1), some (.int v4), some (.int l3), some (.int v6), some (.int l5), some (.int v3), some (.int v4)]) (n := 85) 4 dX4_bestMoving_83 rfl (Nat.le_of_ble_eq_true rfl) rfl rfl ?_
        refine rf_mask (lc2 := [some (.ref 46), some (.int l1), some (.int v4), some (.int l3), some (.int v6), some (.int l5), none, none]) [true, true, true, true, true, true, false, false] rfl ?_
        exact pX4_bestMoving_K85 hG _ _ _ _ _ r30 hr30 _
      · refine rf_iload (n := 70) 6 dX4_bestMoving_68 rfl rfl ?_
        refine rf_iconst (n := 71) (1 : Int32) dX4_bestMoving_70 cciconst_1 rfl ?_
        refine rf_iadd (n := 72) dX4_bestMoving_71 rfl ?_
        refine rf_letI (fun v7 => ?_)
        refine rf_istore_n (lc2 := [some (.ref 46), some (.int l1), some (.int l2), some (.int v7), some (.int l4), some (.int l5), some (.int v3), some (.int v4)]) (n := 73) 3 dX4_bestMoving_72 rfl rfl (Nat.le_of_ble_eq_true rfl) rfl rfl ?_
        refine rf_goto (tg := 85) dX4_bestMoving_73 rfl ?_
        refine rf_mask (lc2 := [some (.ref 46), some (.int l1), some (.int l2), some (.int v7), some (.int l4), some (.int l5), none, none]) [true, true, true, true, true, true, false, false] rfl ?_
        exact pX4_bestMoving_K85 hG _ _ _ _ _ r30 hr30 _
theorem pX4_bestMoving_L30 {x : ax_X} {G : ax_G} (hG : ax_ok G) (l1 : Int32) (n : Nat) (a2 : Int32) (a3 : Int32) (a4 : Int32) (a5 : Int32) (μ : ax_M) : ax_Rf mX4_bestMoving 5 x (ax_Z ax_jI x G) G 0 0 30 [some (.ref 46), some (.int l1), some (.int a2), some (.int a3), some (.int a4), some (.int a5), none, none] [] μ (ax_lp4 (fX4_bestMoving_B30 l1) n a2 a3 a4 a5 μ) :=
  rf_lp4 (P := fun a2 a3 a4 a5 μ t => ax_Rf mX4_bestMoving 5 x (ax_Z ax_jI x G) G 0 0 30 [some (.ref 46), some (.int l1), some (.int a2), some (.int a3), some (.int a4), some (.int a5), none, none] [] μ t) (fun _ _ _ _ _ => rf_none) (fun rc hrc a2 a3 a4 a5 μ => pX4_bestMoving_B30 hG l1 rc hrc a2 a3 a4 a5 μ) n a2 a3 a4 a5 μ
def fX4_bestMoving_K25 (l1 : Int32) (l2 : Int32) (l3 : Int32) (s0 : Int32) (μ : ax_M) : Option (Int32 × ax_M) :=
  (ax_lp4 (fX4_bestMoving_B30 l1) ax_FU l2 l3 s0 (0 : Int32) μ)
theorem pX4_bestMoving_K25 {x : ax_X} {G : ax_G} (hG : ax_ok G) (l1 : Int32) (l2 : Int32) (l3 : Int32) (s0 : Int32) (μ : ax_M) : ax_Rf mX4_bestMoving 5 x (ax_Z ax_jI x G) G 0 0 25 [some (.ref 46), some (.int l1), some (.int l2), some (.int l3), none, none, none, none] [.int s0] μ (fX4_bestMoving_K25 l1 l2 l3 s0 μ) := by
  unfold fX4_bestMoving_K25
  refine rf_istore (lc2 := [some (.ref 46), some (.int l1), some (.int l2), some (.int l3), some (.int s0), none, none, none]) (n := 27) 4 dX4_bestMoving_25 rfl (Nat.le_of_ble_eq_true rfl) rfl rfl ?_
  refine rf_iconst (n := 28) (0 : Int32) dX4_bestMoving_27 cciconst_0 rfl ?_
  refine rf_istore (lc2 := [some (.ref 46), some (.int l1), some (.int l2), some (.int l3), some (.int s0), some (.int (0 : Int32)), none, none]) (n := 30) 5 dX4_bestMoving_28 rfl (Nat.le_of_ble_eq_true rfl) rfl rfl ?_
  exact pX4_bestMoving_L30 hG _ _ _ _ _ _ _
def fX4_bestMoving (p1 : Int32) (μ : ax_M) : Option (Int32 × ax_M) :=
  (ax_bd (fX4_moveNearZero p1 (9999 : Int32) μ) (fun v1 m2 => (if v1 = (-2000 : Int32) then (fX4_bestMoving_K25 p1 v1 (1 : Int32) (0 : Int32) m2) else (fX4_bestMoving_K25 p1 v1 (1 : Int32) (9998 : Int32) m2))))
theorem okX4_bestMoving (p1 : Int32) (μ : ax_M) : ax_Ok mX4_bestMoving 5 ax_jI [.ref 46, .int p1] μ (fX4_bestMoving p1 μ) := by
  refine ax_start (lc := [some (.ref 46), some (.int p1), none, none, none, none, none, none]) 6 (by decide +kernel) rfl (Nat.le_of_ble_eq_true rfl) (fun x G hG => ?_)
  unfold fX4_bestMoving
  refine rf_aload_n (n := 1) 0 dX4_bestMoving_0 rfl rfl rfl ?_
  refine rf_iload_n (n := 2) 1 dX4_bestMoving_1 rfl rfl rfl ?_
  refine rf_sipush (n := 5) (9999 : Int32) dX4_bestMoving_2 ccsipush_9999 rfl ?_
  refine rf_cV2I (n := 8) hG (okX4_moveNearZero _ _ _) lVX4_101 hhX4_moveNearZero kk_46 sS_46 ⟨_, rfl, rfl⟩ dX4_bestMoving_5 rfl (Nat.le_of_ble_eq_true rfl) (Nat.le_of_ble_eq_true rfl) (fun v1 m2 => ?_)
  refine rf_istore_n (lc2 := [some (.ref 46), some (.int p1), some (.int v1), none, none, none, none, none]) (n := 9) 2 dX4_bestMoving_8 rfl rfl (Nat.le_of_ble_eq_true rfl) rfl rfl ?_
  refine rf_iconst (n := 10) (1 : Int32) dX4_bestMoving_9 cciconst_1 rfl ?_
  refine rf_istore_n (lc2 := [some (.ref 46), some (.int p1), some (.int v1), some (.int (1 : Int32)), none, none, none, none]) (n := 11) 3 dX4_bestMoving_10 rfl rfl (Nat.le_of_ble_eq_true rfl) rfl rfl ?_
  refine rf_iload_n (n := 12) 2 dX4_bestMoving_11 rfl rfl rfl ?_
  refine rf_sipush (n := 15) (-2000 : Int32) dX4_bestMoving_12 ccsipush_m2000 rfl ?_
  refine rf_icmp_ne (tg := 22) (n := 18) dX4_bestMoving_15 rfl rfl (fun c11 => ?_) (fun c11 => ?_)
  · refine rf_sipush (n := 25) (9998 : Int32) dX4_bestMoving_22 ccsipush_9998 rfl ?_
    exact pX4_bestMoving_K25 hG _ _ _ _ _
  · refine rf_iconst (n := 19) (0 : Int32) dX4_bestMoving_18 cciconst_0 rfl ?_
    refine rf_goto (tg := 25) dX4_bestMoving_19 rfl ?_
    exact pX4_bestMoving_K25 hG _ _ _ _ _
def fX8_bestMove_K25 (s0 : Int32) (μ : ax_M) : Option (Int32 × ax_M) :=
  (some (s0, μ))
theorem pX8_bestMove_K25 {x : ax_X} {G : ax_G} (hG : ax_ok G) (s0 : Int32) (μ : ax_M) : ax_Rf mX8_bestMove 6 x (ax_Z ax_jI x G) G 0 0 25 [none, none] [.int s0] μ (fX8_bestMove_K25 s0 μ) := by
  unfold fX8_bestMove_K25
  exact rf_retI rfl dX8_bestMove_25
def fX8_bestMove (p1 : Int32) (μ : ax_M) : Option (Int32 × ax_M) :=
  (ax_bd (fX1_hasCell p1 μ) (fun v1 m2 => (if v1 = 0 then (fX8_bestMove_K25 (-3000 : Int32) m2) else (ax_bd (fX4_bestMoving p1 m2) (fun v3 m4 => (fX8_bestMove_K25 v3 m4))))))
theorem okX8_bestMove (p1 : Int32) (μ : ax_M) : ax_Ok mX8_bestMove 6 ax_jI [.ref 0, .int p1] μ (fX8_bestMove p1 μ) := by
  refine ax_start (lc := [some (.ref 0), some (.int p1)]) 0 (by decide +kernel) rfl (Nat.le_of_ble_eq_true rfl) (fun x G hG => ?_)
  unfold fX8_bestMove
  refine rf_aload_n (n := 1) 0 dX8_bestMove_0 rfl rfl rfl ?_
  refine rf_getR (n := 4) rr_0_2 kk_2 hG dX8_bestMove_1 flX8_16 ki_8_2 sS_0 kk_0 rfl ?_
  refine rf_iload_n (n := 5) 1 dX8_bestMove_4 rfl rfl rfl ?_
  refine rf_cV1I (n := 8) hG (okX1_hasCell _ _) lVX8_152 hhX1_hasCell kk_2 sS_2 ⟨_, rfl, rfl⟩ dX8_bestMove_5 rfl (Nat.le_of_ble_eq_true rfl) (Nat.le_of_ble_eq_true rfl) (fun v1 m2 => ?_)
  refine rf_if_eq (tg := 22) (n := 11) dX8_bestMove_8 rfl rfl (fun c5 => ?_) (fun c5 => ?_)
  · refine rf_sipush (n := 25) (-3000 : Int32) dX8_bestMove_22 ccsipush_m3000 rfl ?_
    refine rf_mask (lc2 := [none, none]) [false, false] rfl ?_
    exact pX8_bestMove_K25 hG _ _
  · refine rf_aload_n (n := 12) 0 dX8_bestMove_11 rfl rfl rfl ?_
    refine rf_getR (n := 15) rr_0_8 kk_46 hG dX8_bestMove_12 flX8_64 ki_8_8 sS_0 kk_0 rfl ?_
    refine rf_iload_n (n := 16) 1 dX8_bestMove_15 rfl rfl rfl ?_
    refine rf_cV1I (n := 19) hG (okX4_bestMoving _ _) lVX8_290 hhX4_bestMoving kk_46 sS_46 ⟨_, rfl, rfl⟩ dX8_bestMove_16 rfl (Nat.le_of_ble_eq_true rfl) (Nat.le_of_ble_eq_true rfl) (fun v3 m4 => ?_)
    refine rf_goto (tg := 25) dX8_bestMove_19 rfl ?_
    refine rf_mask (lc2 := [none, none]) [false, false] rfl ?_
    exact pX8_bestMove_K25 hG _ _
def fX9_bestMove_K116 (l1 : Int32) (l2 : Int32) (l3 : Int32) (l4 : Int32) (r28 : Int32 → Int32 → Int32 → ax_M → Option (Int32 × ax_M)) (μ : ax_M) : Option (Int32 × ax_M) :=
  (r28 l2 l3 (l4 + (1 : Int32)) μ)
theorem pX9_bestMove_K116 {x : ax_X} {G : ax_G} (hG : ax_ok G) (l1 : Int32) (l2 : Int32) (l3 : Int32) (l4 : Int32) (r28 : Int32 → Int32 → Int32 → ax_M → Option (Int32 × ax_M)) (hr28 : ∀ (a2 : Int32) (a3 : Int32) (a4 : Int32) (μ : ax_M), ax_Rf mX9_bestMove 7 x (ax_Z ax_jI x G) G 0 0 28 [some (.ref 57), some (.int l1), some (.int a2), some (.int a3), some (.int a4), none, none] [] μ (r28 a2 a3 a4 μ)) (μ : ax_M) : ax_Rf mX9_bestMove 7 x (ax_Z ax_jI x G) G 0 0 116 [some (.ref 57), some (.int l1), some (.int l2), some (.int l3), some (.int l4), none, none] [] μ (fX9_bestMove_K116 l1 l2 l3 l4 r28 μ) := by
  unfold fX9_bestMove_K116
  refine rf_iinc (lc2 := [some (.ref 57), some (.int l1), some (.int l2), some (.int l3), some (.int (l4 + (1 : Int32))), none, none]) (n := 119) (w := (1 : Int32)) 4 dX9_bestMove_116 rfl rfl rfl (Nat.le_of_ble_eq_true rfl) rfl rfl ?_
  refine rf_goto (tg := 28) dX9_bestMove_119 rfl ?_
  exact hr28 _ _ _ _
def fX9_bestMove_K58 (l1 : Int32) (l2 : Int32) (l3 : Int32) (l4 : Int32) (s0 : Int32) (r28 : Int32 → Int32 → Int32 → ax_M → Option (Int32 × ax_M)) (μ : ax_M) : Option (Int32 × ax_M) :=
  (ax_bd (fX9_canMove l1 s0 μ) (fun v6 m7 => (if v6 = 0 then (fX9_bestMove_K116 l1 l2 l3 l4 r28 m7) else (ax_bd (fX9_moves l1 s0 m7) (fun _ m9 => (ax_bd (fX9_leastNow m9) (fun v10 m11 => (ax_bd (fX9_moves l1 (-s0) m11) (fun _ m13 => (if v10 = (-2 : Int32) then (fX9_bestMove_K116 l1 l2 l3 l4 r28 m13) else (if v10 < l3 then (fX9_bestMove_K116 l1 s0 v10 l4 r28 m13) else (fX9_bestMove_K116 l1 l2 l3 l4 r28 m13))))))))))))
theorem pX9_bestMove_K58 {x : ax_X} {G : ax_G} (hG : ax_ok G) (l1 : Int32) (l2 : Int32) (l3 : Int32) (l4 : Int32) (s0 : Int32) (r28 : Int32 → Int32 → Int32 → ax_M → Option (Int32 × ax_M)) (hr28 : ∀ (a2 : Int32) (a3 : Int32) (a4 : Int32) (μ : ax_M), ax_Rf mX9_bestMove 7 x (ax_Z ax_jI x G) G 0 0 28 [some (.ref 57), some (.int l1), some (.int a2), some (.int a3), some (.int a4), none, none] [] μ (r28 a2 a3 a4 μ)) (μ : ax_M) : ax_Rf mX9_bestMove 7 x (ax_Z ax_jI x G) G 0 0 58 [some (.ref 57), some (.int l1), some (.int l2), some (.int l3), some (.int l4), none, none] [.int s0] μ (fX9_bestMove_K58 l1 l2 l3 l4 s0 r28 μ) := by
  unfold fX9_bestMove_K58
  refine rf_istore (lc2 := [some (.ref 57), some (.int l1), some (.int l2), some (.int l3), some (.int l4), some (.int s0), none]) (n := 60) 5 dX9_bestMove_58 rfl (Nat.le_of_ble_eq_true rfl) rfl rfl ?_
  refine rf_aload_n (n := 61) 0 dX9_bestMove_60 rfl rfl rfl ?_
  refine rf_iload_n (n := 62) 1 dX9_bestMove_61 rfl rfl rfl ?_
  refine rf_iload (n := 64) 5 dX9_bestMove_62 rfl rfl ?_
  refine rf_cV2I (n := 67) hG (okX9_canMove _ _ _) lVX9_255 hhX9_canMove kk_57 sS_57 ⟨_, rfl, rfl⟩ dX9_bestMove_64 rfl (Nat.le_of_ble_eq_true rfl) (Nat.le_of_ble_eq_true rfl) (fun v6 m7 => ?_)
  refine rf_if_ne (tg := 73) (n := 70) dX9_bestMove_67 rfl rfl (fun c16 => ?_) (fun c16 => ?_)
  · refine rf_aload_n (n := 74) 0 dX9_bestMove_73 rfl rfl rfl ?_
    refine rf_iload_n (n := 75) 1 dX9_bestMove_74 rfl rfl rfl ?_
    refine rf_iload (n := 77) 5 dX9_bestMove_75 rfl rfl ?_
    refine rf_cV2V (n := 80) hG (okX9_moves _ _ _) lVX9_259 hhX9_moves kk_57 sS_57 ⟨_, rfl, rfl⟩ dX9_bestMove_77 rfl (Nat.le_of_ble_eq_true rfl) (Nat.le_of_ble_eq_true rfl) (fun _ m9 => ?_)
    refine rf_aload_n (n := 81) 0 dX9_bestMove_80 rfl rfl rfl ?_
    refine rf_cV0I (n := 84) hG (okX9_leastNow _) lVX9_366 hhX9_leastNow kk_57 sS_57 ⟨_, rfl, rfl⟩ dX9_bestMove_81 rfl (Nat.le_of_ble_eq_true rfl) (Nat.le_of_ble_eq_true rfl) (fun v10 m11 => ?_)
    refine rf_istore (lc2 := [some (.ref 57), some (.int l1), some (.int l2), some (.int l3), some (.int l4), some (.int s0), some (.int v10)]) (n := 86) 6 dX9_bestMove_84 rfl (Nat.le_of_ble_eq_true rfl) rfl rfl ?_
    refine rf_aload_n (n := 87) 0 dX9_bestMove_86 rfl rfl rfl ?_
    refine rf_iload_n (n := 88) 1 dX9_bestMove_87 rfl rfl rfl ?_
    refine rf_iload (n := 90) 5 dX9_bestMove_88 rfl rfl ?_
    refine rf_ineg (n := 91) dX9_bestMove_90 rfl ?_
    refine rf_cV2V (n := 94) hG (okX9_moves _ _ _) lVX9_259 hhX9_moves kk_57 sS_57 ⟨_, rfl, rfl⟩ dX9_bestMove_91 rfl (Nat.le_of_ble_eq_true rfl) (Nat.le_of_ble_eq_true rfl) (fun _ m13 => ?_)
    refine rf_iload (n := 96) 6 dX9_bestMove_94 rfl rfl ?_
    refine rf_bipush (n := 98) (-2 : Int32) dX9_bestMove_96 ccbipush_m2 rfl ?_
    refine rf_icmp_eq (tg := 116) (n := 101) dX9_bestMove_98 rfl rfl (fun c15 => ?_) (fun c15 => ?_)
    · refine rf_mask (lc2 := [some (.ref 57), some (.int l1), some (.int l2), some (.int l3), some (.int l4), none, none]) [true, true, true, true, true, false, false] rfl ?_
      exact pX9_bestMove_K116 hG _ _ _ _ r28 hr28 _
    · refine rf_iload (n := 103) 6 dX9_bestMove_101 rfl rfl ?_
      refine rf_iload_n (n := 104) 3 dX9_bestMove_103 rfl rfl rfl ?_
      refine rf_icmp_lt (tg := 110) (n := 107) dX9_bestMove_104 rfl rfl (fun c14 => ?_) (fun c14 => ?_)
      · refine rf_iload (n := 112) 5 dX9_bestMove_110 rfl rfl ?_
        refine rf_istore_n (lc2 := [some (.ref 57), some (.int l1), some (.int s0), some (.int l3), some (.int l4), some (.int s0), some (.int v10)]) (n := 113) 2 dX9_bestMove_112 rfl rfl (Nat.le_of_ble_eq_true rfl) rfl rfl ?_
        refine rf_iload (n := 115) 6 dX9_bestMove_113 rfl rfl ?_
        refine rf_istore_n (lc2 := [some (.ref 57), some (.int l1), some (.int s0), some (.int v10), some (.int l4), some (.int s0), some (.int v10)]) (n := 116) 3 dX9_bestMove_115 rfl rfl (Nat.le_of_ble_eq_true rfl) rfl rfl ?_
        refine rf_mask (lc2 := [some (.ref 57), some (.int l1), some (.int s0), some (.int v10), some (.int l4), none, none]) [true, true, true, true, true, false, false] rfl ?_
        exact pX9_bestMove_K116 hG _ _ _ _ r28 hr28 _
      · refine rf_goto (tg := 116) dX9_bestMove_107 rfl ?_
        refine rf_mask (lc2 := [some (.ref 57), some (.int l1), some (.int l2), some (.int l3), some (.int l4), none, none]) [true, true, true, true, true, false, false] rfl ?_
        exact pX9_bestMove_K116 hG _ _ _ _ r28 hr28 _
  · refine rf_goto (tg := 116) dX9_bestMove_70 rfl ?_
    refine rf_mask (lc2 := [some (.ref 57), some (.int l1), some (.int l2), some (.int l3), some (.int l4), none, none]) [true, true, true, true, true, false, true] rfl ?_
    exact pX9_bestMove_K116 hG _ _ _ _ r28 hr28 _
def fX9_bestMove_B28 (l1 : Int32) (r28 : Int32 → Int32 → Int32 → ax_M → Option (Int32 × ax_M)) (l2 : Int32) (l3 : Int32) (l4 : Int32) (μ : ax_M) : Option (Int32 × ax_M) :=
  (if (1998 : Int32) < l4 then (some (l2, μ)) else (Option.bind (ax_rm l4 (2 : Int32)) (fun v4 => (if v4 = (1 : Int32) then (Option.bind (ax_dv (-(l4 + (1 : Int32))) (2 : Int32)) (fun v17 => (fX9_bestMove_K58 l1 l2 l3 l4 v17 r28 μ))) else (Option.bind (ax_dv l4 (2 : Int32)) (fun v5 => (fX9_bestMove_K58 l1 l2 l3 l4 v5 r28 μ)))))))
theorem pX9_bestMove_B28 {x : ax_X} {G : ax_G} (hG : ax_ok G) (l1 : Int32) (r28 : Int32 → Int32 → Int32 → ax_M → Option (Int32 × ax_M)) (hr28 : ∀ (a2 : Int32) (a3 : Int32) (a4 : Int32) (μ : ax_M), ax_Rf mX9_bestMove 7 x (ax_Z ax_jI x G) G 0 0 28 [some (.ref 57), some (.int l1), some (.int a2), some (.int a3), some (.int a4), none, none] [] μ (r28 a2 a3 a4 μ)) (l2 : Int32) (l3 : Int32) (l4 : Int32) (μ : ax_M) : ax_Rf mX9_bestMove 7 x (ax_Z ax_jI x G) G 0 0 28 [some (.ref 57), some (.int l1), some (.int l2), some (.int l3), some (.int l4), none, none] [] μ (fX9_bestMove_B28 l1 r28 l2 l3 l4 μ) := by
  unfold fX9_bestMove_B28
  refine rf_iload (n := 30) 4 dX9_bestMove_28 rfl rfl ?_
  refine rf_sipush (n := 33) (1998 : Int32) dX9_bestMove_30 ccsipush_1998 rfl ?_
  refine rf_icmp_gt (tg := 122) (n := 36) dX9_bestMove_33 rfl rfl (fun c19 => ?_) (fun c19 => ?_)
  · refine rf_iload_n (n := 123) 2 dX9_bestMove_122 rfl rfl rfl ?_
    exact rf_retI rfl dX9_bestMove_123
  · refine rf_iload (n := 38) 4 dX9_bestMove_36 rfl rfl ?_
    refine rf_iconst (n := 39) (2 : Int32) dX9_bestMove_38 cciconst_2 rfl ?_
    refine rf_irem (n := 40) dX9_bestMove_39 rfl (fun v4 => ?_)
    refine rf_iconst (n := 41) (1 : Int32) dX9_bestMove_40 cciconst_1 rfl ?_
    refine rf_icmp_ne (tg := 54) (n := 44) dX9_bestMove_41 rfl rfl (fun c18 => ?_) (fun c18 => ?_)
    · refine rf_iload (n := 56) 4 dX9_bestMove_54 rfl rfl ?_
      refine rf_iconst (n := 57) (2 : Int32) dX9_bestMove_56 cciconst_2 rfl ?_
      refine rf_idiv (n := 58) dX9_bestMove_57 rfl (fun v5 => ?_)
      exact pX9_bestMove_K58 hG _ _ _ _ _ r28 hr28 _
    · refine rf_iload (n := 46) 4 dX9_bestMove_44 rfl rfl ?_
      refine rf_iconst (n := 47) (1 : Int32) dX9_bestMove_46 cciconst_1 rfl ?_
      refine rf_iadd (n := 48) dX9_bestMove_47 rfl ?_
      refine rf_ineg (n := 49) dX9_bestMove_48 rfl ?_
      refine rf_iconst (n := 50) (2 : Int32) dX9_bestMove_49 cciconst_2 rfl ?_
      refine rf_idiv (n := 51) dX9_bestMove_50 rfl (fun v17 => ?_)
      refine rf_goto (tg := 58) dX9_bestMove_51 rfl ?_
      exact pX9_bestMove_K58 hG _ _ _ _ _ r28 hr28 _
theorem pX9_bestMove_L28 {x : ax_X} {G : ax_G} (hG : ax_ok G) (l1 : Int32) (n : Nat) (a2 : Int32) (a3 : Int32) (a4 : Int32) (μ : ax_M) : ax_Rf mX9_bestMove 7 x (ax_Z ax_jI x G) G 0 0 28 [some (.ref 57), some (.int l1), some (.int a2), some (.int a3), some (.int a4), none, none] [] μ (ax_lp3 (fX9_bestMove_B28 l1) n a2 a3 a4 μ) :=
  rf_lp3 (P := fun a2 a3 a4 μ t => ax_Rf mX9_bestMove 7 x (ax_Z ax_jI x G) G 0 0 28 [some (.ref 57), some (.int l1), some (.int a2), some (.int a3), some (.int a4), none, none] [] μ t) (fun _ _ _ _ => rf_none) (fun rc hrc a2 a3 a4 μ => pX9_bestMove_B28 hG l1 rc hrc a2 a3 a4 μ) n a2 a3 a4 μ
def fX9_bestMove (p1 : Int32) (μ : ax_M) : Option (Int32 × ax_M) :=
  (ax_let (ax_wi μ 57 0 (0 : Int32)) (fun m1 => (ax_bd (fX9_isCell p1 m1) (fun v2 m3 => (if v2 = 0 then (some ((-3000 : Int32), m3)) else (ax_lp3 (fX9_bestMove_B28 p1) ax_FU (-2000 : Int32) (10000 : Int32) (0 : Int32) m3))))))
theorem okX9_bestMove (p1 : Int32) (μ : ax_M) : ax_Ok mX9_bestMove 7 ax_jI [.ref 57, .int p1] μ (fX9_bestMove p1 μ) := by
  refine ax_start (lc := [some (.ref 57), some (.int p1), none, none, none, none, none]) 5 (by decide +kernel) rfl (Nat.le_of_ble_eq_true rfl) (fun x G hG => ?_)
  unfold fX9_bestMove
  refine rf_aload_n (n := 1) 0 dX9_bestMove_0 rfl rfl rfl ?_
  refine rf_iconst (n := 2) (0 : Int32) dX9_bestMove_1 cciconst_0 rfl ?_
  refine rf_pfI (n := 5) hG rfl dX9_bestMove_2 flX9_103 ki_9_0 nf_9_0 sS_57 kk_57 rfl (fun m1 => ?_)
  refine rf_aload_n (n := 6) 0 dX9_bestMove_5 rfl rfl rfl ?_
  refine rf_iload_n (n := 7) 1 dX9_bestMove_6 rfl rfl rfl ?_
  refine rf_cV1I (n := 10) hG (okX9_isCell _ _) lVX9_252 hhX9_isCell kk_57 sS_57 ⟨_, rfl, rfl⟩ dX9_bestMove_7 rfl (Nat.le_of_ble_eq_true rfl) (Nat.le_of_ble_eq_true rfl) (fun v2 m3 => ?_)
  refine rf_if_ne (tg := 17) (n := 13) dX9_bestMove_10 rfl rfl (fun c20 => ?_) (fun c20 => ?_)
  · refine rf_sipush (n := 20) (-2000 : Int32) dX9_bestMove_17 ccsipush_m2000 rfl ?_
    refine rf_istore_n (lc2 := [some (.ref 57), some (.int p1), some (.int (-2000 : Int32)), none, none, none, none]) (n := 21) 2 dX9_bestMove_20 rfl rfl (Nat.le_of_ble_eq_true rfl) rfl rfl ?_
    refine rf_sipush (n := 24) (10000 : Int32) dX9_bestMove_21 ccsipush_10000 rfl ?_
    refine rf_istore_n (lc2 := [some (.ref 57), some (.int p1), some (.int (-2000 : Int32)), some (.int (10000 : Int32)), none, none, none]) (n := 25) 3 dX9_bestMove_24 rfl rfl (Nat.le_of_ble_eq_true rfl) rfl rfl ?_
    refine rf_iconst (n := 26) (0 : Int32) dX9_bestMove_25 cciconst_0 rfl ?_
    refine rf_istore (lc2 := [some (.ref 57), some (.int p1), some (.int (-2000 : Int32)), some (.int (10000 : Int32)), some (.int (0 : Int32)), none, none]) (n := 28) 4 dX9_bestMove_26 rfl (Nat.le_of_ble_eq_true rfl) rfl rfl ?_
    exact pX9_bestMove_L28 hG _ _ _ _ _ _
  · refine rf_sipush (n := 16) (-3000 : Int32) dX9_bestMove_13 ccsipush_m3000 rfl ?_
    exact rf_retI rfl dX9_bestMove_16
def fX5_narrowest_K105 (s0 : Int32) (μ : ax_M) : Option (Int32 × ax_M) :=
  (some (s0, μ))
theorem pX5_narrowest_K105 {x : ax_X} {G : ax_G} (hG : ax_ok G) (s0 : Int32) (μ : ax_M) : ax_Rf mX5_narrowest 4 x (ax_Z ax_jI x G) G 0 0 105 [none, none, none, none] [.int s0] μ (fX5_narrowest_K105 s0 μ) := by
  unfold fX5_narrowest_K105
  exact rf_retI rfl dX5_narrowest_105
def fX5_narrowest_K87 (l1 : Int32) (l2 : Int32) (l3 : Int32) (r4 : Int32 → Int32 → ax_M → Option (Int32 × ax_M)) (μ : ax_M) : Option (Int32 × ax_M) :=
  (r4 l2 (l3 + (1 : Int32)) μ)
theorem pX5_narrowest_K87 {x : ax_X} {G : ax_G} (hG : ax_ok G) (l1 : Int32) (l2 : Int32) (l3 : Int32) (r4 : Int32 → Int32 → ax_M → Option (Int32 × ax_M)) (hr4 : ∀ (a2 : Int32) (a3 : Int32) (μ : ax_M), ax_Rf mX5_narrowest 4 x (ax_Z ax_jI x G) G 0 0 4 [some (.ref 32), some (.int l1), some (.int a2), some (.int a3)] [] μ (r4 a2 a3 μ)) (μ : ax_M) : ax_Rf mX5_narrowest 4 x (ax_Z ax_jI x G) G 0 0 87 [some (.ref 32), some (.int l1), some (.int l2), some (.int l3)] [] μ (fX5_narrowest_K87 l1 l2 l3 r4 μ) := by
  unfold fX5_narrowest_K87
  refine rf_iinc (lc2 := [some (.ref 32), some (.int l1), some (.int l2), some (.int (l3 + (1 : Int32)))]) (n := 90) (w := (1 : Int32)) 3 dX5_narrowest_87 rfl rfl rfl (Nat.le_of_ble_eq_true rfl) rfl rfl ?_
  refine rf_goto (tg := 4) dX5_narrowest_90 rfl ?_
  exact hr4 _ _ _
def fX5_narrowest_K76 (l1 : Int32) (l2 : Int32) (l3 : Int32) (r4 : Int32 → Int32 → ax_M → Option (Int32 × ax_M)) (μ : ax_M) : Option (Int32 × ax_M) :=
  (ax_bd (fX5_roomOf l3 μ) (fun v3 m4 => (if 0 ≤ v3 then (fX5_narrowest_K87 l1 l2 l3 r4 m4) else (some ((-2 : Int32), m4)))))
theorem pX5_narrowest_K76 {x : ax_X} {G : ax_G} (hG : ax_ok G) (l1 : Int32) (l2 : Int32) (l3 : Int32) (r4 : Int32 → Int32 → ax_M → Option (Int32 × ax_M)) (hr4 : ∀ (a2 : Int32) (a3 : Int32) (μ : ax_M), ax_Rf mX5_narrowest 4 x (ax_Z ax_jI x G) G 0 0 4 [some (.ref 32), some (.int l1), some (.int a2), some (.int a3)] [] μ (r4 a2 a3 μ)) (μ : ax_M) : ax_Rf mX5_narrowest 4 x (ax_Z ax_jI x G) G 0 0 76 [some (.ref 32), some (.int l1), some (.int l2), some (.int l3)] [] μ (fX5_narrowest_K76 l1 l2 l3 r4 μ) := by
  unfold fX5_narrowest_K76
  refine rf_aload_n (n := 77) 0 dX5_narrowest_76 rfl rfl rfl ?_
  refine rf_iload_n (n := 78) 3 dX5_narrowest_77 rfl rfl rfl ?_
  refine rf_cV1I (n := 81) hG (okX5_roomOf _ _) lVX5_82 hhX5_roomOf kk_32 sS_32 ⟨_, rfl, rfl⟩ dX5_narrowest_78 rfl (Nat.le_of_ble_eq_true rfl) (Nat.le_of_ble_eq_true rfl) (fun v3 m4 => ?_)
  refine rf_if_ge (tg := 87) (n := 84) dX5_narrowest_81 rfl rfl (fun c5 => ?_) (fun c5 => ?_)
  · exact pX5_narrowest_K87 hG _ _ _ r4 hr4 _
  · refine rf_bipush (n := 86) (-2 : Int32) dX5_narrowest_84 ccbipush_m2 rfl ?_
    exact rf_retI rfl dX5_narrowest_86
def fX5_narrowest_B4 (l1 : Int32) (r4 : Int32 → Int32 → ax_M → Option (Int32 × ax_M)) (l2 : Int32) (l3 : Int32) (μ : ax_M) : Option (Int32 × ax_M) :=
  (if (μ.1 2 13) ≤ l3 then (if (64 : Int32) ≤ l2 then (fX5_narrowest_K105 (-2 : Int32) μ) else (fX5_narrowest_K105 l2 μ)) else (Option.bind (ax_rd μ 7 10 l3) (fun v2 => (if v2 = l1 then (ax_bd (fX1_isFlop l3 μ) (fun v6 m7 => (if v6 = 0 then (Option.bind (ax_rd m7 35 10 l3) (fun v8 => (Option.bind (ax_rd m7 8 10 l3) (fun v9 => (ax_bd (fX8_roundedUp (v8 + ((64 : Int32) * v9)) (m7.1 2 16) m7) (fun v10 m11 => (ax_let (ax_mx l2 v10) (fun v12 => (fX5_narrowest_K87 l1 v12 l3 r4 m11))))))))) else (fX5_narrowest_K76 l1 l2 l3 r4 m7)))) else (fX5_narrowest_K76 l1 l2 l3 r4 μ)))))
theorem pX5_narrowest_B4 {x : ax_X} {G : ax_G} (hG : ax_ok G) (l1 : Int32) (r4 : Int32 → Int32 → ax_M → Option (Int32 × ax_M)) (hr4 : ∀ (a2 : Int32) (a3 : Int32) (μ : ax_M), ax_Rf mX5_narrowest 4 x (ax_Z ax_jI x G) G 0 0 4 [some (.ref 32), some (.int l1), some (.int a2), some (.int a3)] [] μ (r4 a2 a3 μ)) (l2 : Int32) (l3 : Int32) (μ : ax_M) : ax_Rf mX5_narrowest 4 x (ax_Z ax_jI x G) G 0 0 4 [some (.ref 32), some (.int l1), some (.int l2), some (.int l3)] [] μ (fX5_narrowest_B4 l1 r4 l2 l3 μ) := by
  unfold fX5_narrowest_B4
  refine rf_iload_n (n := 5) 3 dX5_narrowest_4 rfl rfl rfl ?_
  refine rf_aload_n (n := 6) 0 dX5_narrowest_5 rfl rfl rfl ?_
  refine rf_getR (n := 9) rr_32_0 kk_2 hG dX5_narrowest_6 flX5_24 ki_5_0 sS_32 kk_32 rfl ?_
  refine rf_getI (n := 12) hG dX5_narrowest_9 flX5_55 ki_1_13 sS_2 kk_2 rfl ?_
  refine rf_icmp_ge (tg := 93) (n := 15) dX5_narrowest_12 rfl rfl (fun c15 => ?_) (fun c15 => ?_)
  · refine rf_iload_n (n := 94) 2 dX5_narrowest_93 rfl rfl rfl ?_
    refine rf_bipush (n := 96) (64 : Int32) dX5_narrowest_94 ccbipush_64 rfl ?_
    refine rf_icmp_ge (tg := 103) (n := 99) dX5_narrowest_96 rfl rfl (fun c1 => ?_) (fun c1 => ?_)
    · refine rf_bipush (n := 105) (-2 : Int32) dX5_narrowest_103 ccbipush_m2 rfl ?_
      refine rf_mask (lc2 := [none, none, none, none]) [false, false, false, false] rfl ?_
      exact pX5_narrowest_K105 hG _ _
    · refine rf_iload_n (n := 100) 2 dX5_narrowest_99 rfl rfl rfl ?_
      refine rf_goto (tg := 105) dX5_narrowest_100 rfl ?_
      refine rf_mask (lc2 := [none, none, none, none]) [false, false, false, false] rfl ?_
      exact pX5_narrowest_K105 hG _ _
  · refine rf_aload_n (n := 16) 0 dX5_narrowest_15 rfl rfl rfl ?_
    refine rf_getR (n := 19) rr_32_0 kk_2 hG dX5_narrowest_16 flX5_24 ki_5_0 sS_32 kk_32 rfl ?_
    refine rf_getR (n := 22) rr_2_4 kk_7 hG dX5_narrowest_19 flX5_85 ki_1_4 sS_2 kk_2 rfl ?_
    refine rf_iload_n (n := 23) 3 dX5_narrowest_22 rfl rfl rfl ?_
    refine rf_iald (n := 24) hG dX5_narrowest_23 sS_7 kk_7 rfl (fun v2 => ?_)
    refine rf_iload_n (n := 25) 1 dX5_narrowest_24 rfl rfl rfl ?_
    refine rf_icmp_ne (tg := 76) (n := 28) dX5_narrowest_25 rfl rfl (fun c14 => ?_) (fun c14 => ?_)
    · exact pX5_narrowest_K76 hG _ _ _ r4 hr4 _
    · refine rf_aload_n (n := 29) 0 dX5_narrowest_28 rfl rfl rfl ?_
      refine rf_getR (n := 32) rr_32_0 kk_2 hG dX5_narrowest_29 flX5_24 ki_5_0 sS_32 kk_32 rfl ?_
      refine rf_iload_n (n := 33) 3 dX5_narrowest_32 rfl rfl rfl ?_
      refine rf_cV1I (n := 36) hG (okX1_isFlop _ _) lVX5_88 hhX1_isFlop kk_2 sS_2 ⟨_, rfl, rfl⟩ dX5_narrowest_33 rfl (Nat.le_of_ble_eq_true rfl) (Nat.le_of_ble_eq_true rfl) (fun v6 m7 => ?_)
      refine rf_if_ne (tg := 76) (n := 39) dX5_narrowest_36 rfl rfl (fun c13 => ?_) (fun c13 => ?_)
      · exact pX5_narrowest_K76 hG _ _ _ r4 hr4 _
      · refine rf_iload_n (n := 40) 2 dX5_narrowest_39 rfl rfl rfl ?_
        refine rf_aload_n (n := 41) 0 dX5_narrowest_40 rfl rfl rfl ?_
        refine rf_getR (n := 44) rr_32_3 kk_35 hG dX5_narrowest_41 flX5_18 ki_5_3 sS_32 kk_32 rfl ?_
        refine rf_iload_n (n := 45) 3 dX5_narrowest_44 rfl rfl rfl ?_
        refine rf_iald (n := 46) hG dX5_narrowest_45 sS_35 kk_35 rfl (fun v8 => ?_)
        refine rf_bipush (n := 48) (64 : Int32) dX5_narrowest_46 ccbipush_64 rfl ?_
        refine rf_aload_n (n := 49) 0 dX5_narrowest_48 rfl rfl rfl ?_
        refine rf_getR (n := 52) rr_32_0 kk_2 hG dX5_narrowest_49 flX5_24 ki_5_0 sS_32 kk_32 rfl ?_
        refine rf_getR (n := 55) rr_2_5 kk_8 hG dX5_narrowest_52 flX5_92 ki_1_5 sS_2 kk_2 rfl ?_
        refine rf_iload_n (n := 56) 3 dX5_narrowest_55 rfl rfl rfl ?_
        refine rf_iald (n := 57) hG dX5_narrowest_56 sS_8 kk_8 rfl (fun v9 => ?_)
        refine rf_imul (n := 58) dX5_narrowest_57 rfl ?_
        refine rf_iadd (n := 59) dX5_narrowest_58 rfl ?_
        refine rf_aload_n (n := 60) 0 dX5_narrowest_59 rfl rfl rfl ?_
        refine rf_getR (n := 63) rr_32_0 kk_2 hG dX5_narrowest_60 flX5_24 ki_5_0 sS_32 kk_32 rfl ?_
        refine rf_getI (n := 66) hG dX5_narrowest_63 flX5_95 ki_1_16 sS_2 kk_2 rfl ?_
        refine rf_cN2I (n := 69) hG (okX8_roundedUp _ _ _) lNX5_98 hhX8_roundedUp dX5_narrowest_66 rfl (Nat.le_of_ble_eq_true rfl) (Nat.le_of_ble_eq_true rfl) (fun v10 m11 => ?_)
        refine rf_max (n := 72) dX5_narrowest_69 mxX5_101 ax_maxw (Nat.le_of_ble_eq_true rfl) (Nat.le_of_ble_eq_true rfl) rfl ?_
        refine rf_letI (fun v12 => ?_)
        refine rf_istore_n (lc2 := [some (.ref 32), some (.int l1), some (.int v12), some (.int l3)]) (n := 73) 2 dX5_narrowest_72 rfl rfl (Nat.le_of_ble_eq_true rfl) rfl rfl ?_
        refine rf_goto (tg := 87) dX5_narrowest_73 rfl ?_
        exact pX5_narrowest_K87 hG _ _ _ r4 hr4 _
theorem pX5_narrowest_L4 {x : ax_X} {G : ax_G} (hG : ax_ok G) (l1 : Int32) (n : Nat) (a2 : Int32) (a3 : Int32) (μ : ax_M) : ax_Rf mX5_narrowest 4 x (ax_Z ax_jI x G) G 0 0 4 [some (.ref 32), some (.int l1), some (.int a2), some (.int a3)] [] μ (ax_lp2 (fX5_narrowest_B4 l1) n a2 a3 μ) :=
  rf_lp2 (P := fun a2 a3 μ t => ax_Rf mX5_narrowest 4 x (ax_Z ax_jI x G) G 0 0 4 [some (.ref 32), some (.int l1), some (.int a2), some (.int a3)] [] μ t) (fun _ _ _ => rf_none) (fun rc hrc a2 a3 μ => pX5_narrowest_B4 hG l1 rc hrc a2 a3 μ) n a2 a3 μ
def fX5_narrowest (p1 : Int32) (μ : ax_M) : Option (Int32 × ax_M) :=
  (ax_lp2 (fX5_narrowest_B4 p1) ax_FU (1 : Int32) (0 : Int32) μ)
theorem okX5_narrowest (p1 : Int32) (μ : ax_M) : ax_Ok mX5_narrowest 4 ax_jI [.ref 32, .int p1] μ (fX5_narrowest p1 μ) := by
  refine ax_start (lc := [some (.ref 32), some (.int p1), none, none]) 2 (by decide +kernel) rfl (Nat.le_of_ble_eq_true rfl) (fun x G hG => ?_)
  unfold fX5_narrowest
  refine rf_iconst (n := 1) (1 : Int32) dX5_narrowest_0 cciconst_1 rfl ?_
  refine rf_istore_n (lc2 := [some (.ref 32), some (.int p1), some (.int (1 : Int32)), none]) (n := 2) 2 dX5_narrowest_1 rfl rfl (Nat.le_of_ble_eq_true rfl) rfl rfl ?_
  refine rf_iconst (n := 3) (0 : Int32) dX5_narrowest_2 cciconst_0 rfl ?_
  refine rf_istore_n (lc2 := [some (.ref 32), some (.int p1), some (.int (1 : Int32)), some (.int (0 : Int32))]) (n := 4) 3 dX5_narrowest_3 rfl rfl (Nat.le_of_ble_eq_true rfl) rfl rfl ?_
  exact pX5_narrowest_L4 hG _ _ _ _ _
def fX8_leastWidth_K36 (s0 : Int32) (μ : ax_M) : Option (Int32 × ax_M) :=
  (some (s0, μ))
theorem pX8_leastWidth_K36 {x : ax_X} {G : ax_G} (hG : ax_ok G) (s0 : Int32) (μ : ax_M) : ax_Rf mX8_leastWidth 5 x (ax_Z ax_jI x G) G 0 0 36 [none, none] [.int s0] μ (fX8_leastWidth_K36 s0 μ) := by
  unfold fX8_leastWidth_K36
  exact rf_retI rfl dX8_leastWidth_36
def fX8_leastWidth (p1 : Int32) (μ : ax_M) : Option (Int32 × ax_M) :=
  (ax_bd (fX1_hasPhase p1 μ) (fun v1 m2 => (if v1 = 0 then (some ((-1 : Int32), m2)) else (ax_bd (fX5_isForever m2) (fun v3 m4 => (if v3 = 0 then (ax_bd (fX5_narrowest p1 m4) (fun v5 m6 => (fX8_leastWidth_K36 v5 m6))) else (fX8_leastWidth_K36 (-2 : Int32) m4)))))))
theorem okX8_leastWidth (p1 : Int32) (μ : ax_M) : ax_Ok mX8_leastWidth 5 ax_jI [.ref 0, .int p1] μ (fX8_leastWidth p1 μ) := by
  refine ax_start (lc := [some (.ref 0), some (.int p1)]) 0 (by decide +kernel) rfl (Nat.le_of_ble_eq_true rfl) (fun x G hG => ?_)
  unfold fX8_leastWidth
  refine rf_aload_n (n := 1) 0 dX8_leastWidth_0 rfl rfl rfl ?_
  refine rf_getR (n := 4) rr_0_2 kk_2 hG dX8_leastWidth_1 flX8_16 ki_8_2 sS_0 kk_0 rfl ?_
  refine rf_iload_n (n := 5) 1 dX8_leastWidth_4 rfl rfl rfl ?_
  refine rf_cV1I (n := 8) hG (okX1_hasPhase _ _) lVX8_134 hhX1_hasPhase kk_2 sS_2 ⟨_, rfl, rfl⟩ dX8_leastWidth_5 rfl (Nat.le_of_ble_eq_true rfl) (Nat.le_of_ble_eq_true rfl) (fun v1 m2 => ?_)
  refine rf_if_ne (tg := 13) (n := 11) dX8_leastWidth_8 rfl rfl (fun c8 => ?_) (fun c8 => ?_)
  · refine rf_aload_n (n := 14) 0 dX8_leastWidth_13 rfl rfl rfl ?_
    refine rf_getR (n := 17) rr_0_5 kk_32 hG dX8_leastWidth_14 flX8_41 ki_8_5 sS_0 kk_0 rfl ?_
    refine rf_cV0I (n := 20) hG (okX5_isForever _) lVX8_216 hhX5_isForever kk_32 sS_32 ⟨_, rfl, rfl⟩ dX8_leastWidth_17 rfl (Nat.le_of_ble_eq_true rfl) (Nat.le_of_ble_eq_true rfl) (fun v3 m4 => ?_)
    refine rf_if_eq (tg := 28) (n := 23) dX8_leastWidth_20 rfl rfl (fun c7 => ?_) (fun c7 => ?_)
    · refine rf_aload_n (n := 29) 0 dX8_leastWidth_28 rfl rfl rfl ?_
      refine rf_getR (n := 32) rr_0_5 kk_32 hG dX8_leastWidth_29 flX8_41 ki_8_5 sS_0 kk_0 rfl ?_
      refine rf_iload_n (n := 33) 1 dX8_leastWidth_32 rfl rfl rfl ?_
      refine rf_cV1I (n := 36) hG (okX5_narrowest _ _) lVX8_293 hhX5_narrowest kk_32 sS_32 ⟨_, rfl, rfl⟩ dX8_leastWidth_33 rfl (Nat.le_of_ble_eq_true rfl) (Nat.le_of_ble_eq_true rfl) (fun v5 m6 => ?_)
      refine rf_mask (lc2 := [none, none]) [false, false] rfl ?_
      exact pX8_leastWidth_K36 hG _ _
    · refine rf_bipush (n := 25) (-2 : Int32) dX8_leastWidth_23 ccbipush_m2 rfl ?_
      refine rf_goto (tg := 36) dX8_leastWidth_25 rfl ?_
      refine rf_mask (lc2 := [none, none]) [false, false] rfl ?_
      exact pX8_leastWidth_K36 hG _ _
  · refine rf_iconst (n := 12) (-1 : Int32) dX8_leastWidth_11 cciconst_m1 rfl ?_
    exact rf_retI rfl dX8_leastWidth_12
def fX9_leastWidth_K69 (l1 : Int32) (l2 : Int32) (l3 : Int32) (μ : ax_M) : Option (Int32 × ax_M) :=
  (Option.bind (ax_wr μ 74 68 ((5 : Int32) + l1) l2) (fun m5 => (some (l3, m5))))
theorem pX9_leastWidth_K69 {x : ax_X} {G : ax_G} (hG : ax_ok G) (l1 : Int32) (l2 : Int32) (l3 : Int32) (μ : ax_M) : ax_Rf mX9_leastWidth 6 x (ax_Z ax_jI x G) G 0 0 69 [some (.ref 57), some (.int l1), some (.int l2), some (.int l3), none] [] μ (fX9_leastWidth_K69 l1 l2 l3 μ) := by
  unfold fX9_leastWidth_K69
  refine rf_aload_n (n := 70) 0 dX9_leastWidth_69 rfl rfl rfl ?_
  refine rf_getR (n := 73) rr_57_28 kk_74 hG dX9_leastWidth_70 flX9_63 ki_9_28 sS_57 kk_57 rfl ?_
  refine rf_iconst (n := 74) (5 : Int32) dX9_leastWidth_73 cciconst_5 rfl ?_
  refine rf_iload_n (n := 75) 1 dX9_leastWidth_74 rfl rfl rfl ?_
  refine rf_iadd (n := 76) dX9_leastWidth_75 rfl ?_
  refine rf_iload_n (n := 77) 2 dX9_leastWidth_76 rfl rfl rfl ?_
  refine rf_iast (n := 78) hG dX9_leastWidth_77 sS_74 kk_74 rfl (fun m5 => ?_)
  refine rf_iload_n (n := 79) 3 dX9_leastWidth_78 rfl rfl rfl ?_
  exact rf_retI rfl dX9_leastWidth_79
def fX9_leastWidth_K63 (l1 : Int32) (l2 : Int32) (l3 : Int32) (l4 : Int32) (r30 : Int32 → Int32 → ax_M → Option (Int32 × ax_M)) (μ : ax_M) : Option (Int32 × ax_M) :=
  (r30 l3 (l4 + (1 : Int32)) μ)
theorem pX9_leastWidth_K63 {x : ax_X} {G : ax_G} (hG : ax_ok G) (l1 : Int32) (l2 : Int32) (l3 : Int32) (l4 : Int32) (r30 : Int32 → Int32 → ax_M → Option (Int32 × ax_M)) (hr30 : ∀ (a3 : Int32) (a4 : Int32) (μ : ax_M), ax_Rf mX9_leastWidth 6 x (ax_Z ax_jI x G) G 0 0 30 [some (.ref 57), some (.int l1), some (.int l2), some (.int a3), some (.int a4)] [] μ (r30 a3 a4 μ)) (μ : ax_M) : ax_Rf mX9_leastWidth 6 x (ax_Z ax_jI x G) G 0 0 63 [some (.ref 57), some (.int l1), some (.int l2), some (.int l3), some (.int l4)] [] μ (fX9_leastWidth_K63 l1 l2 l3 l4 r30 μ) := by
  unfold fX9_leastWidth_K63
  refine rf_iinc (lc2 := [some (.ref 57), some (.int l1), some (.int l2), some (.int l3), some (.int (l4 + (1 : Int32)))]) (n := 66) (w := (1 : Int32)) 4 dX9_leastWidth_63 rfl rfl rfl (Nat.le_of_ble_eq_true rfl) rfl rfl ?_
  refine rf_goto (tg := 30) dX9_leastWidth_66 rfl ?_
  exact hr30 _ _ _
def fX9_leastWidth_B30 (l1 : Int32) (l2 : Int32) (r30 : Int32 → Int32 → ax_M → Option (Int32 × ax_M)) (l3 : Int32) (l4 : Int32) (μ : ax_M) : Option (Int32 × ax_M) :=
  (if (64 : Int32) ≤ l4 then (fX9_leastWidth_K69 l1 l2 l3 μ) else (if l3 = (-2 : Int32) then (Option.bind (ax_wr μ 74 68 ((5 : Int32) + l1) l4) (fun m6 => (ax_bd (fX9_isGood m6) (fun v7 m8 => (if v7 = 0 then (fX9_leastWidth_K63 l1 l2 l3 l4 r30 m8) else (fX9_leastWidth_K63 l1 l2 l4 l4 r30 m8)))))) else (fX9_leastWidth_K69 l1 l2 l3 μ)))
theorem pX9_leastWidth_B30 {x : ax_X} {G : ax_G} (hG : ax_ok G) (l1 : Int32) (l2 : Int32) (r30 : Int32 → Int32 → ax_M → Option (Int32 × ax_M)) (hr30 : ∀ (a3 : Int32) (a4 : Int32) (μ : ax_M), ax_Rf mX9_leastWidth 6 x (ax_Z ax_jI x G) G 0 0 30 [some (.ref 57), some (.int l1), some (.int l2), some (.int a3), some (.int a4)] [] μ (r30 a3 a4 μ)) (l3 : Int32) (l4 : Int32) (μ : ax_M) : ax_Rf mX9_leastWidth 6 x (ax_Z ax_jI x G) G 0 0 30 [some (.ref 57), some (.int l1), some (.int l2), some (.int l3), some (.int l4)] [] μ (fX9_leastWidth_B30 l1 l2 r30 l3 l4 μ) := by
  unfold fX9_leastWidth_B30
  refine rf_iload (n := 32) 4 dX9_leastWidth_30 rfl rfl ?_
  refine rf_bipush (n := 34) (64 : Int32) dX9_leastWidth_32 ccbipush_64 rfl ?_
  refine rf_icmp_ge (tg := 69) (n := 37) dX9_leastWidth_34 rfl rfl (fun c11 => ?_) (fun c11 => ?_)
  · refine rf_mask (lc2 := [some (.ref 57), some (.int l1), some (.int l2), some (.int l3), none]) [true, true, true, true, false] rfl ?_
    exact pX9_leastWidth_K69 hG _ _ _ _
  · refine rf_iload_n (n := 38) 3 dX9_leastWidth_37 rfl rfl rfl ?_
    refine rf_bipush (n := 40) (-2 : Int32) dX9_leastWidth_38 ccbipush_m2 rfl ?_
    refine rf_icmp_ne (tg := 69) (n := 43) dX9_leastWidth_40 rfl rfl (fun c10 => ?_) (fun c10 => ?_)
    · refine rf_mask (lc2 := [some (.ref 57), some (.int l1), some (.int l2), some (.int l3), none]) [true, true, true, true, false] rfl ?_
      exact pX9_leastWidth_K69 hG _ _ _ _
    · refine rf_aload_n (n := 44) 0 dX9_leastWidth_43 rfl rfl rfl ?_
      refine rf_getR (n := 47) rr_57_28 kk_74 hG dX9_leastWidth_44 flX9_63 ki_9_28 sS_57 kk_57 rfl ?_
      refine rf_iconst (n := 48) (5 : Int32) dX9_leastWidth_47 cciconst_5 rfl ?_
      refine rf_iload_n (n := 49) 1 dX9_leastWidth_48 rfl rfl rfl ?_
      refine rf_iadd (n := 50) dX9_leastWidth_49 rfl ?_
      refine rf_iload (n := 52) 4 dX9_leastWidth_50 rfl rfl ?_
      refine rf_iast (n := 53) hG dX9_leastWidth_52 sS_74 kk_74 rfl (fun m6 => ?_)
      refine rf_aload_n (n := 54) 0 dX9_leastWidth_53 rfl rfl rfl ?_
      refine rf_cV0I (n := 57) hG (okX9_isGood _) lVX9_328 hhX9_isGood kk_57 sS_57 ⟨_, rfl, rfl⟩ dX9_leastWidth_54 rfl (Nat.le_of_ble_eq_true rfl) (Nat.le_of_ble_eq_true rfl) (fun v7 m8 => ?_)
      refine rf_if_eq (tg := 63) (n := 60) dX9_leastWidth_57 rfl rfl (fun c9 => ?_) (fun c9 => ?_)
      · exact pX9_leastWidth_K63 hG _ _ _ _ r30 hr30 _
      · refine rf_iload (n := 62) 4 dX9_leastWidth_60 rfl rfl ?_
        refine rf_istore_n (lc2 := [some (.ref 57), some (.int l1), some (.int l2), some (.int l4), some (.int l4)]) (n := 63) 3 dX9_leastWidth_62 rfl rfl (Nat.le_of_ble_eq_true rfl) rfl rfl ?_
        exact pX9_leastWidth_K63 hG _ _ _ _ r30 hr30 _
theorem pX9_leastWidth_L30 {x : ax_X} {G : ax_G} (hG : ax_ok G) (l1 : Int32) (l2 : Int32) (n : Nat) (a3 : Int32) (a4 : Int32) (μ : ax_M) : ax_Rf mX9_leastWidth 6 x (ax_Z ax_jI x G) G 0 0 30 [some (.ref 57), some (.int l1), some (.int l2), some (.int a3), some (.int a4)] [] μ (ax_lp2 (fX9_leastWidth_B30 l1 l2) n a3 a4 μ) :=
  rf_lp2 (P := fun a3 a4 μ t => ax_Rf mX9_leastWidth 6 x (ax_Z ax_jI x G) G 0 0 30 [some (.ref 57), some (.int l1), some (.int l2), some (.int a3), some (.int a4)] [] μ t) (fun _ _ _ => rf_none) (fun rc hrc a3 a4 μ => pX9_leastWidth_B30 hG l1 l2 rc hrc a3 a4 μ) n a3 a4 μ
def fX9_leastWidth (p1 : Int32) (μ : ax_M) : Option (Int32 × ax_M) :=
  (ax_let (ax_wi μ 57 0 (0 : Int32)) (fun m1 => (ax_bd (fX9_isPhase p1 m1) (fun v2 m3 => (if v2 = 0 then (some ((-1 : Int32), m3)) else (Option.bind (ax_rd m3 74 68 ((5 : Int32) + p1)) (fun v4 => (ax_lp2 (fX9_leastWidth_B30 p1 v4) ax_FU (-2 : Int32) (1 : Int32) m3))))))))
theorem okX9_leastWidth (p1 : Int32) (μ : ax_M) : ax_Ok mX9_leastWidth 6 ax_jI [.ref 57, .int p1] μ (fX9_leastWidth p1 μ) := by
  refine ax_start (lc := [some (.ref 57), some (.int p1), none, none, none]) 3 (by decide +kernel) rfl (Nat.le_of_ble_eq_true rfl) (fun x G hG => ?_)
  unfold fX9_leastWidth
  refine rf_aload_n (n := 1) 0 dX9_leastWidth_0 rfl rfl rfl ?_
  refine rf_iconst (n := 2) (0 : Int32) dX9_leastWidth_1 cciconst_0 rfl ?_
  refine rf_pfI (n := 5) hG rfl dX9_leastWidth_2 flX9_103 ki_9_0 nf_9_0 sS_57 kk_57 rfl (fun m1 => ?_)
  refine rf_aload_n (n := 6) 0 dX9_leastWidth_5 rfl rfl rfl ?_
  refine rf_iload_n (n := 7) 1 dX9_leastWidth_6 rfl rfl rfl ?_
  refine rf_cV1I (n := 10) hG (okX9_isPhase _ _) lVX9_262 hhX9_isPhase kk_57 sS_57 ⟨_, rfl, rfl⟩ dX9_leastWidth_7 rfl (Nat.le_of_ble_eq_true rfl) (Nat.le_of_ble_eq_true rfl) (fun v2 m3 => ?_)
  refine rf_if_ne (tg := 15) (n := 13) dX9_leastWidth_10 rfl rfl (fun c12 => ?_) (fun c12 => ?_)
  · refine rf_aload_n (n := 16) 0 dX9_leastWidth_15 rfl rfl rfl ?_
    refine rf_getR (n := 19) rr_57_28 kk_74 hG dX9_leastWidth_16 flX9_63 ki_9_28 sS_57 kk_57 rfl ?_
    refine rf_iconst (n := 20) (5 : Int32) dX9_leastWidth_19 cciconst_5 rfl ?_
    refine rf_iload_n (n := 21) 1 dX9_leastWidth_20 rfl rfl rfl ?_
    refine rf_iadd (n := 22) dX9_leastWidth_21 rfl ?_
    refine rf_iald (n := 23) hG dX9_leastWidth_22 sS_74 kk_74 rfl (fun v4 => ?_)
    refine rf_istore_n (lc2 := [some (.ref 57), some (.int p1), some (.int v4), none, none]) (n := 24) 2 dX9_leastWidth_23 rfl rfl (Nat.le_of_ble_eq_true rfl) rfl rfl ?_
    refine rf_bipush (n := 26) (-2 : Int32) dX9_leastWidth_24 ccbipush_m2 rfl ?_
    refine rf_istore_n (lc2 := [some (.ref 57), some (.int p1), some (.int v4), some (.int (-2 : Int32)), none]) (n := 27) 3 dX9_leastWidth_26 rfl rfl (Nat.le_of_ble_eq_true rfl) rfl rfl ?_
    refine rf_iconst (n := 28) (1 : Int32) dX9_leastWidth_27 cciconst_1 rfl ?_
    refine rf_istore (lc2 := [some (.ref 57), some (.int p1), some (.int v4), some (.int (-2 : Int32)), some (.int (1 : Int32))]) (n := 30) 4 dX9_leastWidth_28 rfl (Nat.le_of_ble_eq_true rfl) rfl rfl ?_
    exact pX9_leastWidth_L30 hG _ _ _ _ _ _
  · refine rf_iconst (n := 14) (-1 : Int32) dX9_leastWidth_13 cciconst_m1 rfl ?_
    exact rf_retI rfl dX9_leastWidth_14
def fX5_possibleFlops_K74 (l2 : Int32) (s0 : Int32) (s1 : Int32) (r4 : Int32 → Int32 → ax_M → Option (Int32 × ax_M)) (μ : ax_M) : Option (Int32 × ax_M) :=
  (ax_let (s0 ||| s1) (fun v5 => (r4 v5 (l2 + (1 : Int32)) μ)))
theorem pX5_possibleFlops_K74 {x : ax_X} {G : ax_G} (hG : ax_ok G) (l2 : Int32) (s0 : Int32) (s1 : Int32) (r4 : Int32 → Int32 → ax_M → Option (Int32 × ax_M)) (hr4 : ∀ (a1 : Int32) (a2 : Int32) (μ : ax_M), ax_Rf mX5_possibleFlops 2 x (ax_Z ax_jI x G) G 0 0 4 [some (.ref 32), some (.int a1), some (.int a2), none] [] μ (r4 a1 a2 μ)) (μ : ax_M) : ax_Rf mX5_possibleFlops 2 x (ax_Z ax_jI x G) G 0 0 74 [some (.ref 32), none, some (.int l2), none] [.int s1, .int s0] μ (fX5_possibleFlops_K74 l2 s0 s1 r4 μ) := by
  unfold fX5_possibleFlops_K74
  refine rf_ior (n := 75) dX5_possibleFlops_74 rfl ?_
  refine rf_letI (fun v5 => ?_)
  refine rf_istore_n (lc2 := [some (.ref 32), some (.int v5), some (.int l2), none]) (n := 76) 1 dX5_possibleFlops_75 rfl rfl (Nat.le_of_ble_eq_true rfl) rfl rfl ?_
  refine rf_iinc (lc2 := [some (.ref 32), some (.int v5), some (.int (l2 + (1 : Int32))), none]) (n := 79) (w := (1 : Int32)) 2 dX5_possibleFlops_76 rfl rfl rfl (Nat.le_of_ble_eq_true rfl) rfl rfl ?_
  refine rf_goto (tg := 4) dX5_possibleFlops_79 rfl ?_
  exact hr4 _ _ _
def fX5_possibleFlops_K73 (l2 : Int32) (s0 : Int32) (r4 : Int32 → Int32 → ax_M → Option (Int32 × ax_M)) (μ : ax_M) : Option (Int32 × ax_M) :=
  (fX5_possibleFlops_K74 l2 s0 (0 : Int32) r4 μ)
theorem pX5_possibleFlops_K73 {x : ax_X} {G : ax_G} (hG : ax_ok G) (l2 : Int32) (s0 : Int32) (r4 : Int32 → Int32 → ax_M → Option (Int32 × ax_M)) (hr4 : ∀ (a1 : Int32) (a2 : Int32) (μ : ax_M), ax_Rf mX5_possibleFlops 2 x (ax_Z ax_jI x G) G 0 0 4 [some (.ref 32), some (.int a1), some (.int a2), none] [] μ (r4 a1 a2 μ)) (μ : ax_M) : ax_Rf mX5_possibleFlops 2 x (ax_Z ax_jI x G) G 0 0 73 [some (.ref 32), none, some (.int l2), none] [.int s0] μ (fX5_possibleFlops_K73 l2 s0 r4 μ) := by
  unfold fX5_possibleFlops_K73
  refine rf_iconst (n := 74) (0 : Int32) dX5_possibleFlops_73 cciconst_0 rfl ?_
  exact pX5_possibleFlops_K74 hG _ _ _ r4 hr4 _
def fX5_possibleFlops_K50 (l1 : Int32) (l2 : Int32) (s0 : Int32) (r4 : Int32 → Int32 → ax_M → Option (Int32 × ax_M)) (μ : ax_M) : Option (Int32 × ax_M) :=
  (ax_bd (fX1_isFlop l2 μ) (fun v3 m4 => (if v3 = 0 then (if s0 = 0 then (fX5_possibleFlops_K73 l2 l1 r4 m4) else (fX5_possibleFlops_K74 l2 l1 ((1 : Int32) <<< (l2 &&& 31)) r4 m4)) else (fX5_possibleFlops_K73 l2 l1 r4 m4))))
theorem pX5_possibleFlops_K50 {x : ax_X} {G : ax_G} (hG : ax_ok G) (l1 : Int32) (l2 : Int32) (s0 : Int32) (r4 : Int32 → Int32 → ax_M → Option (Int32 × ax_M)) (hr4 : ∀ (a1 : Int32) (a2 : Int32) (μ : ax_M), ax_Rf mX5_possibleFlops 2 x (ax_Z ax_jI x G) G 0 0 4 [some (.ref 32), some (.int a1), some (.int a2), none] [] μ (r4 a1 a2 μ)) (μ : ax_M) : ax_Rf mX5_possibleFlops 2 x (ax_Z ax_jI x G) G 0 0 50 [some (.ref 32), some (.int l1), some (.int l2), none] [.int s0] μ (fX5_possibleFlops_K50 l1 l2 s0 r4 μ) := by
  unfold fX5_possibleFlops_K50
  refine rf_istore_n (lc2 := [some (.ref 32), some (.int l1), some (.int l2), some (.int s0)]) (n := 51) 3 dX5_possibleFlops_50 rfl rfl (Nat.le_of_ble_eq_true rfl) rfl rfl ?_
  refine rf_iload_n (n := 52) 1 dX5_possibleFlops_51 rfl rfl rfl ?_
  refine rf_aload_n (n := 53) 0 dX5_possibleFlops_52 rfl rfl rfl ?_
  refine rf_getR (n := 56) rr_32_0 kk_2 hG dX5_possibleFlops_53 flX5_24 ki_5_0 sS_32 kk_32 rfl ?_
  refine rf_iload_n (n := 57) 2 dX5_possibleFlops_56 rfl rfl rfl ?_
  refine rf_cV1I (n := 60) hG (okX1_isFlop _ _) lVX5_88 hhX1_isFlop kk_2 sS_2 ⟨_, rfl, rfl⟩ dX5_possibleFlops_57 rfl (Nat.le_of_ble_eq_true rfl) (Nat.le_of_ble_eq_true rfl) (fun v3 m4 => ?_)
  refine rf_if_ne (tg := 73) (n := 63) dX5_possibleFlops_60 rfl rfl (fun c7 => ?_) (fun c7 => ?_)
  · refine rf_mask (lc2 := [some (.ref 32), none, some (.int l2), none]) [true, false, true, false] rfl ?_
    exact pX5_possibleFlops_K73 hG _ _ r4 hr4 _
  · refine rf_iload_n (n := 64) 3 dX5_possibleFlops_63 rfl rfl rfl ?_
    refine rf_if_eq (tg := 73) (n := 67) dX5_possibleFlops_64 rfl rfl (fun c6 => ?_) (fun c6 => ?_)
    · refine rf_mask (lc2 := [some (.ref 32), none, some (.int l2), none]) [true, false, true, false] rfl ?_
      exact pX5_possibleFlops_K73 hG _ _ r4 hr4 _
    · refine rf_iconst (n := 68) (1 : Int32) dX5_possibleFlops_67 cciconst_1 rfl ?_
      refine rf_iload_n (n := 69) 2 dX5_possibleFlops_68 rfl rfl rfl ?_
      refine rf_ishl (n := 70) dX5_possibleFlops_69 rfl ?_
      refine rf_goto (tg := 74) dX5_possibleFlops_70 rfl ?_
      refine rf_mask (lc2 := [some (.ref 32), none, some (.int l2), none]) [true, false, true, false] rfl ?_
      exact pX5_possibleFlops_K74 hG _ _ _ r4 hr4 _
def fX5_possibleFlops_K45 (l1 : Int32) (l2 : Int32) (r4 : Int32 → Int32 → ax_M → Option (Int32 × ax_M)) (μ : ax_M) : Option (Int32 × ax_M) :=
  (fX5_possibleFlops_K50 l1 l2 (1 : Int32) r4 μ)
theorem pX5_possibleFlops_K45 {x : ax_X} {G : ax_G} (hG : ax_ok G) (l1 : Int32) (l2 : Int32) (r4 : Int32 → Int32 → ax_M → Option (Int32 × ax_M)) (hr4 : ∀ (a1 : Int32) (a2 : Int32) (μ : ax_M), ax_Rf mX5_possibleFlops 2 x (ax_Z ax_jI x G) G 0 0 4 [some (.ref 32), some (.int a1), some (.int a2), none] [] μ (r4 a1 a2 μ)) (μ : ax_M) : ax_Rf mX5_possibleFlops 2 x (ax_Z ax_jI x G) G 0 0 45 [some (.ref 32), some (.int l1), some (.int l2), none] [] μ (fX5_possibleFlops_K45 l1 l2 r4 μ) := by
  unfold fX5_possibleFlops_K45
  refine rf_iconst (n := 46) (1 : Int32) dX5_possibleFlops_45 cciconst_1 rfl ?_
  refine rf_goto (tg := 50) dX5_possibleFlops_46 rfl ?_
  exact pX5_possibleFlops_K50 hG _ _ _ r4 hr4 _
def fX5_possibleFlops_B4 (r4 : Int32 → Int32 → ax_M → Option (Int32 × ax_M)) (l1 : Int32) (l2 : Int32) (μ : ax_M) : Option (Int32 × ax_M) :=
  (if (μ.1 2 13) ≤ l2 then (some (l1, μ)) else (ax_bd (fX5_latestPath l2 μ) (fun v1 m2 => (if v1 = (-1 : Int32) then (fX5_possibleFlops_K45 l1 l2 r4 m2) else (Option.bind (ax_rd m2 36 10 l2) (fun v8 => (Option.bind (ax_rd m2 8 10 l2) (fun v9 => (if ((-64 : Int32) * v9) < v8 then (fX5_possibleFlops_K50 l1 l2 (0 : Int32) r4 m2) else (fX5_possibleFlops_K45 l1 l2 r4 m2))))))))))
theorem pX5_possibleFlops_B4 {x : ax_X} {G : ax_G} (hG : ax_ok G) (r4 : Int32 → Int32 → ax_M → Option (Int32 × ax_M)) (hr4 : ∀ (a1 : Int32) (a2 : Int32) (μ : ax_M), ax_Rf mX5_possibleFlops 2 x (ax_Z ax_jI x G) G 0 0 4 [some (.ref 32), some (.int a1), some (.int a2), none] [] μ (r4 a1 a2 μ)) (l1 : Int32) (l2 : Int32) (μ : ax_M) : ax_Rf mX5_possibleFlops 2 x (ax_Z ax_jI x G) G 0 0 4 [some (.ref 32), some (.int l1), some (.int l2), none] [] μ (fX5_possibleFlops_B4 r4 l1 l2 μ) := by
  unfold fX5_possibleFlops_B4
  refine rf_iload_n (n := 5) 2 dX5_possibleFlops_4 rfl rfl rfl ?_
  refine rf_aload_n (n := 6) 0 dX5_possibleFlops_5 rfl rfl rfl ?_
  refine rf_getR (n := 9) rr_32_0 kk_2 hG dX5_possibleFlops_6 flX5_24 ki_5_0 sS_32 kk_32 rfl ?_
  refine rf_getI (n := 12) hG dX5_possibleFlops_9 flX5_55 ki_1_13 sS_2 kk_2 rfl ?_
  refine rf_icmp_ge (tg := 82) (n := 15) dX5_possibleFlops_12 rfl rfl (fun c12 => ?_) (fun c12 => ?_)
  · refine rf_iload_n (n := 83) 1 dX5_possibleFlops_82 rfl rfl rfl ?_
    exact rf_retI rfl dX5_possibleFlops_83
  · refine rf_aload_n (n := 16) 0 dX5_possibleFlops_15 rfl rfl rfl ?_
    refine rf_iload_n (n := 17) 2 dX5_possibleFlops_16 rfl rfl rfl ?_
    refine rf_cV1I (n := 20) hG (okX5_latestPath _ _) lVX5_79 hhX5_latestPath kk_32 sS_32 ⟨_, rfl, rfl⟩ dX5_possibleFlops_17 rfl (Nat.le_of_ble_eq_true rfl) (Nat.le_of_ble_eq_true rfl) (fun v1 m2 => ?_)
    refine rf_iconst (n := 21) (-1 : Int32) dX5_possibleFlops_20 cciconst_m1 rfl ?_
    refine rf_icmp_eq (tg := 45) (n := 24) dX5_possibleFlops_21 rfl rfl (fun c11 => ?_) (fun c11 => ?_)
    · exact pX5_possibleFlops_K45 hG _ _ r4 hr4 _
    · refine rf_aload_n (n := 25) 0 dX5_possibleFlops_24 rfl rfl rfl ?_
      refine rf_getR (n := 28) rr_32_4 kk_36 hG dX5_possibleFlops_25 flX5_21 ki_5_4 sS_32 kk_32 rfl ?_
      refine rf_iload_n (n := 29) 2 dX5_possibleFlops_28 rfl rfl rfl ?_
      refine rf_iald (n := 30) hG dX5_possibleFlops_29 sS_36 kk_36 rfl (fun v8 => ?_)
      refine rf_bipush (n := 32) (-64 : Int32) dX5_possibleFlops_30 ccbipush_m64 rfl ?_
      refine rf_aload_n (n := 33) 0 dX5_possibleFlops_32 rfl rfl rfl ?_
      refine rf_getR (n := 36) rr_32_0 kk_2 hG dX5_possibleFlops_33 flX5_24 ki_5_0 sS_32 kk_32 rfl ?_
      refine rf_getR (n := 39) rr_2_5 kk_8 hG dX5_possibleFlops_36 flX5_92 ki_1_5 sS_2 kk_2 rfl ?_
      refine rf_iload_n (n := 40) 2 dX5_possibleFlops_39 rfl rfl rfl ?_
      refine rf_iald (n := 41) hG dX5_possibleFlops_40 sS_8 kk_8 rfl (fun v9 => ?_)
      refine rf_imul (n := 42) dX5_possibleFlops_41 rfl ?_
      refine rf_icmp_gt (tg := 49) (n := 45) dX5_possibleFlops_42 rfl rfl (fun c10 => ?_) (fun c10 => ?_)
      · refine rf_iconst (n := 50) (0 : Int32) dX5_possibleFlops_49 cciconst_0 rfl ?_
        exact pX5_possibleFlops_K50 hG _ _ _ r4 hr4 _
      · exact pX5_possibleFlops_K45 hG _ _ r4 hr4 _
theorem pX5_possibleFlops_L4 {x : ax_X} {G : ax_G} (hG : ax_ok G) (n : Nat) (a1 : Int32) (a2 : Int32) (μ : ax_M) : ax_Rf mX5_possibleFlops 2 x (ax_Z ax_jI x G) G 0 0 4 [some (.ref 32), some (.int a1), some (.int a2), none] [] μ (ax_lp2 (fX5_possibleFlops_B4) n a1 a2 μ) :=
  rf_lp2 (P := fun a1 a2 μ t => ax_Rf mX5_possibleFlops 2 x (ax_Z ax_jI x G) G 0 0 4 [some (.ref 32), some (.int a1), some (.int a2), none] [] μ t) (fun _ _ _ => rf_none) (fun rc hrc a1 a2 μ => pX5_possibleFlops_B4 hG rc hrc a1 a2 μ) n a1 a2 μ
def fX5_possibleFlops (μ : ax_M) : Option (Int32 × ax_M) :=
  (ax_lp2 (fX5_possibleFlops_B4) ax_FU (0 : Int32) (0 : Int32) μ)
theorem okX5_possibleFlops (μ : ax_M) : ax_Ok mX5_possibleFlops 2 ax_jI [.ref 32] μ (fX5_possibleFlops μ) := by
  refine ax_start (lc := [some (.ref 32), none, none, none]) 3 (by decide +kernel) rfl (Nat.le_of_ble_eq_true rfl) (fun x G hG => ?_)
  unfold fX5_possibleFlops
  refine rf_iconst (n := 1) (0 : Int32) dX5_possibleFlops_0 cciconst_0 rfl ?_
  refine rf_istore_n (lc2 := [some (.ref 32), some (.int (0 : Int32)), none, none]) (n := 2) 1 dX5_possibleFlops_1 rfl rfl (Nat.le_of_ble_eq_true rfl) rfl rfl ?_
  refine rf_iconst (n := 3) (0 : Int32) dX5_possibleFlops_2 cciconst_0 rfl ?_
  refine rf_istore_n (lc2 := [some (.ref 32), some (.int (0 : Int32)), some (.int (0 : Int32)), none]) (n := 4) 2 dX5_possibleFlops_3 rfl rfl (Nat.le_of_ble_eq_true rfl) rfl rfl ?_
  exact pX5_possibleFlops_L4 hG _ _ _ _
def fX8_flops_K20 (μ : ax_M) : Option (Int32 × ax_M) :=
  (some ((-2 : Int32), μ))
theorem pX8_flops_K20 {x : ax_X} {G : ax_G} (hG : ax_ok G) (μ : ax_M) : ax_Rf mX8_flops 5 x (ax_Z ax_jI x G) G 0 0 20 [none] [] μ (fX8_flops_K20 μ) := by
  unfold fX8_flops_K20
  refine rf_bipush (n := 22) (-2 : Int32) dX8_flops_20 ccbipush_m2 rfl ?_
  exact rf_retI rfl dX8_flops_22
def fX8_flops (μ : ax_M) : Option (Int32 × ax_M) :=
  (ax_bd (fX5_isForever μ) (fun v1 m2 => (if v1 = 0 then (ax_bd (fX5_unmet m2) (fun v3 m4 => (if v3 = 0 then (ax_bd (fX5_possibleFlops m4) (fun v5 m6 => (some (v5, m6)))) else (fX8_flops_K20 m4)))) else (fX8_flops_K20 m2))))
theorem okX8_flops (μ : ax_M) : ax_Ok mX8_flops 5 ax_jI [.ref 0] μ (fX8_flops μ) := by
  refine ax_start (lc := [some (.ref 0)]) 0 (by decide +kernel) rfl (Nat.le_of_ble_eq_true rfl) (fun x G hG => ?_)
  unfold fX8_flops
  refine rf_aload_n (n := 1) 0 dX8_flops_0 rfl rfl rfl ?_
  refine rf_getR (n := 4) rr_0_5 kk_32 hG dX8_flops_1 flX8_41 ki_8_5 sS_0 kk_0 rfl ?_
  refine rf_cV0I (n := 7) hG (okX5_isForever _) lVX8_216 hhX5_isForever kk_32 sS_32 ⟨_, rfl, rfl⟩ dX8_flops_4 rfl (Nat.le_of_ble_eq_true rfl) (Nat.le_of_ble_eq_true rfl) (fun v1 m2 => ?_)
  refine rf_if_ne (tg := 20) (n := 10) dX8_flops_7 rfl rfl (fun c8 => ?_) (fun c8 => ?_)
  · refine rf_mask (lc2 := [none]) [false] rfl ?_
    exact pX8_flops_K20 hG _
  · refine rf_aload_n (n := 11) 0 dX8_flops_10 rfl rfl rfl ?_
    refine rf_getR (n := 14) rr_0_5 kk_32 hG dX8_flops_11 flX8_41 ki_8_5 sS_0 kk_0 rfl ?_
    refine rf_cV0I (n := 17) hG (okX5_unmet _) lVX8_244 hhX5_unmet kk_32 sS_32 ⟨_, rfl, rfl⟩ dX8_flops_14 rfl (Nat.le_of_ble_eq_true rfl) (Nat.le_of_ble_eq_true rfl) (fun v3 m4 => ?_)
    refine rf_if_eq (tg := 23) (n := 20) dX8_flops_17 rfl rfl (fun c7 => ?_) (fun c7 => ?_)
    · refine rf_aload_n (n := 24) 0 dX8_flops_23 rfl rfl rfl ?_
      refine rf_getR (n := 27) rr_0_5 kk_32 hG dX8_flops_24 flX8_41 ki_8_5 sS_0 kk_0 rfl ?_
      refine rf_cV0I (n := 30) hG (okX5_possibleFlops _) lVX8_296 hhX5_possibleFlops kk_32 sS_32 ⟨_, rfl, rfl⟩ dX8_flops_27 rfl (Nat.le_of_ble_eq_true rfl) (Nat.le_of_ble_eq_true rfl) (fun v5 m6 => ?_)
      exact rf_retI rfl dX8_flops_30
    · refine rf_mask (lc2 := [none]) [false] rfl ?_
      exact pX8_flops_K20 hG _
def fX9_flops_K103 (l1 : Int32) (l2 : Int32) (l3 : Int32) (r55 : Int32 → Int32 → ax_M → Option (Int32 × ax_M)) (μ : ax_M) : Option (Int32 × ax_M) :=
  (r55 l2 (l3 + (1 : Int32)) μ)
theorem pX9_flops_K103 {x : ax_X} {G : ax_G} (hG : ax_ok G) (l1 : Int32) (l2 : Int32) (l3 : Int32) (r55 : Int32 → Int32 → ax_M → Option (Int32 × ax_M)) (hr55 : ∀ (a2 : Int32) (a3 : Int32) (μ : ax_M), ax_Rf mX9_flops 6 x (ax_Z ax_jI x G) G 0 0 55 [some (.ref 57), some (.int l1), some (.int a2), some (.int a3)] [] μ (r55 a2 a3 μ)) (μ : ax_M) : ax_Rf mX9_flops 6 x (ax_Z ax_jI x G) G 0 0 103 [some (.ref 57), some (.int l1), some (.int l2), some (.int l3)] [] μ (fX9_flops_K103 l1 l2 l3 r55 μ) := by
  unfold fX9_flops_K103
  refine rf_iinc (lc2 := [some (.ref 57), some (.int l1), some (.int l2), some (.int (l3 + (1 : Int32)))]) (n := 106) (w := (1 : Int32)) 3 dX9_flops_103 rfl rfl rfl (Nat.le_of_ble_eq_true rfl) rfl rfl ?_
  refine rf_goto (tg := 55) dX9_flops_106 rfl ?_
  exact hr55 _ _ _
def fX9_flops_K97 (l1 : Int32) (l2 : Int32) (l3 : Int32) (r55 : Int32 → Int32 → ax_M → Option (Int32 × ax_M)) (μ : ax_M) : Option (Int32 × ax_M) :=
  (ax_bd (fX9_makes l3 (0 : Int32) μ) (fun _ m15 => (fX9_flops_K103 l1 l2 l3 r55 m15)))
theorem pX9_flops_K97 {x : ax_X} {G : ax_G} (hG : ax_ok G) (l1 : Int32) (l2 : Int32) (l3 : Int32) (r55 : Int32 → Int32 → ax_M → Option (Int32 × ax_M)) (hr55 : ∀ (a2 : Int32) (a3 : Int32) (μ : ax_M), ax_Rf mX9_flops 6 x (ax_Z ax_jI x G) G 0 0 55 [some (.ref 57), some (.int l1), some (.int a2), some (.int a3)] [] μ (r55 a2 a3 μ)) (μ : ax_M) : ax_Rf mX9_flops 6 x (ax_Z ax_jI x G) G 0 0 97 [some (.ref 57), some (.int l1), some (.int l2), some (.int l3)] [] μ (fX9_flops_K97 l1 l2 l3 r55 μ) := by
  unfold fX9_flops_K97
  refine rf_aload_n (n := 98) 0 dX9_flops_97 rfl rfl rfl ?_
  refine rf_iload_n (n := 99) 3 dX9_flops_98 rfl rfl rfl ?_
  refine rf_iconst (n := 100) (0 : Int32) dX9_flops_99 cciconst_0 rfl ?_
  refine rf_cV2V (n := 103) hG (okX9_makes _ _ _) lVX9_372 hhX9_makes kk_57 sS_57 ⟨_, rfl, rfl⟩ dX9_flops_100 rfl (Nat.le_of_ble_eq_true rfl) (Nat.le_of_ble_eq_true rfl) (fun _ m15 => ?_)
  exact pX9_flops_K103 hG _ _ _ r55 hr55 _
def fX9_flops_B55 (l1 : Int32) (r55 : Int32 → Int32 → ax_M → Option (Int32 × ax_M)) (l2 : Int32) (l3 : Int32) (μ : ax_M) : Option (Int32 × ax_M) :=
  (if l1 < l3 then (some (l2, μ)) else (if (l3 &&& (l1 ^^^ (-1 : Int32))) = 0 then (ax_bd (fX9_bits l3 μ) (fun v6 m7 => (ax_bd (fX9_bits l2 m7) (fun v8 m9 => (if v8 < v6 then (ax_bd (fX9_makes l3 (1 : Int32) m9) (fun _ m11 => (ax_bd (fX9_isGood m11) (fun v12 m13 => (if v12 = 0 then (fX9_flops_K97 l1 l2 l3 r55 m13) else (fX9_flops_K97 l1 l3 l3 r55 m13)))))) else (fX9_flops_K103 l1 l2 l3 r55 m9)))))) else (fX9_flops_K103 l1 l2 l3 r55 μ)))
theorem pX9_flops_B55 {x : ax_X} {G : ax_G} (hG : ax_ok G) (l1 : Int32) (r55 : Int32 → Int32 → ax_M → Option (Int32 × ax_M)) (hr55 : ∀ (a2 : Int32) (a3 : Int32) (μ : ax_M), ax_Rf mX9_flops 6 x (ax_Z ax_jI x G) G 0 0 55 [some (.ref 57), some (.int l1), some (.int a2), some (.int a3)] [] μ (r55 a2 a3 μ)) (l2 : Int32) (l3 : Int32) (μ : ax_M) : ax_Rf mX9_flops 6 x (ax_Z ax_jI x G) G 0 0 55 [some (.ref 57), some (.int l1), some (.int l2), some (.int l3)] [] μ (fX9_flops_B55 l1 r55 l2 l3 μ) := by
  unfold fX9_flops_B55
  refine rf_iload_n (n := 56) 3 dX9_flops_55 rfl rfl rfl ?_
  refine rf_iload_n (n := 57) 1 dX9_flops_56 rfl rfl rfl ?_
  refine rf_icmp_gt (tg := 109) (n := 60) dX9_flops_57 rfl rfl (fun c19 => ?_) (fun c19 => ?_)
  · refine rf_iload_n (n := 110) 2 dX9_flops_109 rfl rfl rfl ?_
    exact rf_retI rfl dX9_flops_110
  · refine rf_iload_n (n := 61) 3 dX9_flops_60 rfl rfl rfl ?_
    refine rf_iload_n (n := 62) 1 dX9_flops_61 rfl rfl rfl ?_
    refine rf_iconst (n := 63) (-1 : Int32) dX9_flops_62 cciconst_m1 rfl ?_
    refine rf_ixor (n := 64) dX9_flops_63 rfl ?_
    refine rf_iand (n := 65) dX9_flops_64 rfl ?_
    refine rf_if_ne (tg := 103) (n := 68) dX9_flops_65 rfl rfl (fun c18 => ?_) (fun c18 => ?_)
    · exact pX9_flops_K103 hG _ _ _ r55 hr55 _
    · refine rf_iload_n (n := 69) 3 dX9_flops_68 rfl rfl rfl ?_
      refine rf_cS1I (n := 72) hG (okX9_bits _ _) lSX9_369 hhX9_bits dX9_flops_69 rfl (Nat.le_of_ble_eq_true rfl) (Nat.le_of_ble_eq_true rfl) (fun v6 m7 => ?_)
      refine rf_iload_n (n := 73) 2 dX9_flops_72 rfl rfl rfl ?_
      refine rf_cS1I (n := 76) hG (okX9_bits _ _) lSX9_369 hhX9_bits dX9_flops_73 rfl (Nat.le_of_ble_eq_true rfl) (Nat.le_of_ble_eq_true rfl) (fun v8 m9 => ?_)
      refine rf_icmp_gt (tg := 82) (n := 79) dX9_flops_76 rfl rfl (fun c17 => ?_) (fun c17 => ?_)
      · refine rf_aload_n (n := 83) 0 dX9_flops_82 rfl rfl rfl ?_
        refine rf_iload_n (n := 84) 3 dX9_flops_83 rfl rfl rfl ?_
        refine rf_iconst (n := 85) (1 : Int32) dX9_flops_84 cciconst_1 rfl ?_
        refine rf_cV2V (n := 88) hG (okX9_makes _ _ _) lVX9_372 hhX9_makes kk_57 sS_57 ⟨_, rfl, rfl⟩ dX9_flops_85 rfl (Nat.le_of_ble_eq_true rfl) (Nat.le_of_ble_eq_true rfl) (fun _ m11 => ?_)
        refine rf_aload_n (n := 89) 0 dX9_flops_88 rfl rfl rfl ?_
        refine rf_cV0I (n := 92) hG (okX9_isGood _) lVX9_328 hhX9_isGood kk_57 sS_57 ⟨_, rfl, rfl⟩ dX9_flops_89 rfl (Nat.le_of_ble_eq_true rfl) (Nat.le_of_ble_eq_true rfl) (fun v12 m13 => ?_)
        refine rf_if_eq (tg := 97) (n := 95) dX9_flops_92 rfl rfl (fun c16 => ?_) (fun c16 => ?_)
        · exact pX9_flops_K97 hG _ _ _ r55 hr55 _
        · refine rf_iload_n (n := 96) 3 dX9_flops_95 rfl rfl rfl ?_
          refine rf_istore_n (lc2 := [some (.ref 57), some (.int l1), some (.int l3), some (.int l3)]) (n := 97) 2 dX9_flops_96 rfl rfl (Nat.le_of_ble_eq_true rfl) rfl rfl ?_
          exact pX9_flops_K97 hG _ _ _ r55 hr55 _
      · refine rf_goto (tg := 103) dX9_flops_79 rfl ?_
        exact pX9_flops_K103 hG _ _ _ r55 hr55 _
theorem pX9_flops_L55 {x : ax_X} {G : ax_G} (hG : ax_ok G) (l1 : Int32) (n : Nat) (a2 : Int32) (a3 : Int32) (μ : ax_M) : ax_Rf mX9_flops 6 x (ax_Z ax_jI x G) G 0 0 55 [some (.ref 57), some (.int l1), some (.int a2), some (.int a3)] [] μ (ax_lp2 (fX9_flops_B55 l1) n a2 a3 μ) :=
  rf_lp2 (P := fun a2 a3 μ t => ax_Rf mX9_flops 6 x (ax_Z ax_jI x G) G 0 0 55 [some (.ref 57), some (.int l1), some (.int a2), some (.int a3)] [] μ t) (fun _ _ _ => rf_none) (fun rc hrc a2 a3 μ => pX9_flops_B55 hG l1 rc hrc a2 a3 μ) n a2 a3 μ
def fX9_flops_K43 (l2 : Int32) (s0 : Int32) (s1 : Int32) (r19 : Int32 → Int32 → ax_M → Option (Int32 × ax_M)) (μ : ax_M) : Option (Int32 × ax_M) :=
  (ax_let (s0 ||| s1) (fun v22 => (r19 v22 (l2 + (1 : Int32)) μ)))
theorem pX9_flops_K43 {x : ax_X} {G : ax_G} (hG : ax_ok G) (l2 : Int32) (s0 : Int32) (s1 : Int32) (r19 : Int32 → Int32 → ax_M → Option (Int32 × ax_M)) (hr19 : ∀ (a1 : Int32) (a2 : Int32) (μ : ax_M), ax_Rf mX9_flops 6 x (ax_Z ax_jI x G) G 0 0 19 [some (.ref 57), some (.int a1), some (.int a2), none] [] μ (r19 a1 a2 μ)) (μ : ax_M) : ax_Rf mX9_flops 6 x (ax_Z ax_jI x G) G 0 0 43 [some (.ref 57), none, some (.int l2), none] [.int s1, .int s0] μ (fX9_flops_K43 l2 s0 s1 r19 μ) := by
  unfold fX9_flops_K43
  refine rf_ior (n := 44) dX9_flops_43 rfl ?_
  refine rf_letI (fun v22 => ?_)
  refine rf_istore_n (lc2 := [some (.ref 57), some (.int v22), some (.int l2), none]) (n := 45) 1 dX9_flops_44 rfl rfl (Nat.le_of_ble_eq_true rfl) rfl rfl ?_
  refine rf_iinc (lc2 := [some (.ref 57), some (.int v22), some (.int (l2 + (1 : Int32))), none]) (n := 48) (w := (1 : Int32)) 2 dX9_flops_45 rfl rfl rfl (Nat.le_of_ble_eq_true rfl) rfl rfl ?_
  refine rf_goto (tg := 19) dX9_flops_48 rfl ?_
  exact hr19 _ _ _
def fX9_flops_B19 (r19 : Int32 → Int32 → ax_M → Option (Int32 × ax_M)) (l1 : Int32) (l2 : Int32) (μ : ax_M) : Option (Int32 × ax_M) :=
  (ax_bd (fX9_cells μ) (fun v4 m5 => (if v4 ≤ l2 then (ax_lp2 (fX9_flops_B55 l1) ax_FU (0 : Int32) (1 : Int32) m5) else (ax_bd (fX9_isFlop l2 m5) (fun v20 m21 => (if v20 = 0 then (fX9_flops_K43 l2 l1 ((1 : Int32) <<< (l2 &&& 31)) r19 m21) else (fX9_flops_K43 l2 l1 (0 : Int32) r19 m21)))))))
theorem pX9_flops_B19 {x : ax_X} {G : ax_G} (hG : ax_ok G) (r19 : Int32 → Int32 → ax_M → Option (Int32 × ax_M)) (hr19 : ∀ (a1 : Int32) (a2 : Int32) (μ : ax_M), ax_Rf mX9_flops 6 x (ax_Z ax_jI x G) G 0 0 19 [some (.ref 57), some (.int a1), some (.int a2), none] [] μ (r19 a1 a2 μ)) (l1 : Int32) (l2 : Int32) (μ : ax_M) : ax_Rf mX9_flops 6 x (ax_Z ax_jI x G) G 0 0 19 [some (.ref 57), some (.int l1), some (.int l2), none] [] μ (fX9_flops_B19 r19 l1 l2 μ) := by
  unfold fX9_flops_B19
  refine rf_iload_n (n := 20) 2 dX9_flops_19 rfl rfl rfl ?_
  refine rf_aload_n (n := 21) 0 dX9_flops_20 rfl rfl rfl ?_
  refine rf_cV0I (n := 24) hG (okX9_cells _) lVX9_233 hhX9_cells kk_57 sS_57 ⟨_, rfl, rfl⟩ dX9_flops_21 rfl (Nat.le_of_ble_eq_true rfl) (Nat.le_of_ble_eq_true rfl) (fun v4 m5 => ?_)
  refine rf_icmp_ge (tg := 51) (n := 27) dX9_flops_24 rfl rfl (fun c24 => ?_) (fun c24 => ?_)
  · refine rf_iconst (n := 52) (0 : Int32) dX9_flops_51 cciconst_0 rfl ?_
    refine rf_istore_n (lc2 := [some (.ref 57), some (.int l1), some (.int (0 : Int32)), none]) (n := 53) 2 dX9_flops_52 rfl rfl (Nat.le_of_ble_eq_true rfl) rfl rfl ?_
    refine rf_iconst (n := 54) (1 : Int32) dX9_flops_53 cciconst_1 rfl ?_
    refine rf_istore_n (lc2 := [some (.ref 57), some (.int l1), some (.int (0 : Int32)), some (.int (1 : Int32))]) (n := 55) 3 dX9_flops_54 rfl rfl (Nat.le_of_ble_eq_true rfl) rfl rfl ?_
    exact pX9_flops_L55 hG _ _ _ _ _
  · refine rf_iload_n (n := 28) 1 dX9_flops_27 rfl rfl rfl ?_
    refine rf_aload_n (n := 29) 0 dX9_flops_28 rfl rfl rfl ?_
    refine rf_iload_n (n := 30) 2 dX9_flops_29 rfl rfl rfl ?_
    refine rf_cV1I (n := 33) hG (okX9_isFlop _ _) lVX9_281 hhX9_isFlop kk_57 sS_57 ⟨_, rfl, rfl⟩ dX9_flops_30 rfl (Nat.le_of_ble_eq_true rfl) (Nat.le_of_ble_eq_true rfl) (fun v20 m21 => ?_)
    refine rf_if_eq (tg := 40) (n := 36) dX9_flops_33 rfl rfl (fun c23 => ?_) (fun c23 => ?_)
    · refine rf_iconst (n := 41) (1 : Int32) dX9_flops_40 cciconst_1 rfl ?_
      refine rf_iload_n (n := 42) 2 dX9_flops_41 rfl rfl rfl ?_
      refine rf_ishl (n := 43) dX9_flops_42 rfl ?_
      refine rf_mask (lc2 := [some (.ref 57), none, some (.int l2), none]) [true, false, true, true] rfl ?_
      exact pX9_flops_K43 hG _ _ _ r19 hr19 _
    · refine rf_iconst (n := 37) (0 : Int32) dX9_flops_36 cciconst_0 rfl ?_
      refine rf_goto (tg := 43) dX9_flops_37 rfl ?_
      refine rf_mask (lc2 := [some (.ref 57), none, some (.int l2), none]) [true, false, true, true] rfl ?_
      exact pX9_flops_K43 hG _ _ _ r19 hr19 _
theorem pX9_flops_L19 {x : ax_X} {G : ax_G} (hG : ax_ok G) (n : Nat) (a1 : Int32) (a2 : Int32) (μ : ax_M) : ax_Rf mX9_flops 6 x (ax_Z ax_jI x G) G 0 0 19 [some (.ref 57), some (.int a1), some (.int a2), none] [] μ (ax_lp2 (fX9_flops_B19) n a1 a2 μ) :=
  rf_lp2 (P := fun a1 a2 μ t => ax_Rf mX9_flops 6 x (ax_Z ax_jI x G) G 0 0 19 [some (.ref 57), some (.int a1), some (.int a2), none] [] μ t) (fun _ _ _ => rf_none) (fun rc hrc a1 a2 μ => pX9_flops_B19 hG rc hrc a1 a2 μ) n a1 a2 μ
def fX9_flops (μ : ax_M) : Option (Int32 × ax_M) :=
  (ax_let (ax_wi μ 57 0 (0 : Int32)) (fun m1 => (ax_bd (fX9_isGood m1) (fun v2 m3 => (if v2 = 0 then (some ((-2 : Int32), m3)) else (ax_lp2 (fX9_flops_B19) ax_FU (0 : Int32) (0 : Int32) m3))))))
theorem okX9_flops (μ : ax_M) : ax_Ok mX9_flops 6 ax_jI [.ref 57] μ (fX9_flops μ) := by
  refine ax_start (lc := [some (.ref 57), none, none, none]) 3 (by decide +kernel) rfl (Nat.le_of_ble_eq_true rfl) (fun x G hG => ?_)
  unfold fX9_flops
  refine rf_aload_n (n := 1) 0 dX9_flops_0 rfl rfl rfl ?_
  refine rf_iconst (n := 2) (0 : Int32) dX9_flops_1 cciconst_0 rfl ?_
  refine rf_pfI (n := 5) hG rfl dX9_flops_2 flX9_103 ki_9_0 nf_9_0 sS_57 kk_57 rfl (fun m1 => ?_)
  refine rf_aload_n (n := 6) 0 dX9_flops_5 rfl rfl rfl ?_
  refine rf_cV0I (n := 9) hG (okX9_isGood _) lVX9_328 hhX9_isGood kk_57 sS_57 ⟨_, rfl, rfl⟩ dX9_flops_6 rfl (Nat.le_of_ble_eq_true rfl) (Nat.le_of_ble_eq_true rfl) (fun v2 m3 => ?_)
  refine rf_if_ne (tg := 15) (n := 12) dX9_flops_9 rfl rfl (fun c25 => ?_) (fun c25 => ?_)
  · refine rf_iconst (n := 16) (0 : Int32) dX9_flops_15 cciconst_0 rfl ?_
    refine rf_istore_n (lc2 := [some (.ref 57), some (.int (0 : Int32)), none, none]) (n := 17) 1 dX9_flops_16 rfl rfl (Nat.le_of_ble_eq_true rfl) rfl rfl ?_
    refine rf_iconst (n := 18) (0 : Int32) dX9_flops_17 cciconst_0 rfl ?_
    refine rf_istore_n (lc2 := [some (.ref 57), some (.int (0 : Int32)), some (.int (0 : Int32)), none]) (n := 19) 2 dX9_flops_18 rfl rfl (Nat.le_of_ble_eq_true rfl) rfl rfl ?_
    exact pX9_flops_L19 hG _ _ _ _
  · refine rf_bipush (n := 14) (-2 : Int32) dX9_flops_12 ccbipush_m2 rfl ?_
    exact rf_retI rfl dX9_flops_14
def fX5_roomBy (p1 : Int32) (μ : ax_M) : Option (Int32 × ax_M) :=
  (Option.bind (ax_rd μ 12 24 p1) (fun v1 => (ax_bd (fX5_comesBy p1 μ) (fun v2 m3 => (ax_bd (fX1_roomBy v1 v2 m3) (fun v4 m5 => (some (v4, m5))))))))
theorem okX5_roomBy (p1 : Int32) (μ : ax_M) : ax_Ok mX5_roomBy 3 ax_jI [.ref 32, .int p1] μ (fX5_roomBy p1 μ) := by
  refine ax_start (lc := [some (.ref 32), some (.int p1)]) 0 (by decide +kernel) rfl (Nat.le_of_ble_eq_true rfl) (fun x G hG => ?_)
  unfold fX5_roomBy
  refine rf_aload_n (n := 1) 0 dX5_roomBy_0 rfl rfl rfl ?_
  refine rf_getR (n := 4) rr_32_0 kk_2 hG dX5_roomBy_1 flX5_24 ki_5_0 sS_32 kk_32 rfl ?_
  refine rf_aload_n (n := 5) 0 dX5_roomBy_4 rfl rfl rfl ?_
  refine rf_getR (n := 8) rr_32_0 kk_2 hG dX5_roomBy_5 flX5_24 ki_5_0 sS_32 kk_32 rfl ?_
  refine rf_getR (n := 11) rr_2_9 kk_12 hG dX5_roomBy_8 flX5_62 ki_1_9 sS_2 kk_2 rfl ?_
  refine rf_iload_n (n := 12) 1 dX5_roomBy_11 rfl rfl rfl ?_
  refine rf_iald (n := 13) hG dX5_roomBy_12 sS_12 kk_12 rfl (fun v1 => ?_)
  refine rf_aload_n (n := 14) 0 dX5_roomBy_13 rfl rfl rfl ?_
  refine rf_iload_n (n := 15) 1 dX5_roomBy_14 rfl rfl rfl ?_
  refine rf_cV1I (n := 18) hG (okX5_comesBy _ _) lVX5_75 hhX5_comesBy kk_32 sS_32 ⟨_, rfl, rfl⟩ dX5_roomBy_15 rfl (Nat.le_of_ble_eq_true rfl) (Nat.le_of_ble_eq_true rfl) (fun v2 m3 => ?_)
  refine rf_cV2I (n := 21) hG (okX1_roomBy _ _ _) lVX5_72 hhX1_roomBy kk_2 sS_2 ⟨_, rfl, rfl⟩ dX5_roomBy_18 rfl (Nat.le_of_ble_eq_true rfl) (Nat.le_of_ble_eq_true rfl) (fun v4 m5 => ?_)
  exact rf_retI rfl dX5_roomBy_21
def fX8_near_K21 (μ : ax_M) : Option (Int64 × ax_M) :=
  (some ((-9223372036854775808 : Int64), μ))
theorem pX8_near_K21 {x : ax_X} {G : ax_G} (hG : ax_ok G) (μ : ax_M) : ax_Rf mX8_near 4 x (ax_Z ax_jL x G) G 0 0 21 [none, none] [] μ (fX8_near_K21 μ) := by
  unfold fX8_near_K21
  refine rf_ldc2 (n := 24) dX8_near_21 clX8_225 rfl ?_
  exact rf_retL rfl dX8_near_24
def fX8_near (p1 : Int32) (μ : ax_M) : Option (Int64 × ax_M) :=
  (ax_bd (fX1_hasPath p1 μ) (fun v1 m2 => (if v1 = 0 then (fX8_near_K21 m2) else (ax_bd (fX5_isForever m2) (fun v3 m4 => (if v3 = 0 then (ax_bd (fX5_roomBy p1 m4) (fun v5 m6 => (some ((Int32.toInt64 v5), m6)))) else (fX8_near_K21 m4)))))))
theorem okX8_near (p1 : Int32) (μ : ax_M) : ax_Ok mX8_near 4 ax_jL [.ref 0, .int p1] μ (fX8_near p1 μ) := by
  refine ax_start (lc := [some (.ref 0), some (.int p1)]) 0 (by decide +kernel) rfl (Nat.le_of_ble_eq_true rfl) (fun x G hG => ?_)
  unfold fX8_near
  refine rf_aload_n (n := 1) 0 dX8_near_0 rfl rfl rfl ?_
  refine rf_getR (n := 4) rr_0_2 kk_2 hG dX8_near_1 flX8_16 ki_8_2 sS_0 kk_0 rfl ?_
  refine rf_iload_n (n := 5) 1 dX8_near_4 rfl rfl rfl ?_
  refine rf_cV1I (n := 8) hG (okX1_hasPath _ _) lVX8_143 hhX1_hasPath kk_2 sS_2 ⟨_, rfl, rfl⟩ dX8_near_5 rfl (Nat.le_of_ble_eq_true rfl) (Nat.le_of_ble_eq_true rfl) (fun v1 m2 => ?_)
  refine rf_if_eq (tg := 21) (n := 11) dX8_near_8 rfl rfl (fun c8 => ?_) (fun c8 => ?_)
  · refine rf_mask (lc2 := [none, none]) [false, false] rfl ?_
    exact pX8_near_K21 hG _
  · refine rf_aload_n (n := 12) 0 dX8_near_11 rfl rfl rfl ?_
    refine rf_getR (n := 15) rr_0_5 kk_32 hG dX8_near_12 flX8_41 ki_8_5 sS_0 kk_0 rfl ?_
    refine rf_cV0I (n := 18) hG (okX5_isForever _) lVX8_216 hhX5_isForever kk_32 sS_32 ⟨_, rfl, rfl⟩ dX8_near_15 rfl (Nat.le_of_ble_eq_true rfl) (Nat.le_of_ble_eq_true rfl) (fun v3 m4 => ?_)
    refine rf_if_eq (tg := 25) (n := 21) dX8_near_18 rfl rfl (fun c7 => ?_) (fun c7 => ?_)
    · refine rf_aload_n (n := 26) 0 dX8_near_25 rfl rfl rfl ?_
      refine rf_getR (n := 29) rr_0_5 kk_32 hG dX8_near_26 flX8_41 ki_8_5 sS_0 kk_0 rfl ?_
      refine rf_iload_n (n := 30) 1 dX8_near_29 rfl rfl rfl ?_
      refine rf_cV1I (n := 33) hG (okX5_roomBy _ _) lVX8_299 hhX5_roomBy kk_32 sS_32 ⟨_, rfl, rfl⟩ dX8_near_30 rfl (Nat.le_of_ble_eq_true rfl) (Nat.le_of_ble_eq_true rfl) (fun v5 m6 => ?_)
      refine rf_i2l (n := 34) dX8_near_33 rfl ?_
      exact rf_retL rfl dX8_near_34
    · refine rf_mask (lc2 := [none, none]) [false, false] rfl ?_
      exact pX8_near_K21 hG _
def fX9_nearOf_K30 (l3 : Int64) (s1 : Int32) (s2 : Int64) (μ : ax_M) : Option (Int64 × ax_M) :=
  (ax_bd (fX9_roomOf s1 s2 l3 μ) (fun v4 m5 => (some (v4, m5))))
theorem pX9_nearOf_K30 {x : ax_X} {G : ax_G} (hG : ax_ok G) (l3 : Int64) (s1 : Int32) (s2 : Int64) (μ : ax_M) : ax_Rf mX9_nearOf 2 x (ax_Z ax_jL x G) G 0 0 30 [none, none, none, some (.long l3), none] [.long s2, .int s1, .ref 57] μ (fX9_nearOf_K30 l3 s1 s2 μ) := by
  unfold fX9_nearOf_K30
  refine rf_lload_n (n := 31) 3 dX9_nearOf_30 rfl rfl rfl ?_
  refine rf_cV3L (n := 34) hG (okX9_roomOf _ _ _ _) lVX9_309 hhX9_roomOf kk_57 sS_57 ⟨_, rfl, rfl⟩ dX9_nearOf_31 rfl (Nat.le_of_ble_eq_true rfl) (Nat.le_of_ble_eq_true rfl) (fun v4 m5 => ?_)
  exact rf_retL rfl dX9_nearOf_34
def fX9_nearOf (p1 : Int32) (μ : ax_M) : Option (Int64 × ax_M) :=
  (Option.bind (ax_rd μ 71 48 p1) (fun v1 => (ax_bd (fX9_comesBy_1 p1 μ) (fun v2 m3 => (if 0 ≤ (lg_cmp v2 (0 : Int64)) then (fX9_nearOf_K30 v2 v1 v2 m3) else (fX9_nearOf_K30 v2 v1 (0 : Int64) m3))))))
theorem okX9_nearOf (p1 : Int32) (μ : ax_M) : ax_Ok mX9_nearOf 2 ax_jL [.ref 57, .int p1] μ (fX9_nearOf p1 μ) := by
  refine ax_start (lc := [some (.ref 57), some (.int p1), none, none, none]) 3 (by decide +kernel) rfl (Nat.le_of_ble_eq_true rfl) (fun x G hG => ?_)
  unfold fX9_nearOf
  refine rf_aload_n (n := 1) 0 dX9_nearOf_0 rfl rfl rfl ?_
  refine rf_getR (n := 4) rr_57_15 kk_71 hG dX9_nearOf_1 flX9_50 ki_9_15 sS_57 kk_57 rfl ?_
  refine rf_iload_n (n := 5) 1 dX9_nearOf_4 rfl rfl rfl ?_
  refine rf_iald (n := 6) hG dX9_nearOf_5 sS_71 kk_71 rfl (fun v1 => ?_)
  refine rf_istore_n (lc2 := [some (.ref 57), some (.int p1), some (.int v1), none, none]) (n := 7) 2 dX9_nearOf_6 rfl rfl (Nat.le_of_ble_eq_true rfl) rfl rfl ?_
  refine rf_aload_n (n := 8) 0 dX9_nearOf_7 rfl rfl rfl ?_
  refine rf_iload_n (n := 9) 1 dX9_nearOf_8 rfl rfl rfl ?_
  refine rf_aload_n (n := 10) 0 dX9_nearOf_9 rfl rfl rfl ?_
  refine rf_getR (n := 13) rr_57_32 kk_76 hG dX9_nearOf_10 flX9_69 ki_9_32 sS_57 kk_57 rfl ?_
  refine rf_cV2L (n := 16) hG (okX9_comesBy_1 _ _) lVX9_286 hhX9_comesBy kk_57 sS_57 ⟨_, rfl, rfl⟩ dX9_nearOf_13 rfl (Nat.le_of_ble_eq_true rfl) (Nat.le_of_ble_eq_true rfl) (fun v2 m3 => ?_)
  refine rf_lstore_n (lc2 := [some (.ref 57), some (.int p1), some (.int v1), some (.long v2), none]) (n := 17) 3 dX9_nearOf_16 rfl rfl (Nat.le_of_ble_eq_true rfl) rfl rfl ?_
  refine rf_aload_n (n := 18) 0 dX9_nearOf_17 rfl rfl rfl ?_
  refine rf_iload_n (n := 19) 2 dX9_nearOf_18 rfl rfl rfl ?_
  refine rf_lload_n (n := 20) 3 dX9_nearOf_19 rfl rfl rfl ?_
  refine rf_lconst (n := 21) (0 : Int64) dX9_nearOf_20 rfl rfl ?_
  refine rf_lcmp (n := 22) dX9_nearOf_21 rfl ?_
  refine rf_if_ge (tg := 29) (n := 25) dX9_nearOf_22 rfl rfl (fun c6 => ?_) (fun c6 => ?_)
  · refine rf_lload_n (n := 30) 3 dX9_nearOf_29 rfl rfl rfl ?_
    refine rf_mask (lc2 := [none, none, none, some (.long v2), none]) [false, false, false, true, true] rfl ?_
    exact pX9_nearOf_K30 hG _ _ _ _
  · refine rf_lconst (n := 26) (0 : Int64) dX9_nearOf_25 rfl rfl ?_
    refine rf_goto (tg := 30) dX9_nearOf_26 rfl ?_
    refine rf_mask (lc2 := [none, none, none, some (.long v2), none]) [false, false, false, true, true] rfl ?_
    exact pX9_nearOf_K30 hG _ _ _ _
def fX9_near_K39 (s0 : Int64) (μ : ax_M) : Option (Int64 × ax_M) :=
  (some (s0, μ))
theorem pX9_near_K39 {x : ax_X} {G : ax_G} (hG : ax_ok G) (s0 : Int64) (μ : ax_M) : ax_Rf mX9_near 5 x (ax_Z ax_jL x G) G 0 0 39 [none, none] [.long s0] μ (fX9_near_K39 s0 μ) := by
  unfold fX9_near_K39
  exact rf_retL rfl dX9_near_39
def fX9_near (p1 : Int32) (μ : ax_M) : Option (Int64 × ax_M) :=
  (ax_let (ax_wi μ 57 0 (0 : Int32)) (fun m1 => (ax_bd (fX9_isPath p1 m1) (fun v2 m3 => (if v2 = 0 then (some ((-9223372036854775808 : Int64), m3)) else (ax_bd (fX9_settles m3) (fun _ m5 => (if (m5.1 57 35) = 0 then (ax_bd (fX9_nearOf p1 m5) (fun v6 m7 => (fX9_near_K39 v6 m7))) else (fX9_near_K39 (-9223372036854775808 : Int64) m5)))))))))
theorem okX9_near (p1 : Int32) (μ : ax_M) : ax_Ok mX9_near 5 ax_jL [.ref 57, .int p1] μ (fX9_near p1 μ) := by
  refine ax_start (lc := [some (.ref 57), some (.int p1)]) 0 (by decide +kernel) rfl (Nat.le_of_ble_eq_true rfl) (fun x G hG => ?_)
  unfold fX9_near
  refine rf_aload_n (n := 1) 0 dX9_near_0 rfl rfl rfl ?_
  refine rf_iconst (n := 2) (0 : Int32) dX9_near_1 cciconst_0 rfl ?_
  refine rf_pfI (n := 5) hG rfl dX9_near_2 flX9_103 ki_9_0 nf_9_0 sS_57 kk_57 rfl (fun m1 => ?_)
  refine rf_aload_n (n := 6) 0 dX9_near_5 rfl rfl rfl ?_
  refine rf_iload_n (n := 7) 1 dX9_near_6 rfl rfl rfl ?_
  refine rf_cV1I (n := 10) hG (okX9_isPath _ _) lVX9_265 hhX9_isPath kk_57 sS_57 ⟨_, rfl, rfl⟩ dX9_near_7 rfl (Nat.le_of_ble_eq_true rfl) (Nat.le_of_ble_eq_true rfl) (fun v2 m3 => ?_)
  refine rf_if_ne (tg := 17) (n := 13) dX9_near_10 rfl rfl (fun c9 => ?_) (fun c9 => ?_)
  · refine rf_aload_n (n := 18) 0 dX9_near_17 rfl rfl rfl ?_
    refine rf_cV0V (n := 21) hG (okX9_settles _) lVX9_306 hhX9_settles kk_57 sS_57 ⟨_, rfl, rfl⟩ dX9_near_18 rfl (Nat.le_of_ble_eq_true rfl) (Nat.le_of_ble_eq_true rfl) (fun _ m5 => ?_)
    refine rf_aload_n (n := 22) 0 dX9_near_21 rfl rfl rfl ?_
    refine rf_getI (n := 25) hG dX9_near_22 flX9_303 ki_9_35 sS_57 kk_57 rfl ?_
    refine rf_if_eq (tg := 34) (n := 28) dX9_near_25 rfl rfl (fun c8 => ?_) (fun c8 => ?_)
    · refine rf_aload_n (n := 35) 0 dX9_near_34 rfl rfl rfl ?_
      refine rf_iload_n (n := 36) 1 dX9_near_35 rfl rfl rfl ?_
      refine rf_cV1L (n := 39) hG (okX9_nearOf _ _) lVX9_378 hhX9_nearOf kk_57 sS_57 ⟨_, rfl, rfl⟩ dX9_near_36 rfl (Nat.le_of_ble_eq_true rfl) (Nat.le_of_ble_eq_true rfl) (fun v6 m7 => ?_)
      refine rf_mask (lc2 := [none, none]) [false, false] rfl ?_
      exact pX9_near_K39 hG _ _
    · refine rf_ldc2 (n := 31) dX9_near_28 clX9_317 rfl ?_
      refine rf_goto (tg := 39) dX9_near_31 rfl ?_
      refine rf_mask (lc2 := [none, none]) [false, false] rfl ?_
      exact pX9_near_K39 hG _ _
  · refine rf_ldc2 (n := 16) dX9_near_13 clX9_317 rfl ?_
    exact rf_retL rfl dX9_near_16
def fX5_pathByRoom_K101 (l1 : Int32) (l2 : Int32) (l3 : Int32) (l4 : Int32) (r48 : Int32 → Int32 → ax_M → Option (Int32 × ax_M)) (μ : ax_M) : Option (Int32 × ax_M) :=
  (r48 l3 (l4 + (1 : Int32)) μ)
theorem pX5_pathByRoom_K101 {x : ax_X} {G : ax_G} (hG : ax_ok G) (l1 : Int32) (l2 : Int32) (l3 : Int32) (l4 : Int32) (r48 : Int32 → Int32 → ax_M → Option (Int32 × ax_M)) (hr48 : ∀ (a3 : Int32) (a4 : Int32) (μ : ax_M), ax_Rf mX5_pathByRoom 4 x (ax_Z ax_jI x G) G 0 0 48 [some (.ref 32), some (.int l1), some (.int l2), some (.int a3), some (.int a4)] [] μ (r48 a3 a4 μ)) (μ : ax_M) : ax_Rf mX5_pathByRoom 4 x (ax_Z ax_jI x G) G 0 0 101 [some (.ref 32), some (.int l1), some (.int l2), some (.int l3), some (.int l4)] [] μ (fX5_pathByRoom_K101 l1 l2 l3 l4 r48 μ) := by
  unfold fX5_pathByRoom_K101
  refine rf_iinc (lc2 := [some (.ref 32), some (.int l1), some (.int l2), some (.int l3), some (.int (l4 + (1 : Int32)))]) (n := 104) (w := (1 : Int32)) 4 dX5_pathByRoom_101 rfl rfl rfl (Nat.le_of_ble_eq_true rfl) rfl rfl ?_
  refine rf_goto (tg := 48) dX5_pathByRoom_104 rfl ?_
  exact hr48 _ _ _
def fX5_pathByRoom_K98 (l1 : Int32) (l2 : Int32) (l3 : Int32) (l4 : Int32) (r48 : Int32 → Int32 → ax_M → Option (Int32 × ax_M)) (μ : ax_M) : Option (Int32 × ax_M) :=
  (fX5_pathByRoom_K101 l1 l2 (l3 + (1 : Int32)) l4 r48 μ)
theorem pX5_pathByRoom_K98 {x : ax_X} {G : ax_G} (hG : ax_ok G) (l1 : Int32) (l2 : Int32) (l3 : Int32) (l4 : Int32) (r48 : Int32 → Int32 → ax_M → Option (Int32 × ax_M)) (hr48 : ∀ (a3 : Int32) (a4 : Int32) (μ : ax_M), ax_Rf mX5_pathByRoom 4 x (ax_Z ax_jI x G) G 0 0 48 [some (.ref 32), some (.int l1), some (.int l2), some (.int a3), some (.int a4)] [] μ (r48 a3 a4 μ)) (μ : ax_M) : ax_Rf mX5_pathByRoom 4 x (ax_Z ax_jI x G) G 0 0 98 [some (.ref 32), some (.int l1), some (.int l2), some (.int l3), some (.int l4)] [] μ (fX5_pathByRoom_K98 l1 l2 l3 l4 r48 μ) := by
  unfold fX5_pathByRoom_K98
  refine rf_iinc (lc2 := [some (.ref 32), some (.int l1), some (.int l2), some (.int (l3 + (1 : Int32))), some (.int l4)]) (n := 101) (w := (1 : Int32)) 3 dX5_pathByRoom_98 rfl rfl rfl (Nat.le_of_ble_eq_true rfl) rfl rfl ?_
  exact pX5_pathByRoom_K101 hG _ _ _ _ r48 hr48 _
def fX5_pathByRoom_B48 (l1 : Int32) (l2 : Int32) (r32 : Int32 → ax_M → Option (Int32 × ax_M)) (r48 : Int32 → Int32 → ax_M → Option (Int32 × ax_M)) (l3 : Int32) (l4 : Int32) (μ : ax_M) : Option (Int32 × ax_M) :=
  (if (μ.1 2 14) ≤ l4 then (if l3 = l1 then (some (l2, μ)) else (r32 (l2 + (1 : Int32)) μ)) else (Option.bind (ax_rd μ 34 24 l4) (fun v2 => (Option.bind (ax_rd μ 34 24 l2) (fun v3 => (if v2 < v3 then (fX5_pathByRoom_K98 l1 l2 l3 l4 r48 μ) else (Option.bind (ax_rd μ 34 24 l4) (fun v4 => (Option.bind (ax_rd μ 34 24 l2) (fun v5 => (if v4 = v5 then (if l2 ≤ l4 then (fX5_pathByRoom_K101 l1 l2 l3 l4 r48 μ) else (fX5_pathByRoom_K98 l1 l2 l3 l4 r48 μ)) else (fX5_pathByRoom_K101 l1 l2 l3 l4 r48 μ))))))))))))
theorem pX5_pathByRoom_B48 {x : ax_X} {G : ax_G} (hG : ax_ok G) (l1 : Int32) (l2 : Int32) (r32 : Int32 → ax_M → Option (Int32 × ax_M)) (hr32 : ∀ (a2 : Int32) (μ : ax_M), ax_Rf mX5_pathByRoom 4 x (ax_Z ax_jI x G) G 0 0 32 [some (.ref 32), some (.int l1), some (.int a2), none, none] [] μ (r32 a2 μ)) (r48 : Int32 → Int32 → ax_M → Option (Int32 × ax_M)) (hr48 : ∀ (a3 : Int32) (a4 : Int32) (μ : ax_M), ax_Rf mX5_pathByRoom 4 x (ax_Z ax_jI x G) G 0 0 48 [some (.ref 32), some (.int l1), some (.int l2), some (.int a3), some (.int a4)] [] μ (r48 a3 a4 μ)) (l3 : Int32) (l4 : Int32) (μ : ax_M) : ax_Rf mX5_pathByRoom 4 x (ax_Z ax_jI x G) G 0 0 48 [some (.ref 32), some (.int l1), some (.int l2), some (.int l3), some (.int l4)] [] μ (fX5_pathByRoom_B48 l1 l2 r32 r48 l3 l4 μ) := by
  unfold fX5_pathByRoom_B48
  refine rf_iload (n := 50) 4 dX5_pathByRoom_48 rfl rfl ?_
  refine rf_aload_n (n := 51) 0 dX5_pathByRoom_50 rfl rfl rfl ?_
  refine rf_getR (n := 54) rr_32_0 kk_2 hG dX5_pathByRoom_51 flX5_24 ki_5_0 sS_32 kk_32 rfl ?_
  refine rf_getI (n := 57) hG dX5_pathByRoom_54 flX5_59 ki_1_14 sS_2 kk_2 rfl ?_
  refine rf_icmp_ge (tg := 107) (n := 60) dX5_pathByRoom_57 rfl rfl (fun c9 => ?_) (fun c9 => ?_)
  · refine rf_iload_n (n := 108) 3 dX5_pathByRoom_107 rfl rfl rfl ?_
    refine rf_iload_n (n := 109) 1 dX5_pathByRoom_108 rfl rfl rfl ?_
    refine rf_icmp_ne (tg := 114) (n := 112) dX5_pathByRoom_109 rfl rfl (fun c1 => ?_) (fun c1 => ?_)
    · refine rf_iinc (lc2 := [some (.ref 32), some (.int l1), some (.int (l2 + (1 : Int32))), some (.int l3), some (.int l4)]) (n := 117) (w := (1 : Int32)) 2 dX5_pathByRoom_114 rfl rfl rfl (Nat.le_of_ble_eq_true rfl) rfl rfl ?_
      refine rf_goto (tg := 32) dX5_pathByRoom_117 rfl ?_
      refine rf_mask (lc2 := [some (.ref 32), some (.int l1), some (.int (l2 + (1 : Int32))), none, none]) [true, true, true, false, false] rfl ?_
      exact hr32 _ _
    · refine rf_iload_n (n := 113) 2 dX5_pathByRoom_112 rfl rfl rfl ?_
      exact rf_retI rfl dX5_pathByRoom_113
  · refine rf_aload_n (n := 61) 0 dX5_pathByRoom_60 rfl rfl rfl ?_
    refine rf_getR (n := 64) rr_32_2 kk_34 hG dX5_pathByRoom_61 flX5_15 ki_5_2 sS_32 kk_32 rfl ?_
    refine rf_iload (n := 66) 4 dX5_pathByRoom_64 rfl rfl ?_
    refine rf_iald (n := 67) hG dX5_pathByRoom_66 sS_34 kk_34 rfl (fun v2 => ?_)
    refine rf_aload_n (n := 68) 0 dX5_pathByRoom_67 rfl rfl rfl ?_
    refine rf_getR (n := 71) rr_32_2 kk_34 hG dX5_pathByRoom_68 flX5_15 ki_5_2 sS_32 kk_32 rfl ?_
    refine rf_iload_n (n := 72) 2 dX5_pathByRoom_71 rfl rfl rfl ?_
    refine rf_iald (n := 73) hG dX5_pathByRoom_72 sS_34 kk_34 rfl (fun v3 => ?_)
    refine rf_icmp_lt (tg := 98) (n := 76) dX5_pathByRoom_73 rfl rfl (fun c8 => ?_) (fun c8 => ?_)
    · exact pX5_pathByRoom_K98 hG _ _ _ _ r48 hr48 _
    · refine rf_aload_n (n := 77) 0 dX5_pathByRoom_76 rfl rfl rfl ?_
      refine rf_getR (n := 80) rr_32_2 kk_34 hG dX5_pathByRoom_77 flX5_15 ki_5_2 sS_32 kk_32 rfl ?_
      refine rf_iload (n := 82) 4 dX5_pathByRoom_80 rfl rfl ?_
      refine rf_iald (n := 83) hG dX5_pathByRoom_82 sS_34 kk_34 rfl (fun v4 => ?_)
      refine rf_aload_n (n := 84) 0 dX5_pathByRoom_83 rfl rfl rfl ?_
      refine rf_getR (n := 87) rr_32_2 kk_34 hG dX5_pathByRoom_84 flX5_15 ki_5_2 sS_32 kk_32 rfl ?_
      refine rf_iload_n (n := 88) 2 dX5_pathByRoom_87 rfl rfl rfl ?_
      refine rf_iald (n := 89) hG dX5_pathByRoom_88 sS_34 kk_34 rfl (fun v5 => ?_)
      refine rf_icmp_ne (tg := 101) (n := 92) dX5_pathByRoom_89 rfl rfl (fun c7 => ?_) (fun c7 => ?_)
      · exact pX5_pathByRoom_K101 hG _ _ _ _ r48 hr48 _
      · refine rf_iload (n := 94) 4 dX5_pathByRoom_92 rfl rfl ?_
        refine rf_iload_n (n := 95) 2 dX5_pathByRoom_94 rfl rfl rfl ?_
        refine rf_icmp_ge (tg := 101) (n := 98) dX5_pathByRoom_95 rfl rfl (fun c6 => ?_) (fun c6 => ?_)
        · exact pX5_pathByRoom_K101 hG _ _ _ _ r48 hr48 _
        · exact pX5_pathByRoom_K98 hG _ _ _ _ r48 hr48 _
theorem pX5_pathByRoom_L48 {x : ax_X} {G : ax_G} (hG : ax_ok G) (l1 : Int32) (l2 : Int32) (r32 : Int32 → ax_M → Option (Int32 × ax_M)) (hr32 : ∀ (a2 : Int32) (μ : ax_M), ax_Rf mX5_pathByRoom 4 x (ax_Z ax_jI x G) G 0 0 32 [some (.ref 32), some (.int l1), some (.int a2), none, none] [] μ (r32 a2 μ)) (n : Nat) (a3 : Int32) (a4 : Int32) (μ : ax_M) : ax_Rf mX5_pathByRoom 4 x (ax_Z ax_jI x G) G 0 0 48 [some (.ref 32), some (.int l1), some (.int l2), some (.int a3), some (.int a4)] [] μ (ax_lp2 (fX5_pathByRoom_B48 l1 l2 r32) n a3 a4 μ) :=
  rf_lp2 (P := fun a3 a4 μ t => ax_Rf mX5_pathByRoom 4 x (ax_Z ax_jI x G) G 0 0 48 [some (.ref 32), some (.int l1), some (.int l2), some (.int a3), some (.int a4)] [] μ t) (fun _ _ _ => rf_none) (fun rc hrc a3 a4 μ => pX5_pathByRoom_B48 hG l1 l2 r32 hr32 rc hrc a3 a4 μ) n a3 a4 μ
def fX5_pathByRoom_B32 (l1 : Int32) (r32 : Int32 → ax_M → Option (Int32 × ax_M)) (l2 : Int32) (μ : ax_M) : Option (Int32 × ax_M) :=
  (if (μ.1 2 14) ≤ l2 then (some ((-2 : Int32), μ)) else (ax_lp2 (fX5_pathByRoom_B48 l1 l2 r32) ax_FU (0 : Int32) (0 : Int32) μ))
theorem pX5_pathByRoom_B32 {x : ax_X} {G : ax_G} (hG : ax_ok G) (l1 : Int32) (r32 : Int32 → ax_M → Option (Int32 × ax_M)) (hr32 : ∀ (a2 : Int32) (μ : ax_M), ax_Rf mX5_pathByRoom 4 x (ax_Z ax_jI x G) G 0 0 32 [some (.ref 32), some (.int l1), some (.int a2), none, none] [] μ (r32 a2 μ)) (l2 : Int32) (μ : ax_M) : ax_Rf mX5_pathByRoom 4 x (ax_Z ax_jI x G) G 0 0 32 [some (.ref 32), some (.int l1), some (.int l2), none, none] [] μ (fX5_pathByRoom_B32 l1 r32 l2 μ) := by
  unfold fX5_pathByRoom_B32
  refine rf_iload_n (n := 33) 2 dX5_pathByRoom_32 rfl rfl rfl ?_
  refine rf_aload_n (n := 34) 0 dX5_pathByRoom_33 rfl rfl rfl ?_
  refine rf_getR (n := 37) rr_32_0 kk_2 hG dX5_pathByRoom_34 flX5_24 ki_5_0 sS_32 kk_32 rfl ?_
  refine rf_getI (n := 40) hG dX5_pathByRoom_37 flX5_59 ki_1_14 sS_2 kk_2 rfl ?_
  refine rf_icmp_ge (tg := 120) (n := 43) dX5_pathByRoom_40 rfl rfl (fun c10 => ?_) (fun c10 => ?_)
  · refine rf_bipush (n := 122) (-2 : Int32) dX5_pathByRoom_120 ccbipush_m2 rfl ?_
    exact rf_retI rfl dX5_pathByRoom_122
  · refine rf_iconst (n := 44) (0 : Int32) dX5_pathByRoom_43 cciconst_0 rfl ?_
    refine rf_istore_n (lc2 := [some (.ref 32), some (.int l1), some (.int l2), some (.int (0 : Int32)), none]) (n := 45) 3 dX5_pathByRoom_44 rfl rfl (Nat.le_of_ble_eq_true rfl) rfl rfl ?_
    refine rf_iconst (n := 46) (0 : Int32) dX5_pathByRoom_45 cciconst_0 rfl ?_
    refine rf_istore (lc2 := [some (.ref 32), some (.int l1), some (.int l2), some (.int (0 : Int32)), some (.int (0 : Int32))]) (n := 48) 4 dX5_pathByRoom_46 rfl (Nat.le_of_ble_eq_true rfl) rfl rfl ?_
    exact pX5_pathByRoom_L48 hG _ _ r32 hr32 _ _ _ _
theorem pX5_pathByRoom_L32 {x : ax_X} {G : ax_G} (hG : ax_ok G) (l1 : Int32) (n : Nat) (a2 : Int32) (μ : ax_M) : ax_Rf mX5_pathByRoom 4 x (ax_Z ax_jI x G) G 0 0 32 [some (.ref 32), some (.int l1), some (.int a2), none, none] [] μ (ax_lp1 (fX5_pathByRoom_B32 l1) n a2 μ) :=
  rf_lp1 (P := fun a2 μ t => ax_Rf mX5_pathByRoom 4 x (ax_Z ax_jI x G) G 0 0 32 [some (.ref 32), some (.int l1), some (.int a2), none, none] [] μ t) (fun _ _ => rf_none) (fun rc hrc a2 μ => pX5_pathByRoom_B32 hG l1 rc hrc a2 μ) n a2 μ
def fX5_pathByRoom_B2 (l1 : Int32) (r2 : Int32 → ax_M → Option (Int32 × ax_M)) (l2 : Int32) (μ : ax_M) : Option (Int32 × ax_M) :=
  (if (μ.1 2 14) ≤ l2 then (ax_lp1 (fX5_pathByRoom_B32 l1) ax_FU (0 : Int32) μ) else (ax_bd (fX5_roomBy l2 μ) (fun v11 m12 => (Option.bind (ax_wr m12 34 24 l2 v11) (fun m13 => (r2 (l2 + (1 : Int32)) m13))))))
theorem pX5_pathByRoom_B2 {x : ax_X} {G : ax_G} (hG : ax_ok G) (l1 : Int32) (r2 : Int32 → ax_M → Option (Int32 × ax_M)) (hr2 : ∀ (a2 : Int32) (μ : ax_M), ax_Rf mX5_pathByRoom 4 x (ax_Z ax_jI x G) G 0 0 2 [some (.ref 32), some (.int l1), some (.int a2), none, none] [] μ (r2 a2 μ)) (l2 : Int32) (μ : ax_M) : ax_Rf mX5_pathByRoom 4 x (ax_Z ax_jI x G) G 0 0 2 [some (.ref 32), some (.int l1), some (.int l2), none, none] [] μ (fX5_pathByRoom_B2 l1 r2 l2 μ) := by
  unfold fX5_pathByRoom_B2
  refine rf_iload_n (n := 3) 2 dX5_pathByRoom_2 rfl rfl rfl ?_
  refine rf_aload_n (n := 4) 0 dX5_pathByRoom_3 rfl rfl rfl ?_
  refine rf_getR (n := 7) rr_32_0 kk_2 hG dX5_pathByRoom_4 flX5_24 ki_5_0 sS_32 kk_32 rfl ?_
  refine rf_getI (n := 10) hG dX5_pathByRoom_7 flX5_59 ki_1_14 sS_2 kk_2 rfl ?_
  refine rf_icmp_ge (tg := 30) (n := 13) dX5_pathByRoom_10 rfl rfl (fun c14 => ?_) (fun c14 => ?_)
  · refine rf_iconst (n := 31) (0 : Int32) dX5_pathByRoom_30 cciconst_0 rfl ?_
    refine rf_istore_n (lc2 := [some (.ref 32), some (.int l1), some (.int (0 : Int32)), none, none]) (n := 32) 2 dX5_pathByRoom_31 rfl rfl (Nat.le_of_ble_eq_true rfl) rfl rfl ?_
    exact pX5_pathByRoom_L32 hG _ _ _ _
  · refine rf_aload_n (n := 14) 0 dX5_pathByRoom_13 rfl rfl rfl ?_
    refine rf_getR (n := 17) rr_32_2 kk_34 hG dX5_pathByRoom_14 flX5_15 ki_5_2 sS_32 kk_32 rfl ?_
    refine rf_iload_n (n := 18) 2 dX5_pathByRoom_17 rfl rfl rfl ?_
    refine rf_aload_n (n := 19) 0 dX5_pathByRoom_18 rfl rfl rfl ?_
    refine rf_iload_n (n := 20) 2 dX5_pathByRoom_19 rfl rfl rfl ?_
    refine rf_cV1I (n := 23) hG (okX5_roomBy _ _) lVX5_106 hhX5_roomBy kk_32 sS_32 ⟨_, rfl, rfl⟩ dX5_pathByRoom_20 rfl (Nat.le_of_ble_eq_true rfl) (Nat.le_of_ble_eq_true rfl) (fun v11 m12 => ?_)
    refine rf_iast (n := 24) hG dX5_pathByRoom_23 sS_34 kk_34 rfl (fun m13 => ?_)
    refine rf_iinc (lc2 := [some (.ref 32), some (.int l1), some (.int (l2 + (1 : Int32))), none, none]) (n := 27) (w := (1 : Int32)) 2 dX5_pathByRoom_24 rfl rfl rfl (Nat.le_of_ble_eq_true rfl) rfl rfl ?_
    refine rf_goto (tg := 2) dX5_pathByRoom_27 rfl ?_
    exact hr2 _ _
theorem pX5_pathByRoom_L2 {x : ax_X} {G : ax_G} (hG : ax_ok G) (l1 : Int32) (n : Nat) (a2 : Int32) (μ : ax_M) : ax_Rf mX5_pathByRoom 4 x (ax_Z ax_jI x G) G 0 0 2 [some (.ref 32), some (.int l1), some (.int a2), none, none] [] μ (ax_lp1 (fX5_pathByRoom_B2 l1) n a2 μ) :=
  rf_lp1 (P := fun a2 μ t => ax_Rf mX5_pathByRoom 4 x (ax_Z ax_jI x G) G 0 0 2 [some (.ref 32), some (.int l1), some (.int a2), none, none] [] μ t) (fun _ _ => rf_none) (fun rc hrc a2 μ => pX5_pathByRoom_B2 hG l1 rc hrc a2 μ) n a2 μ
def fX5_pathByRoom (p1 : Int32) (μ : ax_M) : Option (Int32 × ax_M) :=
  (ax_lp1 (fX5_pathByRoom_B2 p1) ax_FU (0 : Int32) μ)
theorem okX5_pathByRoom (p1 : Int32) (μ : ax_M) : ax_Ok mX5_pathByRoom 4 ax_jI [.ref 32, .int p1] μ (fX5_pathByRoom p1 μ) := by
  refine ax_start (lc := [some (.ref 32), some (.int p1), none, none, none]) 3 (by decide +kernel) rfl (Nat.le_of_ble_eq_true rfl) (fun x G hG => ?_)
  unfold fX5_pathByRoom
  refine rf_iconst (n := 1) (0 : Int32) dX5_pathByRoom_0 cciconst_0 rfl ?_
  refine rf_istore_n (lc2 := [some (.ref 32), some (.int p1), some (.int (0 : Int32)), none, none]) (n := 2) 2 dX5_pathByRoom_1 rfl rfl (Nat.le_of_ble_eq_true rfl) rfl rfl ?_
  exact pX5_pathByRoom_L2 hG _ _ _ _
def fX8_nearest_K27 (μ : ax_M) : Option (Int32 × ax_M) :=
  (some ((-2 : Int32), μ))
theorem pX8_nearest_K27 {x : ax_X} {G : ax_G} (hG : ax_ok G) (μ : ax_M) : ax_Rf mX8_nearest 5 x (ax_Z ax_jI x G) G 0 0 27 [none, none] [] μ (fX8_nearest_K27 μ) := by
  unfold fX8_nearest_K27
  refine rf_bipush (n := 29) (-2 : Int32) dX8_nearest_27 ccbipush_m2 rfl ?_
  exact rf_retI rfl dX8_nearest_29
def fX8_nearest (p1 : Int32) (μ : ax_M) : Option (Int32 × ax_M) :=
  (if 0 ≤ p1 then (ax_bd (fX5_isForever μ) (fun v1 m2 => (if v1 = 0 then (if p1 < (m2.1 2 14) then (ax_bd (fX5_pathByRoom p1 m2) (fun v3 m4 => (some (v3, m4)))) else (fX8_nearest_K27 m2)) else (fX8_nearest_K27 m2)))) else (some ((-1 : Int32), μ)))
theorem okX8_nearest (p1 : Int32) (μ : ax_M) : ax_Ok mX8_nearest 5 ax_jI [.ref 0, .int p1] μ (fX8_nearest p1 μ) := by
  refine ax_start (lc := [some (.ref 0), some (.int p1)]) 0 (by decide +kernel) rfl (Nat.le_of_ble_eq_true rfl) (fun x G hG => ?_)
  unfold fX8_nearest
  refine rf_iload_n (n := 1) 1 dX8_nearest_0 rfl rfl rfl ?_
  refine rf_if_ge (tg := 6) (n := 4) dX8_nearest_1 rfl rfl (fun c7 => ?_) (fun c7 => ?_)
  · refine rf_aload_n (n := 7) 0 dX8_nearest_6 rfl rfl rfl ?_
    refine rf_getR (n := 10) rr_0_5 kk_32 hG dX8_nearest_7 flX8_41 ki_8_5 sS_0 kk_0 rfl ?_
    refine rf_cV0I (n := 13) hG (okX5_isForever _) lVX8_216 hhX5_isForever kk_32 sS_32 ⟨_, rfl, rfl⟩ dX8_nearest_10 rfl (Nat.le_of_ble_eq_true rfl) (Nat.le_of_ble_eq_true rfl) (fun v1 m2 => ?_)
    refine rf_if_ne (tg := 27) (n := 16) dX8_nearest_13 rfl rfl (fun c6 => ?_) (fun c6 => ?_)
    · refine rf_mask (lc2 := [none, none]) [false, false] rfl ?_
      exact pX8_nearest_K27 hG _
    · refine rf_iload_n (n := 17) 1 dX8_nearest_16 rfl rfl rfl ?_
      refine rf_aload_n (n := 18) 0 dX8_nearest_17 rfl rfl rfl ?_
      refine rf_getR (n := 21) rr_0_2 kk_2 hG dX8_nearest_18 flX8_16 ki_8_2 sS_0 kk_0 rfl ?_
      refine rf_getI (n := 24) hG dX8_nearest_21 flX8_197 ki_1_14 sS_2 kk_2 rfl ?_
      refine rf_icmp_lt (tg := 30) (n := 27) dX8_nearest_24 rfl rfl (fun c5 => ?_) (fun c5 => ?_)
      · refine rf_aload_n (n := 31) 0 dX8_nearest_30 rfl rfl rfl ?_
        refine rf_getR (n := 34) rr_0_5 kk_32 hG dX8_nearest_31 flX8_41 ki_8_5 sS_0 kk_0 rfl ?_
        refine rf_iload_n (n := 35) 1 dX8_nearest_34 rfl rfl rfl ?_
        refine rf_cV1I (n := 38) hG (okX5_pathByRoom _ _) lVX8_302 hhX5_pathByRoom kk_32 sS_32 ⟨_, rfl, rfl⟩ dX8_nearest_35 rfl (Nat.le_of_ble_eq_true rfl) (Nat.le_of_ble_eq_true rfl) (fun v3 m4 => ?_)
        exact rf_retI rfl dX8_nearest_38
      · refine rf_mask (lc2 := [none, none]) [false, false] rfl ?_
        exact pX8_nearest_K27 hG _
  · refine rf_iconst (n := 5) (-1 : Int32) dX8_nearest_4 cciconst_m1 rfl ?_
    exact rf_retI rfl dX8_nearest_5
def fX9_nearest_K30 (μ : ax_M) : Option (Int32 × ax_M) :=
  (some ((-2 : Int32), μ))
theorem pX9_nearest_K30 {x : ax_X} {G : ax_G} (hG : ax_ok G) (μ : ax_M) : ax_Rf mX9_nearest 5 x (ax_Z ax_jI x G) G 0 0 30 [none, none, none, none, none, none, none] [] μ (fX9_nearest_K30 μ) := by
  unfold fX9_nearest_K30
  refine rf_bipush (n := 32) (-2 : Int32) dX9_nearest_30 ccbipush_m2 rfl ?_
  exact rf_retI rfl dX9_nearest_32
def fX9_nearest_K97 (l1 : Int32) (l2 : Int32) (l4 : Int32) (s0 : Int32) (s1 : Int32) (r48 : Int32 → Int32 → ax_M → Option (Int32 × ax_M)) (μ : ax_M) : Option (Int32 × ax_M) :=
  (ax_let (s0 + s1) (fun v16 => (r48 v16 (l4 + (1 : Int32)) μ)))
theorem pX9_nearest_K97 {x : ax_X} {G : ax_G} (hG : ax_ok G) (l1 : Int32) (l2 : Int32) (l4 : Int32) (s0 : Int32) (s1 : Int32) (r48 : Int32 → Int32 → ax_M → Option (Int32 × ax_M)) (hr48 : ∀ (a3 : Int32) (a4 : Int32) (μ : ax_M), ax_Rf mX9_nearest 5 x (ax_Z ax_jI x G) G 0 0 48 [some (.ref 57), some (.int l1), some (.int l2), some (.int a3), some (.int a4), none, none] [] μ (r48 a3 a4 μ)) (μ : ax_M) : ax_Rf mX9_nearest 5 x (ax_Z ax_jI x G) G 0 0 97 [some (.ref 57), some (.int l1), some (.int l2), none, some (.int l4), none, none] [.int s1, .int s0] μ (fX9_nearest_K97 l1 l2 l4 s0 s1 r48 μ) := by
  unfold fX9_nearest_K97
  refine rf_iadd (n := 98) dX9_nearest_97 rfl ?_
  refine rf_letI (fun v16 => ?_)
  refine rf_istore_n (lc2 := [some (.ref 57), some (.int l1), some (.int l2), some (.int v16), some (.int l4), none, none]) (n := 99) 3 dX9_nearest_98 rfl rfl (Nat.le_of_ble_eq_true rfl) rfl rfl ?_
  refine rf_iinc (lc2 := [some (.ref 57), some (.int l1), some (.int l2), some (.int v16), some (.int (l4 + (1 : Int32))), none, none]) (n := 102) (w := (1 : Int32)) 4 dX9_nearest_99 rfl rfl rfl (Nat.le_of_ble_eq_true rfl) rfl rfl ?_
  refine rf_goto (tg := 48) dX9_nearest_102 rfl ?_
  exact hr48 _ _ _
def fX9_nearest_K92 (l1 : Int32) (l2 : Int32) (l4 : Int32) (s0 : Int32) (r48 : Int32 → Int32 → ax_M → Option (Int32 × ax_M)) (μ : ax_M) : Option (Int32 × ax_M) :=
  (fX9_nearest_K97 l1 l2 l4 s0 (1 : Int32) r48 μ)
theorem pX9_nearest_K92 {x : ax_X} {G : ax_G} (hG : ax_ok G) (l1 : Int32) (l2 : Int32) (l4 : Int32) (s0 : Int32) (r48 : Int32 → Int32 → ax_M → Option (Int32 × ax_M)) (hr48 : ∀ (a3 : Int32) (a4 : Int32) (μ : ax_M), ax_Rf mX9_nearest 5 x (ax_Z ax_jI x G) G 0 0 48 [some (.ref 57), some (.int l1), some (.int l2), some (.int a3), some (.int a4), none, none] [] μ (r48 a3 a4 μ)) (μ : ax_M) : ax_Rf mX9_nearest 5 x (ax_Z ax_jI x G) G 0 0 92 [some (.ref 57), some (.int l1), some (.int l2), none, some (.int l4), none, none] [.int s0] μ (fX9_nearest_K92 l1 l2 l4 s0 r48 μ) := by
  unfold fX9_nearest_K92
  refine rf_iconst (n := 93) (1 : Int32) dX9_nearest_92 cciconst_1 rfl ?_
  refine rf_goto (tg := 97) dX9_nearest_93 rfl ?_
  exact pX9_nearest_K97 hG _ _ _ _ _ r48 hr48 _
def fX9_nearest_K96 (l1 : Int32) (l2 : Int32) (l4 : Int32) (s0 : Int32) (r48 : Int32 → Int32 → ax_M → Option (Int32 × ax_M)) (μ : ax_M) : Option (Int32 × ax_M) :=
  (fX9_nearest_K97 l1 l2 l4 s0 (0 : Int32) r48 μ)
theorem pX9_nearest_K96 {x : ax_X} {G : ax_G} (hG : ax_ok G) (l1 : Int32) (l2 : Int32) (l4 : Int32) (s0 : Int32) (r48 : Int32 → Int32 → ax_M → Option (Int32 × ax_M)) (hr48 : ∀ (a3 : Int32) (a4 : Int32) (μ : ax_M), ax_Rf mX9_nearest 5 x (ax_Z ax_jI x G) G 0 0 48 [some (.ref 57), some (.int l1), some (.int l2), some (.int a3), some (.int a4), none, none] [] μ (r48 a3 a4 μ)) (μ : ax_M) : ax_Rf mX9_nearest 5 x (ax_Z ax_jI x G) G 0 0 96 [some (.ref 57), some (.int l1), some (.int l2), none, some (.int l4), none, none] [.int s0] μ (fX9_nearest_K96 l1 l2 l4 s0 r48 μ) := by
  unfold fX9_nearest_K96
  refine rf_iconst (n := 97) (0 : Int32) dX9_nearest_96 cciconst_0 rfl ?_
  exact pX9_nearest_K97 hG _ _ _ _ _ r48 hr48 _
def fX9_nearest_B48 (l1 : Int32) (l2 : Int32) (r35 : Int32 → ax_M → Option (Int32 × ax_M)) (r48 : Int32 → Int32 → ax_M → Option (Int32 × ax_M)) (l3 : Int32) (l4 : Int32) (μ : ax_M) : Option (Int32 × ax_M) :=
  (ax_bd (fX9_paths μ) (fun v8 m9 => (if v8 ≤ l4 then (if l3 = l1 then (some (l2, m9)) else (r35 (l2 + (1 : Int32)) m9)) else (ax_bd (fX9_nearOf l4 m9) (fun v11 m12 => (ax_bd (fX9_nearOf l2 m12) (fun v13 m14 => (ax_let (v11 - v13) (fun v15 => (if (lg_cmp v15 (0 : Int64)) < 0 then (fX9_nearest_K92 l1 l2 l4 l3 r48 m14) else (if (lg_cmp v15 (0 : Int64)) = 0 then (if l2 ≤ l4 then (fX9_nearest_K96 l1 l2 l4 l3 r48 m14) else (fX9_nearest_K92 l1 l2 l4 l3 r48 m14)) else (fX9_nearest_K96 l1 l2 l4 l3 r48 m14))))))))))))
theorem pX9_nearest_B48 {x : ax_X} {G : ax_G} (hG : ax_ok G) (l1 : Int32) (l2 : Int32) (r35 : Int32 → ax_M → Option (Int32 × ax_M)) (hr35 : ∀ (a2 : Int32) (μ : ax_M), ax_Rf mX9_nearest 5 x (ax_Z ax_jI x G) G 0 0 35 [some (.ref 57), some (.int l1), some (.int a2), none, none, none, none] [] μ (r35 a2 μ)) (r48 : Int32 → Int32 → ax_M → Option (Int32 × ax_M)) (hr48 : ∀ (a3 : Int32) (a4 : Int32) (μ : ax_M), ax_Rf mX9_nearest 5 x (ax_Z ax_jI x G) G 0 0 48 [some (.ref 57), some (.int l1), some (.int l2), some (.int a3), some (.int a4), none, none] [] μ (r48 a3 a4 μ)) (l3 : Int32) (l4 : Int32) (μ : ax_M) : ax_Rf mX9_nearest 5 x (ax_Z ax_jI x G) G 0 0 48 [some (.ref 57), some (.int l1), some (.int l2), some (.int l3), some (.int l4), none, none] [] μ (fX9_nearest_B48 l1 l2 r35 r48 l3 l4 μ) := by
  unfold fX9_nearest_B48
  refine rf_iload (n := 50) 4 dX9_nearest_48 rfl rfl ?_
  refine rf_aload_n (n := 51) 0 dX9_nearest_50 rfl rfl rfl ?_
  refine rf_cV0I (n := 54) hG (okX9_paths _) lVX9_236 hhX9_paths kk_57 sS_57 ⟨_, rfl, rfl⟩ dX9_nearest_51 rfl (Nat.le_of_ble_eq_true rfl) (Nat.le_of_ble_eq_true rfl) (fun v8 m9 => ?_)
  refine rf_icmp_ge (tg := 105) (n := 57) dX9_nearest_54 rfl rfl (fun c20 => ?_) (fun c20 => ?_)
  · refine rf_iload_n (n := 106) 3 dX9_nearest_105 rfl rfl rfl ?_
    refine rf_iload_n (n := 107) 1 dX9_nearest_106 rfl rfl rfl ?_
    refine rf_icmp_ne (tg := 112) (n := 110) dX9_nearest_107 rfl rfl (fun c10 => ?_) (fun c10 => ?_)
    · refine rf_iinc (lc2 := [some (.ref 57), some (.int l1), some (.int (l2 + (1 : Int32))), some (.int l3), some (.int l4), none, none]) (n := 115) (w := (1 : Int32)) 2 dX9_nearest_112 rfl rfl rfl (Nat.le_of_ble_eq_true rfl) rfl rfl ?_
      refine rf_goto (tg := 35) dX9_nearest_115 rfl ?_
      refine rf_mask (lc2 := [some (.ref 57), some (.int l1), some (.int (l2 + (1 : Int32))), none, none, none, none]) [true, true, true, false, false, true, true] rfl ?_
      exact hr35 _ _
    · refine rf_iload_n (n := 111) 2 dX9_nearest_110 rfl rfl rfl ?_
      exact rf_retI rfl dX9_nearest_111
  · refine rf_aload_n (n := 58) 0 dX9_nearest_57 rfl rfl rfl ?_
    refine rf_iload (n := 60) 4 dX9_nearest_58 rfl rfl ?_
    refine rf_cV1L (n := 63) hG (okX9_nearOf _ _) lVX9_378 hhX9_nearOf kk_57 sS_57 ⟨_, rfl, rfl⟩ dX9_nearest_60 rfl (Nat.le_of_ble_eq_true rfl) (Nat.le_of_ble_eq_true rfl) (fun v11 m12 => ?_)
    refine rf_aload_n (n := 64) 0 dX9_nearest_63 rfl rfl rfl ?_
    refine rf_iload_n (n := 65) 2 dX9_nearest_64 rfl rfl rfl ?_
    refine rf_cV1L (n := 68) hG (okX9_nearOf _ _) lVX9_378 hhX9_nearOf kk_57 sS_57 ⟨_, rfl, rfl⟩ dX9_nearest_65 rfl (Nat.le_of_ble_eq_true rfl) (Nat.le_of_ble_eq_true rfl) (fun v13 m14 => ?_)
    refine rf_lsub (n := 69) dX9_nearest_68 rfl ?_
    refine rf_letL (fun v15 => ?_)
    refine rf_lstore (lc2 := [some (.ref 57), some (.int l1), some (.int l2), some (.int l3), some (.int l4), some (.long v15), none]) (n := 71) 5 dX9_nearest_69 rfl (Nat.le_of_ble_eq_true rfl) rfl rfl ?_
    refine rf_iload_n (n := 72) 3 dX9_nearest_71 rfl rfl rfl ?_
    refine rf_lload (n := 74) 5 dX9_nearest_72 rfl rfl ?_
    refine rf_lconst (n := 75) (0 : Int64) dX9_nearest_74 rfl rfl ?_
    refine rf_lcmp (n := 76) dX9_nearest_75 rfl ?_
    refine rf_if_lt (tg := 92) (n := 79) dX9_nearest_76 rfl rfl (fun c19 => ?_) (fun c19 => ?_)
    · refine rf_mask (lc2 := [some (.ref 57), some (.int l1), some (.int l2), none, some (.int l4), none, none]) [true, true, true, false, true, false, true] rfl ?_
      exact pX9_nearest_K92 hG _ _ _ _ r48 hr48 _
    · refine rf_lload (n := 81) 5 dX9_nearest_79 rfl rfl ?_
      refine rf_lconst (n := 82) (0 : Int64) dX9_nearest_81 rfl rfl ?_
      refine rf_lcmp (n := 83) dX9_nearest_82 rfl ?_
      refine rf_if_ne (tg := 96) (n := 86) dX9_nearest_83 rfl rfl (fun c18 => ?_) (fun c18 => ?_)
      · refine rf_mask (lc2 := [some (.ref 57), some (.int l1), some (.int l2), none, some (.int l4), none, none]) [true, true, true, false, true, false, true] rfl ?_
        exact pX9_nearest_K96 hG _ _ _ _ r48 hr48 _
      · refine rf_iload (n := 88) 4 dX9_nearest_86 rfl rfl ?_
        refine rf_iload_n (n := 89) 2 dX9_nearest_88 rfl rfl rfl ?_
        refine rf_icmp_ge (tg := 96) (n := 92) dX9_nearest_89 rfl rfl (fun c17 => ?_) (fun c17 => ?_)
        · refine rf_mask (lc2 := [some (.ref 57), some (.int l1), some (.int l2), none, some (.int l4), none, none]) [true, true, true, false, true, false, true] rfl ?_
          exact pX9_nearest_K96 hG _ _ _ _ r48 hr48 _
        · refine rf_mask (lc2 := [some (.ref 57), some (.int l1), some (.int l2), none, some (.int l4), none, none]) [true, true, true, false, true, false, true] rfl ?_
          exact pX9_nearest_K92 hG _ _ _ _ r48 hr48 _
theorem pX9_nearest_L48 {x : ax_X} {G : ax_G} (hG : ax_ok G) (l1 : Int32) (l2 : Int32) (r35 : Int32 → ax_M → Option (Int32 × ax_M)) (hr35 : ∀ (a2 : Int32) (μ : ax_M), ax_Rf mX9_nearest 5 x (ax_Z ax_jI x G) G 0 0 35 [some (.ref 57), some (.int l1), some (.int a2), none, none, none, none] [] μ (r35 a2 μ)) (n : Nat) (a3 : Int32) (a4 : Int32) (μ : ax_M) : ax_Rf mX9_nearest 5 x (ax_Z ax_jI x G) G 0 0 48 [some (.ref 57), some (.int l1), some (.int l2), some (.int a3), some (.int a4), none, none] [] μ (ax_lp2 (fX9_nearest_B48 l1 l2 r35) n a3 a4 μ) :=
  rf_lp2 (P := fun a3 a4 μ t => ax_Rf mX9_nearest 5 x (ax_Z ax_jI x G) G 0 0 48 [some (.ref 57), some (.int l1), some (.int l2), some (.int a3), some (.int a4), none, none] [] μ t) (fun _ _ _ => rf_none) (fun rc hrc a3 a4 μ => pX9_nearest_B48 hG l1 l2 r35 hr35 rc hrc a3 a4 μ) n a3 a4 μ
def fX9_nearest_B35 (l1 : Int32) (r35 : Int32 → ax_M → Option (Int32 × ax_M)) (l2 : Int32) (μ : ax_M) : Option (Int32 × ax_M) :=
  (ax_bd (fX9_paths μ) (fun v6 m7 => (if v6 ≤ l2 then (some ((-2 : Int32), m7)) else (ax_lp2 (fX9_nearest_B48 l1 l2 r35) ax_FU (0 : Int32) (0 : Int32) m7))))
theorem pX9_nearest_B35 {x : ax_X} {G : ax_G} (hG : ax_ok G) (l1 : Int32) (r35 : Int32 → ax_M → Option (Int32 × ax_M)) (hr35 : ∀ (a2 : Int32) (μ : ax_M), ax_Rf mX9_nearest 5 x (ax_Z ax_jI x G) G 0 0 35 [some (.ref 57), some (.int l1), some (.int a2), none, none, none, none] [] μ (r35 a2 μ)) (l2 : Int32) (μ : ax_M) : ax_Rf mX9_nearest 5 x (ax_Z ax_jI x G) G 0 0 35 [some (.ref 57), some (.int l1), some (.int l2), none, none, none, none] [] μ (fX9_nearest_B35 l1 r35 l2 μ) := by
  unfold fX9_nearest_B35
  refine rf_iload_n (n := 36) 2 dX9_nearest_35 rfl rfl rfl ?_
  refine rf_aload_n (n := 37) 0 dX9_nearest_36 rfl rfl rfl ?_
  refine rf_cV0I (n := 40) hG (okX9_paths _) lVX9_236 hhX9_paths kk_57 sS_57 ⟨_, rfl, rfl⟩ dX9_nearest_37 rfl (Nat.le_of_ble_eq_true rfl) (Nat.le_of_ble_eq_true rfl) (fun v6 m7 => ?_)
  refine rf_icmp_ge (tg := 118) (n := 43) dX9_nearest_40 rfl rfl (fun c21 => ?_) (fun c21 => ?_)
  · refine rf_bipush (n := 120) (-2 : Int32) dX9_nearest_118 ccbipush_m2 rfl ?_
    exact rf_retI rfl dX9_nearest_120
  · refine rf_iconst (n := 44) (0 : Int32) dX9_nearest_43 cciconst_0 rfl ?_
    refine rf_istore_n (lc2 := [some (.ref 57), some (.int l1), some (.int l2), some (.int (0 : Int32)), none, none, none]) (n := 45) 3 dX9_nearest_44 rfl rfl (Nat.le_of_ble_eq_true rfl) rfl rfl ?_
    refine rf_iconst (n := 46) (0 : Int32) dX9_nearest_45 cciconst_0 rfl ?_
    refine rf_istore (lc2 := [some (.ref 57), some (.int l1), some (.int l2), some (.int (0 : Int32)), some (.int (0 : Int32)), none, none]) (n := 48) 4 dX9_nearest_46 rfl (Nat.le_of_ble_eq_true rfl) rfl rfl ?_
    exact pX9_nearest_L48 hG _ _ r35 hr35 _ _ _ _
theorem pX9_nearest_L35 {x : ax_X} {G : ax_G} (hG : ax_ok G) (l1 : Int32) (n : Nat) (a2 : Int32) (μ : ax_M) : ax_Rf mX9_nearest 5 x (ax_Z ax_jI x G) G 0 0 35 [some (.ref 57), some (.int l1), some (.int a2), none, none, none, none] [] μ (ax_lp1 (fX9_nearest_B35 l1) n a2 μ) :=
  rf_lp1 (P := fun a2 μ t => ax_Rf mX9_nearest 5 x (ax_Z ax_jI x G) G 0 0 35 [some (.ref 57), some (.int l1), some (.int a2), none, none, none, none] [] μ t) (fun _ _ => rf_none) (fun rc hrc a2 μ => pX9_nearest_B35 hG l1 rc hrc a2 μ) n a2 μ
def fX9_nearest (p1 : Int32) (μ : ax_M) : Option (Int32 × ax_M) :=
  (ax_let (ax_wi μ 57 0 (0 : Int32)) (fun m1 => (if 0 ≤ p1 then (ax_bd (fX9_settles m1) (fun _ m3 => (if (m3.1 57 35) = 0 then (ax_bd (fX9_paths m3) (fun v4 m5 => (if p1 < v4 then (ax_lp1 (fX9_nearest_B35 p1) ax_FU (0 : Int32) m5) else (fX9_nearest_K30 m5)))) else (fX9_nearest_K30 m3)))) else (some ((-1 : Int32), m1)))))
theorem okX9_nearest (p1 : Int32) (μ : ax_M) : ax_Ok mX9_nearest 5 ax_jI [.ref 57, .int p1] μ (fX9_nearest p1 μ) := by
  refine ax_start (lc := [some (.ref 57), some (.int p1), none, none, none, none, none]) 5 (by decide +kernel) rfl (Nat.le_of_ble_eq_true rfl) (fun x G hG => ?_)
  unfold fX9_nearest
  refine rf_aload_n (n := 1) 0 dX9_nearest_0 rfl rfl rfl ?_
  refine rf_iconst (n := 2) (0 : Int32) dX9_nearest_1 cciconst_0 rfl ?_
  refine rf_pfI (n := 5) hG rfl dX9_nearest_2 flX9_103 ki_9_0 nf_9_0 sS_57 kk_57 rfl (fun m1 => ?_)
  refine rf_iload_n (n := 6) 1 dX9_nearest_5 rfl rfl rfl ?_
  refine rf_if_ge (tg := 11) (n := 9) dX9_nearest_6 rfl rfl (fun c24 => ?_) (fun c24 => ?_)
  · refine rf_aload_n (n := 12) 0 dX9_nearest_11 rfl rfl rfl ?_
    refine rf_cV0V (n := 15) hG (okX9_settles _) lVX9_306 hhX9_settles kk_57 sS_57 ⟨_, rfl, rfl⟩ dX9_nearest_12 rfl (Nat.le_of_ble_eq_true rfl) (Nat.le_of_ble_eq_true rfl) (fun _ m3 => ?_)
    refine rf_aload_n (n := 16) 0 dX9_nearest_15 rfl rfl rfl ?_
    refine rf_getI (n := 19) hG dX9_nearest_16 flX9_303 ki_9_35 sS_57 kk_57 rfl ?_
    refine rf_if_ne (tg := 30) (n := 22) dX9_nearest_19 rfl rfl (fun c23 => ?_) (fun c23 => ?_)
    · refine rf_mask (lc2 := [none, none, none, none, none, none, none]) [false, false, true, true, true, true, true] rfl ?_
      exact pX9_nearest_K30 hG _
    · refine rf_iload_n (n := 23) 1 dX9_nearest_22 rfl rfl rfl ?_
      refine rf_aload_n (n := 24) 0 dX9_nearest_23 rfl rfl rfl ?_
      refine rf_cV0I (n := 27) hG (okX9_paths _) lVX9_236 hhX9_paths kk_57 sS_57 ⟨_, rfl, rfl⟩ dX9_nearest_24 rfl (Nat.le_of_ble_eq_true rfl) (Nat.le_of_ble_eq_true rfl) (fun v4 m5 => ?_)
      refine rf_icmp_lt (tg := 33) (n := 30) dX9_nearest_27 rfl rfl (fun c22 => ?_) (fun c22 => ?_)
      · refine rf_iconst (n := 34) (0 : Int32) dX9_nearest_33 cciconst_0 rfl ?_
        refine rf_istore_n (lc2 := [some (.ref 57), some (.int p1), some (.int (0 : Int32)), none, none, none, none]) (n := 35) 2 dX9_nearest_34 rfl rfl (Nat.le_of_ble_eq_true rfl) rfl rfl ?_
        exact pX9_nearest_L35 hG _ _ _ _
      · refine rf_mask (lc2 := [none, none, none, none, none, none, none]) [false, false, true, true, true, true, true] rfl ?_
        exact pX9_nearest_K30 hG _
  · refine rf_iconst (n := 10) (-1 : Int32) dX9_nearest_9 cciconst_m1 rfl ?_
    exact rf_retI rfl dX9_nearest_10
def fX1_keyOf_K38 (l2 : Int32) (l3 : Int32) (s0 : Int32) (μ : ax_M) : Option (Int32 × ax_M) :=
  (some (((((((2 : Int32) * s0) * (μ.1 2 16)) + l3) * (4 : Int32)) + l2), μ))
theorem pX1_keyOf_K38 {x : ax_X} {G : ax_G} (hG : ax_ok G) (l2 : Int32) (l3 : Int32) (s0 : Int32) (μ : ax_M) : ax_Rf mX1_keyOf 0 x (ax_Z ax_jI x G) G 0 0 38 [some (.ref 2), none, some (.int l2), some (.int l3), none] [.int s0] μ (fX1_keyOf_K38 l2 l3 s0 μ) := by
  unfold fX1_keyOf_K38
  refine rf_istore (lc2 := [some (.ref 2), none, some (.int l2), some (.int l3), some (.int s0)]) (n := 40) 4 dX1_keyOf_38 rfl (Nat.le_of_ble_eq_true rfl) rfl rfl ?_
  refine rf_iconst (n := 41) (2 : Int32) dX1_keyOf_40 cciconst_2 rfl ?_
  refine rf_iload (n := 43) 4 dX1_keyOf_41 rfl rfl ?_
  refine rf_imul (n := 44) dX1_keyOf_43 rfl ?_
  refine rf_aload_n (n := 45) 0 dX1_keyOf_44 rfl rfl rfl ?_
  refine rf_getI (n := 48) hG dX1_keyOf_45 flX1_48 ki_1_16 sS_2 kk_2 rfl ?_
  refine rf_imul (n := 49) dX1_keyOf_48 rfl ?_
  refine rf_iload_n (n := 50) 3 dX1_keyOf_49 rfl rfl rfl ?_
  refine rf_iadd (n := 51) dX1_keyOf_50 rfl ?_
  refine rf_iconst (n := 52) (4 : Int32) dX1_keyOf_51 cciconst_4 rfl ?_
  refine rf_imul (n := 53) dX1_keyOf_52 rfl ?_
  refine rf_iload_n (n := 54) 2 dX1_keyOf_53 rfl rfl rfl ?_
  refine rf_iadd (n := 55) dX1_keyOf_54 rfl ?_
  exact rf_retI rfl dX1_keyOf_55
def fX1_keyOf (p1 : Int32) (μ : ax_M) : Option (Int32 × ax_M) :=
  (Option.bind (ax_dv p1 (2 : Int32)) (fun v1 => (Option.bind (ax_rm p1 (2 : Int32)) (fun v2 => (if v2 = (1 : Int32) then (Option.bind (ax_rd μ 4 4 v1) (fun v6 => (fX1_keyOf_K38 v1 v2 v6 μ))) else (Option.bind (ax_rd μ 4 4 v1) (fun v3 => (Option.bind (ax_rd μ 5 4 v1) (fun v4 => (Option.bind (ax_rm (v3 + v4) (64 : Int32)) (fun v5 => (fX1_keyOf_K38 v1 v2 v5 μ))))))))))))
theorem okX1_keyOf (p1 : Int32) (μ : ax_M) : ax_Ok mX1_keyOf 0 ax_jI [.ref 2, .int p1] μ (fX1_keyOf p1 μ) := by
  refine ax_start (lc := [some (.ref 2), some (.int p1), none, none, none]) 3 (by decide +kernel) rfl (Nat.le_of_ble_eq_true rfl) (fun x G hG => ?_)
  unfold fX1_keyOf
  refine rf_iload_n (n := 1) 1 dX1_keyOf_0 rfl rfl rfl ?_
  refine rf_iconst (n := 2) (2 : Int32) dX1_keyOf_1 cciconst_2 rfl ?_
  refine rf_idiv (n := 3) dX1_keyOf_2 rfl (fun v1 => ?_)
  refine rf_istore_n (lc2 := [some (.ref 2), some (.int p1), some (.int v1), none, none]) (n := 4) 2 dX1_keyOf_3 rfl rfl (Nat.le_of_ble_eq_true rfl) rfl rfl ?_
  refine rf_iload_n (n := 5) 1 dX1_keyOf_4 rfl rfl rfl ?_
  refine rf_iconst (n := 6) (2 : Int32) dX1_keyOf_5 cciconst_2 rfl ?_
  refine rf_irem (n := 7) dX1_keyOf_6 rfl (fun v2 => ?_)
  refine rf_istore_n (lc2 := [some (.ref 2), some (.int p1), some (.int v1), some (.int v2), none]) (n := 8) 3 dX1_keyOf_7 rfl rfl (Nat.le_of_ble_eq_true rfl) rfl rfl ?_
  refine rf_iload_n (n := 9) 3 dX1_keyOf_8 rfl rfl rfl ?_
  refine rf_iconst (n := 10) (1 : Int32) dX1_keyOf_9 cciconst_1 rfl ?_
  refine rf_icmp_ne (tg := 22) (n := 13) dX1_keyOf_10 rfl rfl (fun c7 => ?_) (fun c7 => ?_)
  · refine rf_aload_n (n := 23) 0 dX1_keyOf_22 rfl rfl rfl ?_
    refine rf_getR (n := 26) rr_2_1 kk_4 hG dX1_keyOf_23 flX1_15 ki_1_1 sS_2 kk_2 rfl ?_
    refine rf_iload_n (n := 27) 2 dX1_keyOf_26 rfl rfl rfl ?_
    refine rf_iald (n := 28) hG dX1_keyOf_27 sS_4 kk_4 rfl (fun v3 => ?_)
    refine rf_aload_n (n := 29) 0 dX1_keyOf_28 rfl rfl rfl ?_
    refine rf_getR (n := 32) rr_2_2 kk_5 hG dX1_keyOf_29 flX1_18 ki_1_2 sS_2 kk_2 rfl ?_
    refine rf_iload_n (n := 33) 2 dX1_keyOf_32 rfl rfl rfl ?_
    refine rf_iald (n := 34) hG dX1_keyOf_33 sS_5 kk_5 rfl (fun v4 => ?_)
    refine rf_iadd (n := 35) dX1_keyOf_34 rfl ?_
    refine rf_bipush (n := 37) (64 : Int32) dX1_keyOf_35 ccbipush_64 rfl ?_
    refine rf_irem (n := 38) dX1_keyOf_37 rfl (fun v5 => ?_)
    refine rf_mask (lc2 := [some (.ref 2), none, some (.int v1), some (.int v2), none]) [true, false, true, true, true] rfl ?_
    exact pX1_keyOf_K38 hG _ _ _ _
  · refine rf_aload_n (n := 14) 0 dX1_keyOf_13 rfl rfl rfl ?_
    refine rf_getR (n := 17) rr_2_1 kk_4 hG dX1_keyOf_14 flX1_15 ki_1_1 sS_2 kk_2 rfl ?_
    refine rf_iload_n (n := 18) 2 dX1_keyOf_17 rfl rfl rfl ?_
    refine rf_iald (n := 19) hG dX1_keyOf_18 sS_4 kk_4 rfl (fun v6 => ?_)
    refine rf_goto (tg := 38) dX1_keyOf_19 rfl ?_
    refine rf_mask (lc2 := [some (.ref 2), none, some (.int v1), some (.int v2), none]) [true, false, true, true, true] rfl ?_
    exact pX1_keyOf_K38 hG _ _ _ _
def fX1_eventKey_K48 (l1 : Int32) (l2 : Int32) (l3 : Int32) (l4 : Int32) (l5 : Int32) (r24 : Int32 → Int32 → ax_M → Option (Int32 × ax_M)) (μ : ax_M) : Option (Int32 × ax_M) :=
  (r24 l4 (l5 + (1 : Int32)) μ)
theorem pX1_eventKey_K48 {x : ax_X} {G : ax_G} (hG : ax_ok G) (l1 : Int32) (l2 : Int32) (l3 : Int32) (l4 : Int32) (l5 : Int32) (r24 : Int32 → Int32 → ax_M → Option (Int32 × ax_M)) (hr24 : ∀ (a4 : Int32) (a5 : Int32) (μ : ax_M), ax_Rf mX1_eventKey 1 x (ax_Z ax_jI x G) G 0 0 24 [some (.ref 2), some (.int l1), some (.int l2), some (.int l3), some (.int a4), some (.int a5)] [] μ (r24 a4 a5 μ)) (μ : ax_M) : ax_Rf mX1_eventKey 1 x (ax_Z ax_jI x G) G 0 0 48 [some (.ref 2), some (.int l1), some (.int l2), some (.int l3), some (.int l4), some (.int l5)] [] μ (fX1_eventKey_K48 l1 l2 l3 l4 l5 r24 μ) := by
  unfold fX1_eventKey_K48
  refine rf_iinc (lc2 := [some (.ref 2), some (.int l1), some (.int l2), some (.int l3), some (.int l4), some (.int (l5 + (1 : Int32)))]) (n := 51) (w := (1 : Int32)) 5 dX1_eventKey_48 rfl rfl rfl (Nat.le_of_ble_eq_true rfl) rfl rfl ?_
  refine rf_goto (tg := 24) dX1_eventKey_51 rfl ?_
  exact hr24 _ _ _
def fX1_eventKey_B24 (l1 : Int32) (l2 : Int32) (l3 : Int32) (r2 : Int32 → ax_M → Option (Int32 × ax_M)) (r24 : Int32 → Int32 → ax_M → Option (Int32 × ax_M)) (l4 : Int32) (l5 : Int32) (μ : ax_M) : Option (Int32 × ax_M) :=
  (if ((2 : Int32) * (μ.1 2 12)) ≤ l5 then (if l4 = l1 then (some (l3, μ)) else (r2 (l2 + (1 : Int32)) μ)) else (ax_bd (fX1_keyOf l5 μ) (fun v4 m5 => (if l3 ≤ v4 then (fX1_eventKey_K48 l1 l2 l3 l4 l5 r24 m5) else (fX1_eventKey_K48 l1 l2 l3 (l4 + (1 : Int32)) l5 r24 m5)))))
theorem pX1_eventKey_B24 {x : ax_X} {G : ax_G} (hG : ax_ok G) (l1 : Int32) (l2 : Int32) (l3 : Int32) (r2 : Int32 → ax_M → Option (Int32 × ax_M)) (hr2 : ∀ (a2 : Int32) (μ : ax_M), ax_Rf mX1_eventKey 1 x (ax_Z ax_jI x G) G 0 0 2 [some (.ref 2), some (.int l1), some (.int a2), none, none, none] [] μ (r2 a2 μ)) (r24 : Int32 → Int32 → ax_M → Option (Int32 × ax_M)) (hr24 : ∀ (a4 : Int32) (a5 : Int32) (μ : ax_M), ax_Rf mX1_eventKey 1 x (ax_Z ax_jI x G) G 0 0 24 [some (.ref 2), some (.int l1), some (.int l2), some (.int l3), some (.int a4), some (.int a5)] [] μ (r24 a4 a5 μ)) (l4 : Int32) (l5 : Int32) (μ : ax_M) : ax_Rf mX1_eventKey 1 x (ax_Z ax_jI x G) G 0 0 24 [some (.ref 2), some (.int l1), some (.int l2), some (.int l3), some (.int l4), some (.int l5)] [] μ (fX1_eventKey_B24 l1 l2 l3 r2 r24 l4 l5 μ) := by
  unfold fX1_eventKey_B24
  refine rf_iload (n := 26) 5 dX1_eventKey_24 rfl rfl ?_
  refine rf_iconst (n := 27) (2 : Int32) dX1_eventKey_26 cciconst_2 rfl ?_
  refine rf_aload_n (n := 28) 0 dX1_eventKey_27 rfl rfl rfl ?_
  refine rf_getI (n := 31) hG dX1_eventKey_28 flX1_52 ki_1_12 sS_2 kk_2 rfl ?_
  refine rf_imul (n := 32) dX1_eventKey_31 rfl ?_
  refine rf_icmp_ge (tg := 54) (n := 35) dX1_eventKey_32 rfl rfl (fun c7 => ?_) (fun c7 => ?_)
  · refine rf_iload (n := 56) 4 dX1_eventKey_54 rfl rfl ?_
    refine rf_iload_n (n := 57) 1 dX1_eventKey_56 rfl rfl rfl ?_
    refine rf_icmp_ne (tg := 62) (n := 60) dX1_eventKey_57 rfl rfl (fun c3 => ?_) (fun c3 => ?_)
    · refine rf_iinc (lc2 := [some (.ref 2), some (.int l1), some (.int (l2 + (1 : Int32))), some (.int l3), some (.int l4), some (.int l5)]) (n := 65) (w := (1 : Int32)) 2 dX1_eventKey_62 rfl rfl rfl (Nat.le_of_ble_eq_true rfl) rfl rfl ?_
      refine rf_goto (tg := 2) dX1_eventKey_65 rfl ?_
      refine rf_mask (lc2 := [some (.ref 2), some (.int l1), some (.int (l2 + (1 : Int32))), none, none, none]) [true, true, true, false, false, false] rfl ?_
      exact hr2 _ _
    · refine rf_iload_n (n := 61) 3 dX1_eventKey_60 rfl rfl rfl ?_
      exact rf_retI rfl dX1_eventKey_61
  · refine rf_aload_n (n := 36) 0 dX1_eventKey_35 rfl rfl rfl ?_
    refine rf_iload (n := 38) 5 dX1_eventKey_36 rfl rfl ?_
    refine rf_cV1I (n := 41) hG (okX1_keyOf _ _) lVX1_112 hhX1_keyOf kk_2 sS_2 ⟨_, rfl, rfl⟩ dX1_eventKey_38 rfl (Nat.le_of_ble_eq_true rfl) (Nat.le_of_ble_eq_true rfl) (fun v4 m5 => ?_)
    refine rf_iload_n (n := 42) 3 dX1_eventKey_41 rfl rfl rfl ?_
    refine rf_icmp_ge (tg := 48) (n := 45) dX1_eventKey_42 rfl rfl (fun c6 => ?_) (fun c6 => ?_)
    · exact pX1_eventKey_K48 hG _ _ _ _ _ r24 hr24 _
    · refine rf_iinc (lc2 := [some (.ref 2), some (.int l1), some (.int l2), some (.int l3), some (.int (l4 + (1 : Int32))), some (.int l5)]) (n := 48) (w := (1 : Int32)) 4 dX1_eventKey_45 rfl rfl rfl (Nat.le_of_ble_eq_true rfl) rfl rfl ?_
      exact pX1_eventKey_K48 hG _ _ _ _ _ r24 hr24 _
theorem pX1_eventKey_L24 {x : ax_X} {G : ax_G} (hG : ax_ok G) (l1 : Int32) (l2 : Int32) (l3 : Int32) (r2 : Int32 → ax_M → Option (Int32 × ax_M)) (hr2 : ∀ (a2 : Int32) (μ : ax_M), ax_Rf mX1_eventKey 1 x (ax_Z ax_jI x G) G 0 0 2 [some (.ref 2), some (.int l1), some (.int a2), none, none, none] [] μ (r2 a2 μ)) (n : Nat) (a4 : Int32) (a5 : Int32) (μ : ax_M) : ax_Rf mX1_eventKey 1 x (ax_Z ax_jI x G) G 0 0 24 [some (.ref 2), some (.int l1), some (.int l2), some (.int l3), some (.int a4), some (.int a5)] [] μ (ax_lp2 (fX1_eventKey_B24 l1 l2 l3 r2) n a4 a5 μ) :=
  rf_lp2 (P := fun a4 a5 μ t => ax_Rf mX1_eventKey 1 x (ax_Z ax_jI x G) G 0 0 24 [some (.ref 2), some (.int l1), some (.int l2), some (.int l3), some (.int a4), some (.int a5)] [] μ t) (fun _ _ _ => rf_none) (fun rc hrc a4 a5 μ => pX1_eventKey_B24 hG l1 l2 l3 r2 hr2 rc hrc a4 a5 μ) n a4 a5 μ
def fX1_eventKey_B2 (l1 : Int32) (r2 : Int32 → ax_M → Option (Int32 × ax_M)) (l2 : Int32) (μ : ax_M) : Option (Int32 × ax_M) :=
  (if ((2 : Int32) * (μ.1 2 12)) ≤ l2 then (some ((-1 : Int32), μ)) else (ax_bd (fX1_keyOf l2 μ) (fun v1 m2 => (ax_lp2 (fX1_eventKey_B24 l1 l2 v1 r2) ax_FU (0 : Int32) (0 : Int32) m2))))
theorem pX1_eventKey_B2 {x : ax_X} {G : ax_G} (hG : ax_ok G) (l1 : Int32) (r2 : Int32 → ax_M → Option (Int32 × ax_M)) (hr2 : ∀ (a2 : Int32) (μ : ax_M), ax_Rf mX1_eventKey 1 x (ax_Z ax_jI x G) G 0 0 2 [some (.ref 2), some (.int l1), some (.int a2), none, none, none] [] μ (r2 a2 μ)) (l2 : Int32) (μ : ax_M) : ax_Rf mX1_eventKey 1 x (ax_Z ax_jI x G) G 0 0 2 [some (.ref 2), some (.int l1), some (.int l2), none, none, none] [] μ (fX1_eventKey_B2 l1 r2 l2 μ) := by
  unfold fX1_eventKey_B2
  refine rf_iload_n (n := 3) 2 dX1_eventKey_2 rfl rfl rfl ?_
  refine rf_iconst (n := 4) (2 : Int32) dX1_eventKey_3 cciconst_2 rfl ?_
  refine rf_aload_n (n := 5) 0 dX1_eventKey_4 rfl rfl rfl ?_
  refine rf_getI (n := 8) hG dX1_eventKey_5 flX1_52 ki_1_12 sS_2 kk_2 rfl ?_
  refine rf_imul (n := 9) dX1_eventKey_8 rfl ?_
  refine rf_icmp_ge (tg := 68) (n := 12) dX1_eventKey_9 rfl rfl (fun c8 => ?_) (fun c8 => ?_)
  · refine rf_iconst (n := 69) (-1 : Int32) dX1_eventKey_68 cciconst_m1 rfl ?_
    exact rf_retI rfl dX1_eventKey_69
  · refine rf_aload_n (n := 13) 0 dX1_eventKey_12 rfl rfl rfl ?_
    refine rf_iload_n (n := 14) 2 dX1_eventKey_13 rfl rfl rfl ?_
    refine rf_cV1I (n := 17) hG (okX1_keyOf _ _) lVX1_112 hhX1_keyOf kk_2 sS_2 ⟨_, rfl, rfl⟩ dX1_eventKey_14 rfl (Nat.le_of_ble_eq_true rfl) (Nat.le_of_ble_eq_true rfl) (fun v1 m2 => ?_)
    refine rf_istore_n (lc2 := [some (.ref 2), some (.int l1), some (.int l2), some (.int v1), none, none]) (n := 18) 3 dX1_eventKey_17 rfl rfl (Nat.le_of_ble_eq_true rfl) rfl rfl ?_
    refine rf_iconst (n := 19) (0 : Int32) dX1_eventKey_18 cciconst_0 rfl ?_
    refine rf_istore (lc2 := [some (.ref 2), some (.int l1), some (.int l2), some (.int v1), some (.int (0 : Int32)), none]) (n := 21) 4 dX1_eventKey_19 rfl (Nat.le_of_ble_eq_true rfl) rfl rfl ?_
    refine rf_iconst (n := 22) (0 : Int32) dX1_eventKey_21 cciconst_0 rfl ?_
    refine rf_istore (lc2 := [some (.ref 2), some (.int l1), some (.int l2), some (.int v1), some (.int (0 : Int32)), some (.int (0 : Int32))]) (n := 24) 5 dX1_eventKey_22 rfl (Nat.le_of_ble_eq_true rfl) rfl rfl ?_
    exact pX1_eventKey_L24 hG _ _ _ r2 hr2 _ _ _ _
theorem pX1_eventKey_L2 {x : ax_X} {G : ax_G} (hG : ax_ok G) (l1 : Int32) (n : Nat) (a2 : Int32) (μ : ax_M) : ax_Rf mX1_eventKey 1 x (ax_Z ax_jI x G) G 0 0 2 [some (.ref 2), some (.int l1), some (.int a2), none, none, none] [] μ (ax_lp1 (fX1_eventKey_B2 l1) n a2 μ) :=
  rf_lp1 (P := fun a2 μ t => ax_Rf mX1_eventKey 1 x (ax_Z ax_jI x G) G 0 0 2 [some (.ref 2), some (.int l1), some (.int a2), none, none, none] [] μ t) (fun _ _ => rf_none) (fun rc hrc a2 μ => pX1_eventKey_B2 hG l1 rc hrc a2 μ) n a2 μ
def fX1_eventKey (p1 : Int32) (μ : ax_M) : Option (Int32 × ax_M) :=
  (ax_lp1 (fX1_eventKey_B2 p1) ax_FU (0 : Int32) μ)
theorem okX1_eventKey (p1 : Int32) (μ : ax_M) : ax_Ok mX1_eventKey 1 ax_jI [.ref 2, .int p1] μ (fX1_eventKey p1 μ) := by
  refine ax_start (lc := [some (.ref 2), some (.int p1), none, none, none, none]) 4 (by decide +kernel) rfl (Nat.le_of_ble_eq_true rfl) (fun x G hG => ?_)
  unfold fX1_eventKey
  refine rf_iconst (n := 1) (0 : Int32) dX1_eventKey_0 cciconst_0 rfl ?_
  refine rf_istore_n (lc2 := [some (.ref 2), some (.int p1), some (.int (0 : Int32)), none, none, none]) (n := 2) 2 dX1_eventKey_1 rfl rfl (Nat.le_of_ble_eq_true rfl) rfl rfl ?_
  exact pX1_eventKey_L2 hG _ _ _ _
def fX8_event (p1 : Int32) (p2 : Int32) (μ : ax_M) : Option (Int32 × ax_M) :=
  (ax_bd (fX1_eventKey p1 μ) (fun v1 m2 => (if v1 = (-1 : Int32) then (some ((-1 : Int32), m2)) else (if p2 = (0 : Int32) then (Option.bind (ax_dv v1 (8 : Int32)) (fun v4 => (some (v4, m2)))) else (if p2 = (1 : Int32) then (Option.bind (ax_rm v1 (4 : Int32)) (fun v6 => (some (v6, m2)))) else (if p2 = (2 : Int32) then (Option.bind (ax_dv v1 (4 : Int32)) (fun v8 => (Option.bind (ax_rm v8 (2 : Int32)) (fun v9 => (some (v9, m2)))))) else (some ((-1 : Int32), m2))))))))
theorem okX8_event (p1 : Int32) (p2 : Int32) (μ : ax_M) : ax_Ok mX8_event 2 ax_jI [.ref 0, .int p1, .int p2] μ (fX8_event p1 p2 μ) := by
  refine ax_start (lc := [some (.ref 0), some (.int p1), some (.int p2), none]) 1 (by decide +kernel) rfl (Nat.le_of_ble_eq_true rfl) (fun x G hG => ?_)
  unfold fX8_event
  refine rf_aload_n (n := 1) 0 dX8_event_0 rfl rfl rfl ?_
  refine rf_getR (n := 4) rr_0_2 kk_2 hG dX8_event_1 flX8_16 ki_8_2 sS_0 kk_0 rfl ?_
  refine rf_iload_n (n := 5) 1 dX8_event_4 rfl rfl rfl ?_
  refine rf_cV1I (n := 8) hG (okX1_eventKey _ _) lVX8_305 hhX1_eventKey kk_2 sS_2 ⟨_, rfl, rfl⟩ dX8_event_5 rfl (Nat.le_of_ble_eq_true rfl) (Nat.le_of_ble_eq_true rfl) (fun v1 m2 => ?_)
  refine rf_istore_n (lc2 := [some (.ref 0), some (.int p1), some (.int p2), some (.int v1)]) (n := 9) 3 dX8_event_8 rfl rfl (Nat.le_of_ble_eq_true rfl) rfl rfl ?_
  refine rf_iload_n (n := 10) 3 dX8_event_9 rfl rfl rfl ?_
  refine rf_iconst (n := 11) (-1 : Int32) dX8_event_10 cciconst_m1 rfl ?_
  refine rf_icmp_ne (tg := 16) (n := 14) dX8_event_11 rfl rfl (fun c10 => ?_) (fun c10 => ?_)
  · refine rf_iload_n (n := 17) 2 dX8_event_16 rfl rfl rfl ?_
    refine rf_split (fun c3 => ?_) (fun c3 => ?_)
    · refine rf_tabIn (tg := 44) (0 : Int32) c3 dX8_event_17 (by decide) rfl rfl ?_
      refine rf_iload_n (n := 45) 3 dX8_event_44 rfl rfl rfl ?_
      refine rf_bipush (n := 47) (8 : Int32) dX8_event_45 ccbipush_8 rfl ?_
      refine rf_idiv (n := 48) dX8_event_47 rfl (fun v4 => ?_)
      exact rf_retI rfl dX8_event_48
    · refine rf_split (fun c5 => ?_) (fun c5 => ?_)
      · refine rf_tabIn (tg := 49) (1 : Int32) c5 dX8_event_17 (by decide) rfl rfl ?_
        refine rf_iload_n (n := 50) 3 dX8_event_49 rfl rfl rfl ?_
        refine rf_iconst (n := 51) (4 : Int32) dX8_event_50 cciconst_4 rfl ?_
        refine rf_irem (n := 52) dX8_event_51 rfl (fun v6 => ?_)
        exact rf_retI rfl dX8_event_52
      · refine rf_split (fun c7 => ?_) (fun c7 => ?_)
        · refine rf_tabIn (tg := 53) (2 : Int32) c7 dX8_event_17 (by decide) rfl rfl ?_
          refine rf_iload_n (n := 54) 3 dX8_event_53 rfl rfl rfl ?_
          refine rf_iconst (n := 55) (4 : Int32) dX8_event_54 cciconst_4 rfl ?_
          refine rf_idiv (n := 56) dX8_event_55 rfl (fun v8 => ?_)
          refine rf_iconst (n := 57) (2 : Int32) dX8_event_56 cciconst_2 rfl ?_
          refine rf_irem (n := 58) dX8_event_57 rfl (fun v9 => ?_)
          exact rf_retI rfl dX8_event_58
        · refine rf_tabOut (tg := 59) [(0 : Int32), (1 : Int32), (2 : Int32)] (List.forall_mem_cons.mpr ⟨c3, List.forall_mem_cons.mpr ⟨c5, List.forall_mem_cons.mpr ⟨c7, List.forall_mem_nil _⟩⟩⟩) dX8_event_17 (by decide) rfl ?_
          refine rf_iconst (n := 60) (-1 : Int32) dX8_event_59 cciconst_m1 rfl ?_
          exact rf_retI rfl dX8_event_60
  · refine rf_iconst (n := 15) (-1 : Int32) dX8_event_14 cciconst_m1 rfl ?_
    exact rf_retI rfl dX8_event_15
def fX9_timeOf_K29 (s0 : Int32) (s1 : Int32) (μ : ax_M) : Option (Int32 × ax_M) :=
  (ax_let (s0 + s1) (fun v3 => (Option.bind (ax_rm v3 (64 : Int32)) (fun v4 => (Option.bind (ax_rd μ 74 68 (0 : Int32)) (fun v5 => (some ((v4 * v5), μ))))))))
theorem pX9_timeOf_K29 {x : ax_X} {G : ax_G} (hG : ax_ok G) (s0 : Int32) (s1 : Int32) (μ : ax_M) : ax_Rf mX9_timeOf 0 x (ax_Z ax_jI x G) G 0 0 29 [some (.ref 57), none, none, none] [.int s1, .int s0] μ (fX9_timeOf_K29 s0 s1 μ) := by
  unfold fX9_timeOf_K29
  refine rf_iadd (n := 30) dX9_timeOf_29 rfl ?_
  refine rf_letI (fun v3 => ?_)
  refine rf_istore_n (lc2 := [some (.ref 57), none, none, some (.int v3)]) (n := 31) 3 dX9_timeOf_30 rfl rfl (Nat.le_of_ble_eq_true rfl) rfl rfl ?_
  refine rf_iload_n (n := 32) 3 dX9_timeOf_31 rfl rfl rfl ?_
  refine rf_bipush (n := 34) (64 : Int32) dX9_timeOf_32 ccbipush_64 rfl ?_
  refine rf_irem (n := 35) dX9_timeOf_34 rfl (fun v4 => ?_)
  refine rf_aload_n (n := 36) 0 dX9_timeOf_35 rfl rfl rfl ?_
  refine rf_getR (n := 39) rr_57_28 kk_74 hG dX9_timeOf_36 flX9_63 ki_9_28 sS_57 kk_57 rfl ?_
  refine rf_iconst (n := 40) (0 : Int32) dX9_timeOf_39 cciconst_0 rfl ?_
  refine rf_iald (n := 41) hG dX9_timeOf_40 sS_74 kk_74 rfl (fun v5 => ?_)
  refine rf_imul (n := 42) dX9_timeOf_41 rfl ?_
  exact rf_retI rfl dX9_timeOf_42
def fX9_timeOf (p1 : Int32) (μ : ax_M) : Option (Int32 × ax_M) :=
  (Option.bind (ax_rm p1 (4 : Int32)) (fun v1 => (Option.bind (ax_rd μ 74 68 ((1 : Int32) + v1)) (fun v2 => (if (4 : Int32) ≤ p1 then (fX9_timeOf_K29 v2 (0 : Int32) μ) else (Option.bind (ax_rd μ 74 68 ((5 : Int32) + v1)) (fun v6 => (fX9_timeOf_K29 v2 v6 μ))))))))
theorem okX9_timeOf (p1 : Int32) (μ : ax_M) : ax_Ok mX9_timeOf 0 ax_jI [.ref 57, .int p1] μ (fX9_timeOf p1 μ) := by
  refine ax_start (lc := [some (.ref 57), some (.int p1), none, none]) 2 (by decide +kernel) rfl (Nat.le_of_ble_eq_true rfl) (fun x G hG => ?_)
  unfold fX9_timeOf
  refine rf_iload_n (n := 1) 1 dX9_timeOf_0 rfl rfl rfl ?_
  refine rf_iconst (n := 2) (4 : Int32) dX9_timeOf_1 cciconst_4 rfl ?_
  refine rf_irem (n := 3) dX9_timeOf_2 rfl (fun v1 => ?_)
  refine rf_istore_n (lc2 := [some (.ref 57), some (.int p1), some (.int v1), none]) (n := 4) 2 dX9_timeOf_3 rfl rfl (Nat.le_of_ble_eq_true rfl) rfl rfl ?_
  refine rf_aload_n (n := 5) 0 dX9_timeOf_4 rfl rfl rfl ?_
  refine rf_getR (n := 8) rr_57_28 kk_74 hG dX9_timeOf_5 flX9_63 ki_9_28 sS_57 kk_57 rfl ?_
  refine rf_iconst (n := 9) (1 : Int32) dX9_timeOf_8 cciconst_1 rfl ?_
  refine rf_iload_n (n := 10) 2 dX9_timeOf_9 rfl rfl rfl ?_
  refine rf_iadd (n := 11) dX9_timeOf_10 rfl ?_
  refine rf_iald (n := 12) hG dX9_timeOf_11 sS_74 kk_74 rfl (fun v2 => ?_)
  refine rf_iload_n (n := 13) 1 dX9_timeOf_12 rfl rfl rfl ?_
  refine rf_iconst (n := 14) (4 : Int32) dX9_timeOf_13 cciconst_4 rfl ?_
  refine rf_icmp_ge (tg := 28) (n := 17) dX9_timeOf_14 rfl rfl (fun c7 => ?_) (fun c7 => ?_)
  · refine rf_iconst (n := 29) (0 : Int32) dX9_timeOf_28 cciconst_0 rfl ?_
    refine rf_mask (lc2 := [some (.ref 57), none, none, none]) [true, false, false, true] rfl ?_
    exact pX9_timeOf_K29 hG _ _ _
  · refine rf_aload_n (n := 18) 0 dX9_timeOf_17 rfl rfl rfl ?_
    refine rf_getR (n := 21) rr_57_28 kk_74 hG dX9_timeOf_18 flX9_63 ki_9_28 sS_57 kk_57 rfl ?_
    refine rf_iconst (n := 22) (5 : Int32) dX9_timeOf_21 cciconst_5 rfl ?_
    refine rf_iload_n (n := 23) 2 dX9_timeOf_22 rfl rfl rfl ?_
    refine rf_iadd (n := 24) dX9_timeOf_23 rfl ?_
    refine rf_iald (n := 25) hG dX9_timeOf_24 sS_74 kk_74 rfl (fun v6 => ?_)
    refine rf_goto (tg := 29) dX9_timeOf_25 rfl ?_
    refine rf_mask (lc2 := [some (.ref 57), none, none, none]) [true, false, false, true] rfl ?_
    exact pX9_timeOf_K29 hG _ _ _
