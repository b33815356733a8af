def fX9_tellsLoop_K129 (μ : ax_M) : Option (Unit × ax_M) :=
  (some ((), μ))
theorem pX9_tellsLoop_K129 {x : ax_X} {G : ax_G} (hG : ax_ok G) (μ : ax_M) : ax_Rf mX9_tellsLoop 1 x (ax_Z ax_jV x G) G 0 0 129 [none, none, none, none, none, none, none, none, none] [] μ (fX9_tellsLoop_K129 μ) := by
  unfold fX9_tellsLoop_K129
  exact rf_retV rfl dX9_tellsLoop_129
def fX9_tellsLoop_B149 (l1 : Int32) (r149 : Int32 → ax_M → Option (Unit × ax_M)) (l8 : Int32) (μ : ax_M) : Option (Unit × ax_M) :=
  (if l1 ≤ l8 then (some ((), μ)) else (Option.bind (ax_rd μ 80 10 l8) (fun v4 => (Option.bind (ax_wr μ 82 10 l8 v4) (fun m5 => (r149 (l8 + (1 : Int32)) m5))))))
theorem pX9_tellsLoop_B149 {x : ax_X} {G : ax_G} (hG : ax_ok G) (l1 : Int32) (r149 : Int32 → ax_M → Option (Unit × ax_M)) (hr149 : ∀ (a8 : Int32) (μ : ax_M), ax_Rf mX9_tellsLoop 1 x (ax_Z ax_jV x G) G 0 0 149 [some (.ref 57), some (.int l1), none, none, none, none, none, none, some (.int a8)] [] μ (r149 a8 μ)) (l8 : Int32) (μ : ax_M) : ax_Rf mX9_tellsLoop 1 x (ax_Z ax_jV x G) G 0 0 149 [some (.ref 57), some (.int l1), none, none, none, none, none, none, some (.int l8)] [] μ (fX9_tellsLoop_B149 l1 r149 l8 μ) := by
  unfold fX9_tellsLoop_B149
  refine rf_iload (n := 151) 8 dX9_tellsLoop_149 rfl rfl ?_
  refine rf_iload_n (n := 152) 1 dX9_tellsLoop_151 rfl rfl rfl ?_
  refine rf_icmp_ge (tg := 175) (n := 155) dX9_tellsLoop_152 rfl rfl (fun c6 => ?_) (fun c6 => ?_)
  · exact rf_retV rfl dX9_tellsLoop_175
  · refine rf_aload_n (n := 156) 0 dX9_tellsLoop_155 rfl rfl rfl ?_
    refine rf_getR (n := 159) rr_57_40 kk_82 hG dX9_tellsLoop_156 flX9_88 ki_9_40 sS_57 kk_57 rfl ?_
    refine rf_iload (n := 161) 8 dX9_tellsLoop_159 rfl rfl ?_
    refine rf_aload_n (n := 162) 0 dX9_tellsLoop_161 rfl rfl rfl ?_
    refine rf_getR (n := 165) rr_57_38 kk_80 hG dX9_tellsLoop_162 flX9_82 ki_9_38 sS_57 kk_57 rfl ?_
    refine rf_iload (n := 167) 8 dX9_tellsLoop_165 rfl rfl ?_
    refine rf_iald (n := 168) hG dX9_tellsLoop_167 sS_80 kk_80 rfl (fun v4 => ?_)
    refine rf_iast (n := 169) hG dX9_tellsLoop_168 sS_82 kk_82 rfl (fun m5 => ?_)
    refine rf_iinc (lc2 := [some (.ref 57), some (.int l1), none, none, none, none, none, none, some (.int (l8 + (1 : Int32)))]) (n := 172) (w := (1 : Int32)) 8 dX9_tellsLoop_169 rfl rfl rfl (Nat.le_of_ble_eq_true rfl) rfl rfl ?_
    refine rf_goto (tg := 149) dX9_tellsLoop_172 rfl ?_
    exact hr149 _ _
theorem pX9_tellsLoop_L149 {x : ax_X} {G : ax_G} (hG : ax_ok G) (l1 : Int32) (n : Nat) (a8 : Int32) (μ : ax_M) : ax_Rf mX9_tellsLoop 1 x (ax_Z ax_jV x G) G 0 0 149 [some (.ref 57), some (.int l1), none, none, none, none, none, none, some (.int a8)] [] μ (ax_lp1 (fX9_tellsLoop_B149 l1) n a8 μ) :=
  rf_lp1 (P := fun a8 μ t => ax_Rf mX9_tellsLoop 1 x (ax_Z ax_jV x G) G 0 0 149 [some (.ref 57), some (.int l1), none, none, none, none, none, none, some (.int a8)] [] μ t) (fun _ _ => rf_none) (fun rc hrc a8 μ => pX9_tellsLoop_B149 hG l1 rc hrc a8 μ) n a8 μ
def fX9_tellsLoop_K130 (l1 : Int32) (l2 : Int64) (l4 : Int64) (μ : ax_M) : Option (Unit × ax_M) :=
  (ax_let (ax_wl μ 57 42 l2) (fun m1 => (ax_let (ax_wl m1 57 43 l4) (fun m2 => (ax_let (ax_wi m2 57 41 l1) (fun m3 => (ax_lp1 (fX9_tellsLoop_B149 l1) ax_FU (0 : Int32) m3)))))))
theorem pX9_tellsLoop_K130 {x : ax_X} {G : ax_G} (hG : ax_ok G) (l1 : Int32) (l2 : Int64) (l4 : Int64) (μ : ax_M) : ax_Rf mX9_tellsLoop 1 x (ax_Z ax_jV x G) G 0 0 130 [some (.ref 57), some (.int l1), some (.long l2), none, some (.long l4), none, none, none, none] [] μ (fX9_tellsLoop_K130 l1 l2 l4 μ) := by
  unfold fX9_tellsLoop_K130
  refine rf_aload_n (n := 131) 0 dX9_tellsLoop_130 rfl rfl rfl ?_
  refine rf_lload_n (n := 132) 2 dX9_tellsLoop_131 rfl rfl rfl ?_
  refine rf_pfL (n := 135) hG rfl dX9_tellsLoop_132 flX9_347 ki_9_42 nf_9_42 sS_57 kk_57 rfl (fun m1 => ?_)
  refine rf_aload_n (n := 136) 0 dX9_tellsLoop_135 rfl rfl rfl ?_
  refine rf_lload (n := 138) 4 dX9_tellsLoop_136 rfl rfl ?_
  refine rf_pfL (n := 141) hG rfl dX9_tellsLoop_138 flX9_343 ki_9_43 nf_9_43 sS_57 kk_57 rfl (fun m2 => ?_)
  refine rf_aload_n (n := 142) 0 dX9_tellsLoop_141 rfl rfl rfl ?_
  refine rf_iload_n (n := 143) 1 dX9_tellsLoop_142 rfl rfl rfl ?_
  refine rf_pfI (n := 146) hG rfl dX9_tellsLoop_143 flX9_340 ki_9_41 nf_9_41 sS_57 kk_57 rfl (fun m3 => ?_)
  refine rf_iconst (n := 147) (0 : Int32) dX9_tellsLoop_146 cciconst_0 rfl ?_
  refine rf_istore (lc2 := [some (.ref 57), some (.int l1), some (.long l2), none, some (.long l4), none, none, none, some (.int (0 : Int32))]) (n := 149) 8 dX9_tellsLoop_147 rfl (Nat.le_of_ble_eq_true rfl) rfl rfl ?_
  refine rf_mask (lc2 := [some (.ref 57), some (.int l1), none, none, none, none, none, none, some (.int (0 : Int32))]) [true, true, false, true, false, true, true, true, true] rfl ?_
  exact pX9_tellsLoop_L149 hG _ _ _ _
def fX9_tellsLoop_K105 (l1 : Int32) (l2 : Int64) (l4 : Int64) (s0 : Int64) (μ : ax_M) : Option (Unit × ax_M) :=
  (if (lg_cmp s0 (0 : Int64)) < 0 then (fX9_tellsLoop_K129 μ) else (if (lg_cmp s0 (0 : Int64)) = 0 then (ax_bd (fX9_isFirst l1 μ) (fun v7 m8 => (if v7 = 0 then (fX9_tellsLoop_K129 m8) else (fX9_tellsLoop_K130 l1 l2 l4 m8)))) else (fX9_tellsLoop_K130 l1 l2 l4 μ)))
theorem pX9_tellsLoop_K105 {x : ax_X} {G : ax_G} (hG : ax_ok G) (l1 : Int32) (l2 : Int64) (l4 : Int64) (s0 : Int64) (μ : ax_M) : ax_Rf mX9_tellsLoop 1 x (ax_Z ax_jV x G) G 0 0 105 [some (.ref 57), some (.int l1), some (.long l2), none, some (.long l4), none, none, none, none] [.long s0] μ (fX9_tellsLoop_K105 l1 l2 l4 s0 μ) := by
  unfold fX9_tellsLoop_K105
  refine rf_lstore (lc2 := [some (.ref 57), some (.int l1), some (.long l2), none, some (.long l4), none, some (.long s0), none, none]) (n := 107) 6 dX9_tellsLoop_105 rfl (Nat.le_of_ble_eq_true rfl) rfl rfl ?_
  refine rf_lload (n := 109) 6 dX9_tellsLoop_107 rfl rfl ?_
  refine rf_lconst (n := 110) (0 : Int64) dX9_tellsLoop_109 rfl rfl ?_
  refine rf_lcmp (n := 111) dX9_tellsLoop_110 rfl ?_
  refine rf_if_lt (tg := 129) (n := 114) dX9_tellsLoop_111 rfl rfl (fun c11 => ?_) (fun c11 => ?_)
  · refine rf_mask (lc2 := [none, none, none, none, none, none, none, none, none]) [false, false, false, true, false, true, false, true, true] rfl ?_
    exact pX9_tellsLoop_K129 hG _
  · refine rf_lload (n := 116) 6 dX9_tellsLoop_114 rfl rfl ?_
    refine rf_lconst (n := 117) (0 : Int64) dX9_tellsLoop_116 rfl rfl ?_
    refine rf_lcmp (n := 118) dX9_tellsLoop_117 rfl ?_
    refine rf_if_ne (tg := 130) (n := 121) dX9_tellsLoop_118 rfl rfl (fun c10 => ?_) (fun c10 => ?_)
    · refine rf_mask (lc2 := [some (.ref 57), some (.int l1), some (.long l2), none, some (.long l4), none, none, none, none]) [true, true, true, true, true, true, false, true, true] rfl ?_
      exact pX9_tellsLoop_K130 hG _ _ _ _
    · refine rf_aload_n (n := 122) 0 dX9_tellsLoop_121 rfl rfl rfl ?_
      refine rf_iload_n (n := 123) 1 dX9_tellsLoop_122 rfl rfl rfl ?_
      refine rf_cV1I (n := 126) hG (okX9_isFirst _ _) lVX9_350 hhX9_isFirst kk_57 sS_57 ⟨_, rfl, rfl⟩ dX9_tellsLoop_123 rfl (Nat.le_of_ble_eq_true rfl) (Nat.le_of_ble_eq_true rfl) (fun v7 m8 => ?_)
      refine rf_if_ne (tg := 130) (n := 129) dX9_tellsLoop_126 rfl rfl (fun c9 => ?_) (fun c9 => ?_)
      · refine rf_mask (lc2 := [some (.ref 57), some (.int l1), some (.long l2), none, some (.long l4), none, none, none, none]) [true, true, true, true, true, true, false, true, true] rfl ?_
        exact pX9_tellsLoop_K130 hG _ _ _ _
      · refine rf_mask (lc2 := [none, none, none, none, none, none, none, none, none]) [false, false, false, true, false, true, false, true, true] rfl ?_
        exact pX9_tellsLoop_K129 hG _
def fX9_tellsLoop_B8 (l1 : Int32) (r8 : Int64 → Int64 → Int32 → ax_M → Option (Unit × ax_M)) (l2 : Int64) (l4 : Int64) (l6 : Int32) (μ : ax_M) : Option (Unit × ax_M) :=
  (if l1 ≤ l6 then (if (μ.1 57 41) = 0 then (fX9_tellsLoop_K105 l1 l2 l4 (1 : Int64) μ) else (fX9_tellsLoop_K105 l1 l2 l4 ((l2 * (μ.2 57 43)) - ((μ.2 57 42) * l4)) μ)) else (Option.bind (ax_rd μ 81 10 l6) (fun v13 => (Option.bind (ax_rd μ 70 48 v13) (fun v14 => (Option.bind (ax_rd μ 68 20 v14) (fun v15 => (Option.bind (ax_rd μ 74 68 ((19 : Int32) + v13)) (fun v16 => (Option.bind (ax_rd μ 74 68 (67 : Int32)) (fun v17 => (ax_let (l2 + ((64 : Int64) * (Int32.toInt64 ((v15 + v16) + v17)))) (fun v18 => (ax_bd (fX9_shiftOf v13 μ) (fun v19 m20 => (ax_let (l4 + (Int32.toInt64 v19)) (fun v21 => (r8 v18 v21 (l6 + (1 : Int32)) m20))))))))))))))))))
theorem pX9_tellsLoop_B8 {x : ax_X} {G : ax_G} (hG : ax_ok G) (l1 : Int32) (r8 : Int64 → Int64 → Int32 → ax_M → Option (Unit × ax_M)) (hr8 : ∀ (a2 : Int64) (a4 : Int64) (a6 : Int32) (μ : ax_M), ax_Rf mX9_tellsLoop 1 x (ax_Z ax_jV x G) G 0 0 8 [some (.ref 57), some (.int l1), some (.long a2), none, some (.long a4), none, some (.int a6), none, none] [] μ (r8 a2 a4 a6 μ)) (l2 : Int64) (l4 : Int64) (l6 : Int32) (μ : ax_M) : ax_Rf mX9_tellsLoop 1 x (ax_Z ax_jV x G) G 0 0 8 [some (.ref 57), some (.int l1), some (.long l2), none, some (.long l4), none, some (.int l6), none, none] [] μ (fX9_tellsLoop_B8 l1 r8 l2 l4 l6 μ) := by
  unfold fX9_tellsLoop_B8
  refine rf_iload (n := 10) 6 dX9_tellsLoop_8 rfl rfl ?_
  refine rf_iload_n (n := 11) 1 dX9_tellsLoop_10 rfl rfl rfl ?_
  refine rf_icmp_ge (tg := 80) (n := 14) dX9_tellsLoop_11 rfl rfl (fun c22 => ?_) (fun c22 => ?_)
  · refine rf_aload_n (n := 81) 0 dX9_tellsLoop_80 rfl rfl rfl ?_
    refine rf_getI (n := 84) hG dX9_tellsLoop_81 flX9_340 ki_9_41 sS_57 kk_57 rfl ?_
    refine rf_if_ne (tg := 91) (n := 87) dX9_tellsLoop_84 rfl rfl (fun c12 => ?_) (fun c12 => ?_)
    · refine rf_lload_n (n := 92) 2 dX9_tellsLoop_91 rfl rfl rfl ?_
      refine rf_aload_n (n := 93) 0 dX9_tellsLoop_92 rfl rfl rfl ?_
      refine rf_getL (n := 96) hG dX9_tellsLoop_93 flX9_343 ki_9_43 sS_57 kk_57 rfl ?_
      refine rf_lmul (n := 97) dX9_tellsLoop_96 rfl ?_
      refine rf_aload_n (n := 98) 0 dX9_tellsLoop_97 rfl rfl rfl ?_
      refine rf_getL (n := 101) hG dX9_tellsLoop_98 flX9_347 ki_9_42 sS_57 kk_57 rfl ?_
      refine rf_lload (n := 103) 4 dX9_tellsLoop_101 rfl rfl ?_
      refine rf_lmul (n := 104) dX9_tellsLoop_103 rfl ?_
      refine rf_lsub (n := 105) dX9_tellsLoop_104 rfl ?_
      refine rf_mask (lc2 := [some (.ref 57), some (.int l1), some (.long l2), none, some (.long l4), none, none, none, none]) [true, true, true, true, true, true, false, true, true] rfl ?_
      exact pX9_tellsLoop_K105 hG _ _ _ _ _
    · refine rf_lconst (n := 88) (1 : Int64) dX9_tellsLoop_87 rfl rfl ?_
      refine rf_goto (tg := 105) dX9_tellsLoop_88 rfl ?_
      refine rf_mask (lc2 := [some (.ref 57), some (.int l1), some (.long l2), none, some (.long l4), none, none, none, none]) [true, true, true, true, true, true, false, true, true] rfl ?_
      exact pX9_tellsLoop_K105 hG _ _ _ _ _
  · refine rf_aload_n (n := 15) 0 dX9_tellsLoop_14 rfl rfl rfl ?_
    refine rf_getR (n := 18) rr_57_39 kk_81 hG dX9_tellsLoop_15 flX9_85 ki_9_39 sS_57 kk_57 rfl ?_
    refine rf_iload (n := 20) 6 dX9_tellsLoop_18 rfl rfl ?_
    refine rf_iald (n := 21) hG dX9_tellsLoop_20 sS_81 kk_81 rfl (fun v13 => ?_)
    refine rf_istore (lc2 := [some (.ref 57), some (.int l1), some (.long l2), none, some (.long l4), none, some (.int l6), some (.int v13), none]) (n := 23) 7 dX9_tellsLoop_21 rfl (Nat.le_of_ble_eq_true rfl) rfl rfl ?_
    refine rf_lload_n (n := 24) 2 dX9_tellsLoop_23 rfl rfl rfl ?_
    refine rf_ldc2 (n := 27) dX9_tellsLoop_24 clX9_275 rfl ?_
    refine rf_aload_n (n := 28) 0 dX9_tellsLoop_27 rfl rfl rfl ?_
    refine rf_getR (n := 31) rr_57_12 kk_68 hG dX9_tellsLoop_28 flX9_41 ki_9_12 sS_57 kk_57 rfl ?_
    refine rf_aload_n (n := 32) 0 dX9_tellsLoop_31 rfl rfl rfl ?_
    refine rf_getR (n := 35) rr_57_14 kk_70 hG dX9_tellsLoop_32 flX9_47 ki_9_14 sS_57 kk_57 rfl ?_
    refine rf_iload (n := 37) 7 dX9_tellsLoop_35 rfl rfl ?_
    refine rf_iald (n := 38) hG dX9_tellsLoop_37 sS_70 kk_70 rfl (fun v14 => ?_)
    refine rf_iald (n := 39) hG dX9_tellsLoop_38 sS_68 kk_68 rfl (fun v15 => ?_)
    refine rf_aload_n (n := 40) 0 dX9_tellsLoop_39 rfl rfl rfl ?_
    refine rf_getR (n := 43) rr_57_28 kk_74 hG dX9_tellsLoop_40 flX9_63 ki_9_28 sS_57 kk_57 rfl ?_
    refine rf_bipush (n := 45) (19 : Int32) dX9_tellsLoop_43 ccbipush_19 rfl ?_
    refine rf_iload (n := 47) 7 dX9_tellsLoop_45 rfl rfl ?_
    refine rf_iadd (n := 48) dX9_tellsLoop_47 rfl ?_
    refine rf_iald (n := 49) hG dX9_tellsLoop_48 sS_74 kk_74 rfl (fun v16 => ?_)
    refine rf_iadd (n := 50) dX9_tellsLoop_49 rfl ?_
    refine rf_aload_n (n := 51) 0 dX9_tellsLoop_50 rfl rfl rfl ?_
    refine rf_getR (n := 54) rr_57_28 kk_74 hG dX9_tellsLoop_51 flX9_63 ki_9_28 sS_57 kk_57 rfl ?_
    refine rf_bipush (n := 56) (67 : Int32) dX9_tellsLoop_54 ccbipush_67 rfl ?_
    refine rf_iald (n := 57) hG dX9_tellsLoop_56 sS_74 kk_74 rfl (fun v17 => ?_)
    refine rf_iadd (n := 58) dX9_tellsLoop_57 rfl ?_
    refine rf_i2l (n := 59) dX9_tellsLoop_58 rfl ?_
    refine rf_lmul (n := 60) dX9_tellsLoop_59 rfl ?_
    refine rf_ladd (n := 61) dX9_tellsLoop_60 rfl ?_
    refine rf_letL (fun v18 => ?_)
    refine rf_lstore_n (lc2 := [some (.ref 57), some (.int l1), some (.long v18), none, some (.long l4), none, some (.int l6), some (.int v13), none]) (n := 62) 2 dX9_tellsLoop_61 rfl rfl (Nat.le_of_ble_eq_true rfl) rfl rfl ?_
    refine rf_lload (n := 64) 4 dX9_tellsLoop_62 rfl rfl ?_
    refine rf_aload_n (n := 65) 0 dX9_tellsLoop_64 rfl rfl rfl ?_
    refine rf_iload (n := 67) 7 dX9_tellsLoop_65 rfl rfl ?_
    refine rf_cV1I (n := 70) hG (okX9_shiftOf _ _) lVX9_272 hhX9_shiftOf kk_57 sS_57 ⟨_, rfl, rfl⟩ dX9_tellsLoop_67 rfl (Nat.le_of_ble_eq_true rfl) (Nat.le_of_ble_eq_true rfl) (fun v19 m20 => ?_)
    refine rf_i2l (n := 71) dX9_tellsLoop_70 rfl ?_
    refine rf_ladd (n := 72) dX9_tellsLoop_71 rfl ?_
    refine rf_letL (fun v21 => ?_)
    refine rf_lstore (lc2 := [some (.ref 57), some (.int l1), some (.long v18), none, some (.long v21), none, some (.int l6), some (.int v13), none]) (n := 74) 4 dX9_tellsLoop_72 rfl (Nat.le_of_ble_eq_true rfl) rfl rfl ?_
    refine rf_iinc (lc2 := [some (.ref 57), some (.int l1), some (.long v18), none, some (.long v21), none, some (.int (l6 + (1 : Int32))), some (.int v13), none]) (n := 77) (w := (1 : Int32)) 6 dX9_tellsLoop_74 rfl rfl rfl (Nat.le_of_ble_eq_true rfl) rfl rfl ?_
    refine rf_goto (tg := 8) dX9_tellsLoop_77 rfl ?_
    refine rf_mask (lc2 := [some (.ref 57), some (.int l1), some (.long v18), none, some (.long v21), none, some (.int (l6 + (1 : Int32))), none, none]) [true, true, true, true, true, true, true, false, true] rfl ?_
    exact hr8 _ _ _ _
theorem pX9_tellsLoop_L8 {x : ax_X} {G : ax_G} (hG : ax_ok G) (l1 : Int32) (n : Nat) (a2 : Int64) (a4 : Int64) (a6 : Int32) (μ : ax_M) : ax_Rf mX9_tellsLoop 1 x (ax_Z ax_jV x G) G 0 0 8 [some (.ref 57), some (.int l1), some (.long a2), none, some (.long a4), none, some (.int a6), none, none] [] μ (ax_lp3 (fX9_tellsLoop_B8 l1) n a2 a4 a6 μ) :=
  rf_lp3 (P := fun a2 a4 a6 μ t => ax_Rf mX9_tellsLoop 1 x (ax_Z ax_jV x G) G 0 0 8 [some (.ref 57), some (.int l1), some (.long a2), none, some (.long a4), none, some (.int a6), none, none] [] μ t) (fun _ _ _ _ => rf_none) (fun rc hrc a2 a4 a6 μ => pX9_tellsLoop_B8 hG l1 rc hrc a2 a4 a6 μ) n a2 a4 a6 μ
def fX9_tellsLoop (p1 : Int32) (μ : ax_M) : Option (Unit × ax_M) :=
  (ax_lp3 (fX9_tellsLoop_B8 p1) ax_FU (0 : Int64) (0 : Int64) (0 : Int32) μ)
theorem okX9_tellsLoop (p1 : Int32) (μ : ax_M) : ax_Ok mX9_tellsLoop 1 ax_jV [.ref 57, .int p1] μ (fX9_tellsLoop p1 μ) := by
  refine ax_start (lc := [some (.ref 57), some (.int p1), none, none, none, none, none, none, none]) 7 (by decide +kernel) rfl (Nat.le_of_ble_eq_true rfl) (fun x G hG => ?_)
  unfold fX9_tellsLoop
  refine rf_lconst (n := 1) (0 : Int64) dX9_tellsLoop_0 rfl rfl ?_
  refine rf_lstore_n (lc2 := [some (.ref 57), some (.int p1), some (.long (0 : Int64)), none, none, none, none, none, none]) (n := 2) 2 dX9_tellsLoop_1 rfl rfl (Nat.le_of_ble_eq_true rfl) rfl rfl ?_
  refine rf_lconst (n := 3) (0 : Int64) dX9_tellsLoop_2 rfl rfl ?_
  refine rf_lstore (lc2 := [some (.ref 57), some (.int p1), some (.long (0 : Int64)), none, some (.long (0 : Int64)), none, none, none, none]) (n := 5) 4 dX9_tellsLoop_3 rfl (Nat.le_of_ble_eq_true rfl) rfl rfl ?_
  refine rf_iconst (n := 6) (0 : Int32) dX9_tellsLoop_5 cciconst_0 rfl ?_
  refine rf_istore (lc2 := [some (.ref 57), some (.int p1), some (.long (0 : Int64)), none, some (.long (0 : Int64)), none, some (.int (0 : Int32)), none, none]) (n := 8) 6 dX9_tellsLoop_6 rfl (Nat.le_of_ble_eq_true rfl) rfl rfl ?_
  exact pX9_tellsLoop_L8 hG _ _ _ _ _ _
def fX9_loopsFrom_K212 (l1 : Int32) (l2 : Int32) (l3 : Int32) (r20 : Int32 → Int32 → ax_M → Option (Unit × ax_M)) (μ : ax_M) : Option (Unit × ax_M) :=
  (r20 l2 l3 μ)
theorem pX9_loopsFrom_K212 {x : ax_X} {G : ax_G} (hG : ax_ok G) (l1 : Int32) (l2 : Int32) (l3 : Int32) (r20 : Int32 → Int32 → ax_M → Option (Unit × ax_M)) (hr20 : ∀ (a2 : Int32) (a3 : Int32) (μ : ax_M), ax_Rf mX9_loopsFrom 2 x (ax_Z ax_jV x G) G 0 0 20 [some (.ref 57), some (.int l1), some (.int a2), some (.int a3), none, none] [] μ (r20 a2 a3 μ)) (μ : ax_M) : ax_Rf mX9_loopsFrom 2 x (ax_Z ax_jV x G) G 0 0 212 [some (.ref 57), some (.int l1), some (.int l2), some (.int l3), none, none] [] μ (fX9_loopsFrom_K212 l1 l2 l3 r20 μ) := by
  unfold fX9_loopsFrom_K212
  refine rf_goto (tg := 20) dX9_loopsFrom_212 rfl ?_
  exact hr20 _ _ _
def fX9_loopsFrom_K124 (l1 : Int32) (l2 : Int32) (l3 : Int32) (l4 : Int32) (l5 : Int32) (r20 : Int32 → Int32 → ax_M → Option (Unit × ax_M)) (μ : ax_M) : Option (Unit × ax_M) :=
  (Option.bind (ax_wr μ 81 10 (l3 - (1 : Int32)) l5) (fun m9 => (ax_bd (fX9_paths m9) (fun v10 m11 => (if l5 < v10 then (Option.bind (ax_rd m11 71 48 l5) (fun v12 => (if v12 = l1 then (ax_bd (fX9_tellsLoop l3 m11) (fun _ m19 => (fX9_loopsFrom_K212 l1 l2 l3 r20 m19))) else (Option.bind (ax_rd m11 71 48 l5) (fun v13 => (Option.bind (ax_wr m11 80 10 l3 v13) (fun m14 => (Option.bind (ax_wr m14 81 10 l3 (-1 : Int32)) (fun m15 => (Option.bind (ax_rd m15 71 48 l5) (fun v16 => (ax_let (l2 ||| ((1 : Int32) <<< (v16 &&& 31))) (fun v17 => (fX9_loopsFrom_K212 l1 v17 (l3 + (1 : Int32)) r20 m15)))))))))))))) else (ax_let (l2 &&& (((1 : Int32) <<< (l4 &&& 31)) ^^^ (-1 : Int32))) (fun v21 => (fX9_loopsFrom_K212 l1 v21 (l3 + (-1 : Int32)) r20 m11))))))))
theorem pX9_loopsFrom_K124 {x : ax_X} {G : ax_G} (hG : ax_ok G) (l1 : Int32) (l2 : Int32) (l3 : Int32) (l4 : Int32) (l5 : Int32) (r20 : Int32 → Int32 → ax_M → Option (Unit × ax_M)) (hr20 : ∀ (a2 : Int32) (a3 : Int32) (μ : ax_M), ax_Rf mX9_loopsFrom 2 x (ax_Z ax_jV x G) G 0 0 20 [some (.ref 57), some (.int l1), some (.int a2), some (.int a3), none, none] [] μ (r20 a2 a3 μ)) (μ : ax_M) : ax_Rf mX9_loopsFrom 2 x (ax_Z ax_jV x G) G 0 0 124 [some (.ref 57), some (.int l1), some (.int l2), some (.int l3), some (.int l4), some (.int l5)] [] μ (fX9_loopsFrom_K124 l1 l2 l3 l4 l5 r20 μ) := by
  unfold fX9_loopsFrom_K124
  refine rf_aload_n (n := 125) 0 dX9_loopsFrom_124 rfl rfl rfl ?_
  refine rf_getR (n := 128) rr_57_39 kk_81 hG dX9_loopsFrom_125 flX9_85 ki_9_39 sS_57 kk_57 rfl ?_
  refine rf_iload_n (n := 129) 3 dX9_loopsFrom_128 rfl rfl rfl ?_
  refine rf_iconst (n := 130) (1 : Int32) dX9_loopsFrom_129 cciconst_1 rfl ?_
  refine rf_isub (n := 131) dX9_loopsFrom_130 rfl ?_
  refine rf_iload (n := 133) 5 dX9_loopsFrom_131 rfl rfl ?_
  refine rf_iast (n := 134) hG dX9_loopsFrom_133 sS_81 kk_81 rfl (fun m9 => ?_)
  refine rf_iload (n := 136) 5 dX9_loopsFrom_134 rfl rfl ?_
  refine rf_aload_n (n := 137) 0 dX9_loopsFrom_136 rfl rfl rfl ?_
  refine rf_cV0I (n := 140) hG (okX9_paths _) lVX9_236 hhX9_paths kk_57 sS_57 ⟨_, rfl, rfl⟩ dX9_loopsFrom_137 rfl (Nat.le_of_ble_eq_true rfl) (Nat.le_of_ble_eq_true rfl) (fun v10 m11 => ?_)
  refine rf_icmp_lt (tg := 158) (n := 143) dX9_loopsFrom_140 rfl rfl (fun c22 => ?_) (fun c22 => ?_)
  · refine rf_aload_n (n := 159) 0 dX9_loopsFrom_158 rfl rfl rfl ?_
    refine rf_getR (n := 162) rr_57_15 kk_71 hG dX9_loopsFrom_159 flX9_50 ki_9_15 sS_57 kk_57 rfl ?_
    refine rf_iload (n := 164) 5 dX9_loopsFrom_162 rfl rfl ?_
    refine rf_iald (n := 165) hG dX9_loopsFrom_164 sS_71 kk_71 rfl (fun v12 => ?_)
    refine rf_iload_n (n := 166) 1 dX9_loopsFrom_165 rfl rfl rfl ?_
    refine rf_icmp_ne (tg := 177) (n := 169) dX9_loopsFrom_166 rfl rfl (fun c20 => ?_) (fun c20 => ?_)
    · refine rf_aload_n (n := 178) 0 dX9_loopsFrom_177 rfl rfl rfl ?_
      refine rf_getR (n := 181) rr_57_38 kk_80 hG dX9_loopsFrom_178 flX9_82 ki_9_38 sS_57 kk_57 rfl ?_
      refine rf_iload_n (n := 182) 3 dX9_loopsFrom_181 rfl rfl rfl ?_
      refine rf_aload_n (n := 183) 0 dX9_loopsFrom_182 rfl rfl rfl ?_
      refine rf_getR (n := 186) rr_57_15 kk_71 hG dX9_loopsFrom_183 flX9_50 ki_9_15 sS_57 kk_57 rfl ?_
      refine rf_iload (n := 188) 5 dX9_loopsFrom_186 rfl rfl ?_
      refine rf_iald (n := 189) hG dX9_loopsFrom_188 sS_71 kk_71 rfl (fun v13 => ?_)
      refine rf_iast (n := 190) hG dX9_loopsFrom_189 sS_80 kk_80 rfl (fun m14 => ?_)
      refine rf_aload_n (n := 191) 0 dX9_loopsFrom_190 rfl rfl rfl ?_
      refine rf_getR (n := 194) rr_57_39 kk_81 hG dX9_loopsFrom_191 flX9_85 ki_9_39 sS_57 kk_57 rfl ?_
      refine rf_iload_n (n := 195) 3 dX9_loopsFrom_194 rfl rfl rfl ?_
      refine rf_iconst (n := 196) (-1 : Int32) dX9_loopsFrom_195 cciconst_m1 rfl ?_
      refine rf_iast (n := 197) hG dX9_loopsFrom_196 sS_81 kk_81 rfl (fun m15 => ?_)
      refine rf_iload_n (n := 198) 2 dX9_loopsFrom_197 rfl rfl rfl ?_
      refine rf_iconst (n := 199) (1 : Int32) dX9_loopsFrom_198 cciconst_1 rfl ?_
      refine rf_aload_n (n := 200) 0 dX9_loopsFrom_199 rfl rfl rfl ?_
      refine rf_getR (n := 203) rr_57_15 kk_71 hG dX9_loopsFrom_200 flX9_50 ki_9_15 sS_57 kk_57 rfl ?_
      refine rf_iload (n := 205) 5 dX9_loopsFrom_203 rfl rfl ?_
      refine rf_iald (n := 206) hG dX9_loopsFrom_205 sS_71 kk_71 rfl (fun v16 => ?_)
      refine rf_ishl (n := 207) dX9_loopsFrom_206 rfl ?_
      refine rf_ior (n := 208) dX9_loopsFrom_207 rfl ?_
      refine rf_letI (fun v17 => ?_)
      refine rf_istore_n (lc2 := [some (.ref 57), some (.int l1), some (.int v17), some (.int l3), some (.int l4), some (.int l5)]) (n := 209) 2 dX9_loopsFrom_208 rfl rfl (Nat.le_of_ble_eq_true rfl) rfl rfl ?_
      refine rf_iinc (lc2 := [some (.ref 57), some (.int l1), some (.int v17), some (.int (l3 + (1 : Int32))), some (.int l4), some (.int l5)]) (n := 212) (w := (1 : Int32)) 3 dX9_loopsFrom_209 rfl rfl rfl (Nat.le_of_ble_eq_true rfl) rfl rfl ?_
      refine rf_mask (lc2 := [some (.ref 57), some (.int l1), some (.int v17), some (.int (l3 + (1 : Int32))), none, none]) [true, true, true, true, false, false] rfl ?_
      exact pX9_loopsFrom_K212 hG _ _ _ r20 hr20 _
    · refine rf_aload_n (n := 170) 0 dX9_loopsFrom_169 rfl rfl rfl ?_
      refine rf_iload_n (n := 171) 3 dX9_loopsFrom_170 rfl rfl rfl ?_
      refine rf_cV1V (n := 174) hG (okX9_tellsLoop _ _) lVX9_353 hhX9_tellsLoop kk_57 sS_57 ⟨_, rfl, rfl⟩ dX9_loopsFrom_171 rfl (Nat.le_of_ble_eq_true rfl) (Nat.le_of_ble_eq_true rfl) (fun _ m19 => ?_)
      refine rf_goto (tg := 212) dX9_loopsFrom_174 rfl ?_
      refine rf_mask (lc2 := [some (.ref 57), some (.int l1), some (.int l2), some (.int l3), none, none]) [true, true, true, true, false, false] rfl ?_
      exact pX9_loopsFrom_K212 hG _ _ _ r20 hr20 _
  · refine rf_iload_n (n := 144) 2 dX9_loopsFrom_143 rfl rfl rfl ?_
    refine rf_iconst (n := 145) (1 : Int32) dX9_loopsFrom_144 cciconst_1 rfl ?_
    refine rf_iload (n := 147) 4 dX9_loopsFrom_145 rfl rfl ?_
    refine rf_ishl (n := 148) dX9_loopsFrom_147 rfl ?_
    refine rf_iconst (n := 149) (-1 : Int32) dX9_loopsFrom_148 cciconst_m1 rfl ?_
    refine rf_ixor (n := 150) dX9_loopsFrom_149 rfl ?_
    refine rf_iand (n := 151) dX9_loopsFrom_150 rfl ?_
    refine rf_letI (fun v21 => ?_)
    refine rf_istore_n (lc2 := [some (.ref 57), some (.int l1), some (.int v21), some (.int l3), some (.int l4), some (.int l5)]) (n := 152) 2 dX9_loopsFrom_151 rfl rfl (Nat.le_of_ble_eq_true rfl) rfl rfl ?_
    refine rf_iinc (lc2 := [some (.ref 57), some (.int l1), some (.int v21), some (.int (l3 + (-1 : Int32))), some (.int l4), some (.int l5)]) (n := 155) (w := (-1 : Int32)) 3 dX9_loopsFrom_152 rfl rfl rfl (Nat.le_of_ble_eq_true rfl) rfl rfl ?_
    refine rf_goto (tg := 212) dX9_loopsFrom_155 rfl ?_
    refine rf_mask (lc2 := [some (.ref 57), some (.int l1), some (.int v21), some (.int (l3 + (-1 : Int32))), none, none]) [true, true, true, true, false, false] rfl ?_
    exact pX9_loopsFrom_K212 hG _ _ _ r20 hr20 _
def fX9_loopsFrom_K118 (l1 : Int32) (l2 : Int32) (l3 : Int32) (l4 : Int32) (l5 : Int32) (r46 : Int32 → ax_M → Option (Unit × ax_M)) (μ : ax_M) : Option (Unit × ax_M) :=
  (r46 (l5 + (1 : Int32)) μ)
theorem pX9_loopsFrom_K118 {x : ax_X} {G : ax_G} (hG : ax_ok G) (l1 : Int32) (l2 : Int32) (l3 : Int32) (l4 : Int32) (l5 : Int32) (r46 : Int32 → ax_M → Option (Unit × ax_M)) (hr46 : ∀ (a5 : Int32) (μ : ax_M), ax_Rf mX9_loopsFrom 2 x (ax_Z ax_jV x G) G 0 0 46 [some (.ref 57), some (.int l1), some (.int l2), some (.int l3), some (.int l4), some (.int a5)] [] μ (r46 a5 μ)) (μ : ax_M) : ax_Rf mX9_loopsFrom 2 x (ax_Z ax_jV x G) G 0 0 118 [some (.ref 57), some (.int l1), some (.int l2), some (.int l3), some (.int l4), some (.int l5)] [] μ (fX9_loopsFrom_K118 l1 l2 l3 l4 l5 r46 μ) := by
  unfold fX9_loopsFrom_K118
  refine rf_iinc (lc2 := [some (.ref 57), some (.int l1), some (.int l2), some (.int l3), some (.int l4), some (.int (l5 + (1 : Int32)))]) (n := 121) (w := (1 : Int32)) 5 dX9_loopsFrom_118 rfl rfl rfl (Nat.le_of_ble_eq_true rfl) rfl rfl ?_
  refine rf_goto (tg := 46) dX9_loopsFrom_121 rfl ?_
  exact hr46 _ _
def fX9_loopsFrom_B46 (l1 : Int32) (l2 : Int32) (l3 : Int32) (l4 : Int32) (r20 : Int32 → Int32 → ax_M → Option (Unit × ax_M)) (r46 : Int32 → ax_M → Option (Unit × ax_M)) (l5 : Int32) (μ : ax_M) : Option (Unit × ax_M) :=
  (ax_bd (fX9_paths μ) (fun v7 m8 => (if v7 ≤ l5 then (fX9_loopsFrom_K124 l1 l2 l3 l4 l5 r20 m8) else (Option.bind (ax_rd m8 70 48 l5) (fun v23 => (if v23 = l4 then (Option.bind (ax_rd m8 71 48 l5) (fun v24 => (ax_bd (fX9_isFlop v24 m8) (fun v25 m26 => (if v25 = 0 then (Option.bind (ax_rd m26 71 48 l5) (fun v27 => (if v27 < l1 then (fX9_loopsFrom_K118 l1 l2 l3 l4 l5 r46 m26) else (Option.bind (ax_rd m26 71 48 l5) (fun v28 => (if v28 = l1 then (fX9_loopsFrom_K124 l1 l2 l3 l4 l5 r20 m26) else (Option.bind (ax_rd m26 71 48 l5) (fun v29 => (if ((l2 >>> (v29 &&& 31)) &&& (1 : Int32)) = (1 : Int32) then (fX9_loopsFrom_K118 l1 l2 l3 l4 l5 r46 m26) else (fX9_loopsFrom_K124 l1 l2 l3 l4 l5 r20 m26)))))))))) else (fX9_loopsFrom_K118 l1 l2 l3 l4 l5 r46 m26)))))) else (fX9_loopsFrom_K118 l1 l2 l3 l4 l5 r46 m8)))))))
theorem pX9_loopsFrom_B46 {x : ax_X} {G : ax_G} (hG : ax_ok G) (l1 : Int32) (l2 : Int32) (l3 : Int32) (l4 : Int32) (r20 : Int32 → Int32 → ax_M → Option (Unit × ax_M)) (hr20 : ∀ (a2 : Int32) (a3 : Int32) (μ : ax_M), ax_Rf mX9_loopsFrom 2 x (ax_Z ax_jV x G) G 0 0 20 [some (.ref 57), some (.int l1), some (.int a2), some (.int a3), none, none] [] μ (r20 a2 a3 μ)) (r46 : Int32 → ax_M → Option (Unit × ax_M)) (hr46 : ∀ (a5 : Int32) (μ : ax_M), ax_Rf mX9_loopsFrom 2 x (ax_Z ax_jV x G) G 0 0 46 [some (.ref 57), some (.int l1), some (.int l2), some (.int l3), some (.int l4), some (.int a5)] [] μ (r46 a5 μ)) (l5 : Int32) (μ : ax_M) : ax_Rf mX9_loopsFrom 2 x (ax_Z ax_jV x G) G 0 0 46 [some (.ref 57), some (.int l1), some (.int l2), some (.int l3), some (.int l4), some (.int l5)] [] μ (fX9_loopsFrom_B46 l1 l2 l3 l4 r20 r46 l5 μ) := by
  unfold fX9_loopsFrom_B46
  refine rf_iload (n := 48) 5 dX9_loopsFrom_46 rfl rfl ?_
  refine rf_aload_n (n := 49) 0 dX9_loopsFrom_48 rfl rfl rfl ?_
  refine rf_cV0I (n := 52) hG (okX9_paths _) lVX9_236 hhX9_paths kk_57 sS_57 ⟨_, rfl, rfl⟩ dX9_loopsFrom_49 rfl (Nat.le_of_ble_eq_true rfl) (Nat.le_of_ble_eq_true rfl) (fun v7 m8 => ?_)
  refine rf_icmp_ge (tg := 124) (n := 55) dX9_loopsFrom_52 rfl rfl (fun c35 => ?_) (fun c35 => ?_)
  · exact pX9_loopsFrom_K124 hG _ _ _ _ _ r20 hr20 _
  · refine rf_aload_n (n := 56) 0 dX9_loopsFrom_55 rfl rfl rfl ?_
    refine rf_getR (n := 59) rr_57_14 kk_70 hG dX9_loopsFrom_56 flX9_47 ki_9_14 sS_57 kk_57 rfl ?_
    refine rf_iload (n := 61) 5 dX9_loopsFrom_59 rfl rfl ?_
    refine rf_iald (n := 62) hG dX9_loopsFrom_61 sS_70 kk_70 rfl (fun v23 => ?_)
    refine rf_iload (n := 64) 4 dX9_loopsFrom_62 rfl rfl ?_
    refine rf_icmp_ne (tg := 118) (n := 67) dX9_loopsFrom_64 rfl rfl (fun c34 => ?_) (fun c34 => ?_)
    · exact pX9_loopsFrom_K118 hG _ _ _ _ _ r46 hr46 _
    · refine rf_aload_n (n := 68) 0 dX9_loopsFrom_67 rfl rfl rfl ?_
      refine rf_aload_n (n := 69) 0 dX9_loopsFrom_68 rfl rfl rfl ?_
      refine rf_getR (n := 72) rr_57_15 kk_71 hG dX9_loopsFrom_69 flX9_50 ki_9_15 sS_57 kk_57 rfl ?_
      refine rf_iload (n := 74) 5 dX9_loopsFrom_72 rfl rfl ?_
      refine rf_iald (n := 75) hG dX9_loopsFrom_74 sS_71 kk_71 rfl (fun v24 => ?_)
      refine rf_cV1I (n := 78) hG (okX9_isFlop _ _) lVX9_281 hhX9_isFlop kk_57 sS_57 ⟨_, rfl, rfl⟩ dX9_loopsFrom_75 rfl (Nat.le_of_ble_eq_true rfl) (Nat.le_of_ble_eq_true rfl) (fun v25 m26 => ?_)
      refine rf_if_ne (tg := 118) (n := 81) dX9_loopsFrom_78 rfl rfl (fun c33 => ?_) (fun c33 => ?_)
      · exact pX9_loopsFrom_K118 hG _ _ _ _ _ r46 hr46 _
      · refine rf_aload_n (n := 82) 0 dX9_loopsFrom_81 rfl rfl rfl ?_
        refine rf_getR (n := 85) rr_57_15 kk_71 hG dX9_loopsFrom_82 flX9_50 ki_9_15 sS_57 kk_57 rfl ?_
        refine rf_iload (n := 87) 5 dX9_loopsFrom_85 rfl rfl ?_
        refine rf_iald (n := 88) hG dX9_loopsFrom_87 sS_71 kk_71 rfl (fun v27 => ?_)
        refine rf_iload_n (n := 89) 1 dX9_loopsFrom_88 rfl rfl rfl ?_
        refine rf_icmp_lt (tg := 118) (n := 92) dX9_loopsFrom_89 rfl rfl (fun c32 => ?_) (fun c32 => ?_)
        · exact pX9_loopsFrom_K118 hG _ _ _ _ _ r46 hr46 _
        · refine rf_aload_n (n := 93) 0 dX9_loopsFrom_92 rfl rfl rfl ?_
          refine rf_getR (n := 96) rr_57_15 kk_71 hG dX9_loopsFrom_93 flX9_50 ki_9_15 sS_57 kk_57 rfl ?_
          refine rf_iload (n := 98) 5 dX9_loopsFrom_96 rfl rfl ?_
          refine rf_iald (n := 99) hG dX9_loopsFrom_98 sS_71 kk_71 rfl (fun v28 => ?_)
          refine rf_iload_n (n := 100) 1 dX9_loopsFrom_99 rfl rfl rfl ?_
          refine rf_icmp_eq (tg := 124) (n := 103) dX9_loopsFrom_100 rfl rfl (fun c31 => ?_) (fun c31 => ?_)
          · exact pX9_loopsFrom_K124 hG _ _ _ _ _ r20 hr20 _
          · refine rf_iload_n (n := 104) 2 dX9_loopsFrom_103 rfl rfl rfl ?_
            refine rf_aload_n (n := 105) 0 dX9_loopsFrom_104 rfl rfl rfl ?_
            refine rf_getR (n := 108) rr_57_15 kk_71 hG dX9_loopsFrom_105 flX9_50 ki_9_15 sS_57 kk_57 rfl ?_
            refine rf_iload (n := 110) 5 dX9_loopsFrom_108 rfl rfl ?_
            refine rf_iald (n := 111) hG dX9_loopsFrom_110 sS_71 kk_71 rfl (fun v29 => ?_)
            refine rf_ishr (n := 112) dX9_loopsFrom_111 rfl ?_
            refine rf_iconst (n := 113) (1 : Int32) dX9_loopsFrom_112 cciconst_1 rfl ?_
            refine rf_iand (n := 114) dX9_loopsFrom_113 rfl ?_
            refine rf_iconst (n := 115) (1 : Int32) dX9_loopsFrom_114 cciconst_1 rfl ?_
            refine rf_icmp_ne (tg := 124) (n := 118) dX9_loopsFrom_115 rfl rfl (fun c30 => ?_) (fun c30 => ?_)
            · exact pX9_loopsFrom_K124 hG _ _ _ _ _ r20 hr20 _
            · exact pX9_loopsFrom_K118 hG _ _ _ _ _ r46 hr46 _
theorem pX9_loopsFrom_L46 {x : ax_X} {G : ax_G} (hG : ax_ok G) (l1 : Int32) (l2 : Int32) (l3 : Int32) (l4 : Int32) (r20 : Int32 → Int32 → ax_M → Option (Unit × ax_M)) (hr20 : ∀ (a2 : Int32) (a3 : Int32) (μ : ax_M), ax_Rf mX9_loopsFrom 2 x (ax_Z ax_jV x G) G 0 0 20 [some (.ref 57), some (.int l1), some (.int a2), some (.int a3), none, none] [] μ (r20 a2 a3 μ)) (n : Nat) (a5 : Int32) (μ : ax_M) : ax_Rf mX9_loopsFrom 2 x (ax_Z ax_jV x G) G 0 0 46 [some (.ref 57), some (.int l1), some (.int l2), some (.int l3), some (.int l4), some (.int a5)] [] μ (ax_lp1 (fX9_loopsFrom_B46 l1 l2 l3 l4 r20) n a5 μ) :=
  rf_lp1 (P := fun a5 μ t => ax_Rf mX9_loopsFrom 2 x (ax_Z ax_jV x G) G 0 0 46 [some (.ref 57), some (.int l1), some (.int l2), some (.int l3), some (.int l4), some (.int a5)] [] μ t) (fun _ _ => rf_none) (fun rc hrc a5 μ => pX9_loopsFrom_B46 hG l1 l2 l3 l4 r20 hr20 rc hrc a5 μ) n a5 μ
def fX9_loopsFrom_B20 (l1 : Int32) (r20 : Int32 → Int32 → ax_M → Option (Unit × ax_M)) (l2 : Int32) (l3 : Int32) (μ : ax_M) : Option (Unit × ax_M) :=
  (if l3 ≤ 0 then (some ((), μ)) else (Option.bind (ax_rd μ 80 10 (l3 - (1 : Int32))) (fun v4 => (Option.bind (ax_rd μ 81 10 (l3 - (1 : Int32))) (fun v5 => (ax_let (v5 + (1 : Int32)) (fun v6 => (ax_lp1 (fX9_loopsFrom_B46 l1 l2 l3 v4 r20) ax_FU v6 μ))))))))
theorem pX9_loopsFrom_B20 {x : ax_X} {G : ax_G} (hG : ax_ok G) (l1 : Int32) (r20 : Int32 → Int32 → ax_M → Option (Unit × ax_M)) (hr20 : ∀ (a2 : Int32) (a3 : Int32) (μ : ax_M), ax_Rf mX9_loopsFrom 2 x (ax_Z ax_jV x G) G 0 0 20 [some (.ref 57), some (.int l1), some (.int a2), some (.int a3), none, none] [] μ (r20 a2 a3 μ)) (l2 : Int32) (l3 : Int32) (μ : ax_M) : ax_Rf mX9_loopsFrom 2 x (ax_Z ax_jV x G) G 0 0 20 [some (.ref 57), some (.int l1), some (.int l2), some (.int l3), none, none] [] μ (fX9_loopsFrom_B20 l1 r20 l2 l3 μ) := by
  unfold fX9_loopsFrom_B20
  refine rf_iload_n (n := 21) 3 dX9_loopsFrom_20 rfl rfl rfl ?_
  refine rf_if_le (tg := 215) (n := 24) dX9_loopsFrom_21 rfl rfl (fun c36 => ?_) (fun c36 => ?_)
  · exact rf_retV rfl dX9_loopsFrom_215
  · refine rf_aload_n (n := 25) 0 dX9_loopsFrom_24 rfl rfl rfl ?_
    refine rf_getR (n := 28) rr_57_38 kk_80 hG dX9_loopsFrom_25 flX9_82 ki_9_38 sS_57 kk_57 rfl ?_
    refine rf_iload_n (n := 29) 3 dX9_loopsFrom_28 rfl rfl rfl ?_
    refine rf_iconst (n := 30) (1 : Int32) dX9_loopsFrom_29 cciconst_1 rfl ?_
    refine rf_isub (n := 31) dX9_loopsFrom_30 rfl ?_
    refine rf_iald (n := 32) hG dX9_loopsFrom_31 sS_80 kk_80 rfl (fun v4 => ?_)
    refine rf_istore (lc2 := [some (.ref 57), some (.int l1), some (.int l2), some (.int l3), some (.int v4), none]) (n := 34) 4 dX9_loopsFrom_32 rfl (Nat.le_of_ble_eq_true rfl) rfl rfl ?_
    refine rf_aload_n (n := 35) 0 dX9_loopsFrom_34 rfl rfl rfl ?_
    refine rf_getR (n := 38) rr_57_39 kk_81 hG dX9_loopsFrom_35 flX9_85 ki_9_39 sS_57 kk_57 rfl ?_
    refine rf_iload_n (n := 39) 3 dX9_loopsFrom_38 rfl rfl rfl ?_
    refine rf_iconst (n := 40) (1 : Int32) dX9_loopsFrom_39 cciconst_1 rfl ?_
    refine rf_isub (n := 41) dX9_loopsFrom_40 rfl ?_
    refine rf_iald (n := 42) hG dX9_loopsFrom_41 sS_81 kk_81 rfl (fun v5 => ?_)
    refine rf_iconst (n := 43) (1 : Int32) dX9_loopsFrom_42 cciconst_1 rfl ?_
    refine rf_iadd (n := 44) dX9_loopsFrom_43 rfl ?_
    refine rf_letI (fun v6 => ?_)
    refine rf_istore (lc2 := [some (.ref 57), some (.int l1), some (.int l2), some (.int l3), some (.int v4), some (.int v6)]) (n := 46) 5 dX9_loopsFrom_44 rfl (Nat.le_of_ble_eq_true rfl) rfl rfl ?_
    exact pX9_loopsFrom_L46 hG _ _ _ _ r20 hr20 _ _ _
theorem pX9_loopsFrom_L20 {x : ax_X} {G : ax_G} (hG : ax_ok G) (l1 : Int32) (n : Nat) (a2 : Int32) (a3 : Int32) (μ : ax_M) : ax_Rf mX9_loopsFrom 2 x (ax_Z ax_jV x G) G 0 0 20 [some (.ref 57), some (.int l1), some (.int a2), some (.int a3), none, none] [] μ (ax_lp2 (fX9_loopsFrom_B20 l1) n a2 a3 μ) :=
  rf_lp2 (P := fun a2 a3 μ t => ax_Rf mX9_loopsFrom 2 x (ax_Z ax_jV x G) G 0 0 20 [some (.ref 57), some (.int l1), some (.int a2), some (.int a3), none, none] [] μ t) (fun _ _ _ => rf_none) (fun rc hrc a2 a3 μ => pX9_loopsFrom_B20 hG l1 rc hrc a2 a3 μ) n a2 a3 μ
def fX9_loopsFrom (p1 : Int32) (μ : ax_M) : Option (Unit × ax_M) :=
  (ax_let ((1 : Int32) <<< (p1 &&& 31)) (fun v1 => (Option.bind (ax_wr μ 80 10 (0 : Int32) p1) (fun m2 => (Option.bind (ax_wr m2 81 10 (0 : Int32) (-1 : Int32)) (fun m3 => (ax_lp2 (fX9_loopsFrom_B20 p1) ax_FU v1 (1 : Int32) m3)))))))
theorem okX9_loopsFrom (p1 : Int32) (μ : ax_M) : ax_Ok mX9_loopsFrom 2 ax_jV [.ref 57, .int p1] μ (fX9_loopsFrom p1 μ) := by
  refine ax_start (lc := [some (.ref 57), some (.int p1), none, none, none, none]) 4 (by decide +kernel) rfl (Nat.le_of_ble_eq_true rfl) (fun x G hG => ?_)
  unfold fX9_loopsFrom
  refine rf_iconst (n := 1) (1 : Int32) dX9_loopsFrom_0 cciconst_1 rfl ?_
  refine rf_iload_n (n := 2) 1 dX9_loopsFrom_1 rfl rfl rfl ?_
  refine rf_ishl (n := 3) dX9_loopsFrom_2 rfl ?_
  refine rf_letI (fun v1 => ?_)
  refine rf_istore_n (lc2 := [some (.ref 57), some (.int p1), some (.int v1), none, none, none]) (n := 4) 2 dX9_loopsFrom_3 rfl rfl (Nat.le_of_ble_eq_true rfl) rfl rfl ?_
  refine rf_iconst (n := 5) (1 : Int32) dX9_loopsFrom_4 cciconst_1 rfl ?_
  refine rf_istore_n (lc2 := [some (.ref 57), some (.int p1), some (.int v1), some (.int (1 : Int32)), none, none]) (n := 6) 3 dX9_loopsFrom_5 rfl rfl (Nat.le_of_ble_eq_true rfl) rfl rfl ?_
  refine rf_aload_n (n := 7) 0 dX9_loopsFrom_6 rfl rfl rfl ?_
  refine rf_getR (n := 10) rr_57_38 kk_80 hG dX9_loopsFrom_7 flX9_82 ki_9_38 sS_57 kk_57 rfl ?_
  refine rf_iconst (n := 11) (0 : Int32) dX9_loopsFrom_10 cciconst_0 rfl ?_
  refine rf_iload_n (n := 12) 1 dX9_loopsFrom_11 rfl rfl rfl ?_
  refine rf_iast (n := 13) hG dX9_loopsFrom_12 sS_80 kk_80 rfl (fun m2 => ?_)
  refine rf_aload_n (n := 14) 0 dX9_loopsFrom_13 rfl rfl rfl ?_
  refine rf_getR (n := 17) rr_57_39 kk_81 hG dX9_loopsFrom_14 flX9_85 ki_9_39 sS_57 kk_57 rfl ?_
  refine rf_iconst (n := 18) (0 : Int32) dX9_loopsFrom_17 cciconst_0 rfl ?_
  refine rf_iconst (n := 19) (-1 : Int32) dX9_loopsFrom_18 cciconst_m1 rfl ?_
  refine rf_iast (n := 20) hG dX9_loopsFrom_19 sS_81 kk_81 rfl (fun m3 => ?_)
  exact pX9_loopsFrom_L20 hG _ _ _ _ _
def fX9_laysLoops_K38 (l1 : Int32) (r17 : Int32 → ax_M → Option (Unit × ax_M)) (μ : ax_M) : Option (Unit × ax_M) :=
  (r17 (l1 + (1 : Int32)) μ)
theorem pX9_laysLoops_K38 {x : ax_X} {G : ax_G} (hG : ax_ok G) (l1 : Int32) (r17 : Int32 → ax_M → Option (Unit × ax_M)) (hr17 : ∀ (a1 : Int32) (μ : ax_M), ax_Rf mX9_laysLoops 3 x (ax_Z ax_jV x G) G 0 0 17 [some (.ref 57), some (.int a1)] [] μ (r17 a1 μ)) (μ : ax_M) : ax_Rf mX9_laysLoops 3 x (ax_Z ax_jV x G) G 0 0 38 [some (.ref 57), some (.int l1)] [] μ (fX9_laysLoops_K38 l1 r17 μ) := by
  unfold fX9_laysLoops_K38
  refine rf_iinc (lc2 := [some (.ref 57), some (.int (l1 + (1 : Int32)))]) (n := 41) (w := (1 : Int32)) 1 dX9_laysLoops_38 rfl rfl rfl (Nat.le_of_ble_eq_true rfl) rfl rfl ?_
  refine rf_goto (tg := 17) dX9_laysLoops_41 rfl ?_
  exact hr17 _ _
def fX9_laysLoops_B17 (r17 : Int32 → ax_M → Option (Unit × ax_M)) (l1 : Int32) (μ : ax_M) : Option (Unit × ax_M) :=
  (ax_bd (fX9_cells μ) (fun v4 m5 => (if v4 ≤ l1 then (some ((), m5)) else (ax_bd (fX9_isFlop l1 m5) (fun v6 m7 => (if v6 = 0 then (ax_bd (fX9_loopsFrom l1 m7) (fun _ m9 => (fX9_laysLoops_K38 l1 r17 m9))) else (fX9_laysLoops_K38 l1 r17 m7)))))))
theorem pX9_laysLoops_B17 {x : ax_X} {G : ax_G} (hG : ax_ok G) (r17 : Int32 → ax_M → Option (Unit × ax_M)) (hr17 : ∀ (a1 : Int32) (μ : ax_M), ax_Rf mX9_laysLoops 3 x (ax_Z ax_jV x G) G 0 0 17 [some (.ref 57), some (.int a1)] [] μ (r17 a1 μ)) (l1 : Int32) (μ : ax_M) : ax_Rf mX9_laysLoops 3 x (ax_Z ax_jV x G) G 0 0 17 [some (.ref 57), some (.int l1)] [] μ (fX9_laysLoops_B17 r17 l1 μ) := by
  unfold fX9_laysLoops_B17
  refine rf_iload_n (n := 18) 1 dX9_laysLoops_17 rfl rfl rfl ?_
  refine rf_aload_n (n := 19) 0 dX9_laysLoops_18 rfl rfl rfl ?_
  refine rf_cV0I (n := 22) hG (okX9_cells _) lVX9_233 hhX9_cells kk_57 sS_57 ⟨_, rfl, rfl⟩ dX9_laysLoops_19 rfl (Nat.le_of_ble_eq_true rfl) (Nat.le_of_ble_eq_true rfl) (fun v4 m5 => ?_)
  refine rf_icmp_ge (tg := 44) (n := 25) dX9_laysLoops_22 rfl rfl (fun c11 => ?_) (fun c11 => ?_)
  · exact rf_retV rfl dX9_laysLoops_44
  · refine rf_aload_n (n := 26) 0 dX9_laysLoops_25 rfl rfl rfl ?_
    refine rf_iload_n (n := 27) 1 dX9_laysLoops_26 rfl rfl rfl ?_
    refine rf_cV1I (n := 30) hG (okX9_isFlop _ _) lVX9_281 hhX9_isFlop kk_57 sS_57 ⟨_, rfl, rfl⟩ dX9_laysLoops_27 rfl (Nat.le_of_ble_eq_true rfl) (Nat.le_of_ble_eq_true rfl) (fun v6 m7 => ?_)
    refine rf_if_ne (tg := 38) (n := 33) dX9_laysLoops_30 rfl rfl (fun c10 => ?_) (fun c10 => ?_)
    · exact pX9_laysLoops_K38 hG _ r17 hr17 _
    · refine rf_aload_n (n := 34) 0 dX9_laysLoops_33 rfl rfl rfl ?_
      refine rf_iload_n (n := 35) 1 dX9_laysLoops_34 rfl rfl rfl ?_
      refine rf_cV1V (n := 38) hG (okX9_loopsFrom _ _) lVX9_356 hhX9_loopsFrom kk_57 sS_57 ⟨_, rfl, rfl⟩ dX9_laysLoops_35 rfl (Nat.le_of_ble_eq_true rfl) (Nat.le_of_ble_eq_true rfl) (fun _ m9 => ?_)
      exact pX9_laysLoops_K38 hG _ r17 hr17 _
theorem pX9_laysLoops_L17 {x : ax_X} {G : ax_G} (hG : ax_ok G) (n : Nat) (a1 : Int32) (μ : ax_M) : ax_Rf mX9_laysLoops 3 x (ax_Z ax_jV x G) G 0 0 17 [some (.ref 57), some (.int a1)] [] μ (ax_lp1 (fX9_laysLoops_B17) n a1 μ) :=
  rf_lp1 (P := fun a1 μ t => ax_Rf mX9_laysLoops 3 x (ax_Z ax_jV x G) G 0 0 17 [some (.ref 57), some (.int a1)] [] μ t) (fun _ _ => rf_none) (fun rc hrc a1 μ => pX9_laysLoops_B17 hG rc hrc a1 μ) n a1 μ
def fX9_laysLoops (μ : ax_M) : Option (Unit × ax_M) :=
  (ax_let (ax_wi μ 57 41 (0 : Int32)) (fun m1 => (ax_let (ax_wl m1 57 42 (0 : Int64)) (fun m2 => (ax_let (ax_wl m2 57 43 (1 : Int64)) (fun m3 => (ax_lp1 (fX9_laysLoops_B17) ax_FU (0 : Int32) m3)))))))
theorem okX9_laysLoops (μ : ax_M) : ax_Ok mX9_laysLoops 3 ax_jV [.ref 57] μ (fX9_laysLoops μ) := by
  refine ax_start (lc := [some (.ref 57), none]) 1 (by decide +kernel) rfl (Nat.le_of_ble_eq_true rfl) (fun x G hG => ?_)
  unfold fX9_laysLoops
  refine rf_aload_n (n := 1) 0 dX9_laysLoops_0 rfl rfl rfl ?_
  refine rf_iconst (n := 2) (0 : Int32) dX9_laysLoops_1 cciconst_0 rfl ?_
  refine rf_pfI (n := 5) hG rfl dX9_laysLoops_2 flX9_340 ki_9_41 nf_9_41 sS_57 kk_57 rfl (fun m1 => ?_)
  refine rf_aload_n (n := 6) 0 dX9_laysLoops_5 rfl rfl rfl ?_
  refine rf_lconst (n := 7) (0 : Int64) dX9_laysLoops_6 rfl rfl ?_
  refine rf_pfL (n := 10) hG rfl dX9_laysLoops_7 flX9_347 ki_9_42 nf_9_42 sS_57 kk_57 rfl (fun m2 => ?_)
  refine rf_aload_n (n := 11) 0 dX9_laysLoops_10 rfl rfl rfl ?_
  refine rf_lconst (n := 12) (1 : Int64) dX9_laysLoops_11 rfl rfl ?_
  refine rf_pfL (n := 15) hG rfl dX9_laysLoops_12 flX9_343 ki_9_43 nf_9_43 sS_57 kk_57 rfl (fun m3 => ?_)
  refine rf_iconst (n := 16) (0 : Int32) dX9_laysLoops_15 cciconst_0 rfl ?_
  refine rf_istore_n (lc2 := [some (.ref 57), some (.int (0 : Int32))]) (n := 17) 1 dX9_laysLoops_16 rfl rfl (Nat.le_of_ble_eq_true rfl) rfl rfl ?_
  exact pX9_laysLoops_L17 hG _ _ _
def fX9_divisor_B6 (r6 : Int64 → Int64 → ax_M → Option (Int64 × ax_M)) (l4 : Int64) (l6 : Int64) (μ : ax_M) : Option (Int64 × ax_M) :=
  (if (lg_cmp l6 (0 : Int64)) = 0 then (some (l4, μ)) else (Option.bind (ax_ml l4 l6) (fun v1 => (r6 l6 v1 μ))))
theorem pX9_divisor_B6 {x : ax_X} {G : ax_G} (hG : ax_ok G) (r6 : Int64 → Int64 → ax_M → Option (Int64 × ax_M)) (hr6 : ∀ (a4 : Int64) (a6 : Int64) (μ : ax_M), ax_Rf mX9_divisor 0 x (ax_Z ax_jL x G) G 0 0 6 [none, none, none, none, some (.long a4), none, some (.long a6), none, none, none] [] μ (r6 a4 a6 μ)) (l4 : Int64) (l6 : Int64) (μ : ax_M) : ax_Rf mX9_divisor 0 x (ax_Z ax_jL x G) G 0 0 6 [none, none, none, none, some (.long l4), none, some (.long l6), none, none, none] [] μ (fX9_divisor_B6 r6 l4 l6 μ) := by
  unfold fX9_divisor_B6
  refine rf_lload (n := 8) 6 dX9_divisor_6 rfl rfl ?_
  refine rf_lconst (n := 9) (0 : Int64) dX9_divisor_8 rfl rfl ?_
  refine rf_lcmp (n := 10) dX9_divisor_9 rfl ?_
  refine rf_if_eq (tg := 31) (n := 13) dX9_divisor_10 rfl rfl (fun c2 => ?_) (fun c2 => ?_)
  · refine rf_lload (n := 33) 4 dX9_divisor_31 rfl rfl ?_
    exact rf_retL rfl dX9_divisor_33
  · refine rf_lload (n := 15) 4 dX9_divisor_13 rfl rfl ?_
    refine rf_lload (n := 17) 6 dX9_divisor_15 rfl rfl ?_
    refine rf_lrem (n := 18) dX9_divisor_17 rfl (fun v1 => ?_)
    refine rf_lstore (lc2 := [none, none, none, none, some (.long l4), none, some (.long l6), none, some (.long v1), none]) (n := 20) 8 dX9_divisor_18 rfl (Nat.le_of_ble_eq_true rfl) rfl rfl ?_
    refine rf_lload (n := 22) 6 dX9_divisor_20 rfl rfl ?_
    refine rf_lstore (lc2 := [none, none, none, none, some (.long l6), none, some (.long l6), none, some (.long v1), none]) (n := 24) 4 dX9_divisor_22 rfl (Nat.le_of_ble_eq_true rfl) rfl rfl ?_
    refine rf_lload (n := 26) 8 dX9_divisor_24 rfl rfl ?_
    refine rf_lstore (lc2 := [none, none, none, none, some (.long l6), none, some (.long v1), none, some (.long v1), none]) (n := 28) 6 dX9_divisor_26 rfl (Nat.le_of_ble_eq_true rfl) rfl rfl ?_
    refine rf_goto (tg := 6) dX9_divisor_28 rfl ?_
    refine rf_mask (lc2 := [none, none, none, none, some (.long l6), none, some (.long v1), none, none, none]) [true, true, true, true, true, true, true, true, false, true] rfl ?_
    exact hr6 _ _ _
theorem pX9_divisor_L6 {x : ax_X} {G : ax_G} (hG : ax_ok G) (n : Nat) (a4 : Int64) (a6 : Int64) (μ : ax_M) : ax_Rf mX9_divisor 0 x (ax_Z ax_jL x G) G 0 0 6 [none, none, none, none, some (.long a4), none, some (.long a6), none, none, none] [] μ (ax_lp2 (fX9_divisor_B6) n a4 a6 μ) :=
  rf_lp2 (P := fun a4 a6 μ t => ax_Rf mX9_divisor 0 x (ax_Z ax_jL x G) G 0 0 6 [none, none, none, none, some (.long a4), none, some (.long a6), none, none, none] [] μ t) (fun _ _ _ => rf_none) (fun rc hrc a4 a6 μ => pX9_divisor_B6 hG rc hrc a4 a6 μ) n a4 a6 μ
def fX9_divisor (p0 : Int64) (p2 : Int64) (μ : ax_M) : Option (Int64 × ax_M) :=
  (ax_lp2 (fX9_divisor_B6) ax_FU p0 p2 μ)
theorem okX9_divisor (p0 : Int64) (p2 : Int64) (μ : ax_M) : ax_Ok mX9_divisor 0 ax_jL [.long p0, .long p2] μ (fX9_divisor p0 p2 μ) := by
  refine ax_start (lc := [some (.long p0), none, some (.long p2), none, none, none, none, none, none, none]) 6 (by decide +kernel) rfl (Nat.le_of_ble_eq_true rfl) (fun x G hG => ?_)
  unfold fX9_divisor
  refine rf_lload_n (n := 1) 0 dX9_divisor_0 rfl rfl rfl ?_
  refine rf_lstore (lc2 := [some (.long p0), none, some (.long p2), none, some (.long p0), none, none, none, none, none]) (n := 3) 4 dX9_divisor_1 rfl (Nat.le_of_ble_eq_true rfl) rfl rfl ?_
  refine rf_lload_n (n := 4) 2 dX9_divisor_3 rfl rfl rfl ?_
  refine rf_lstore (lc2 := [some (.long p0), none, some (.long p2), none, some (.long p0), none, some (.long p2), none, none, none]) (n := 6) 6 dX9_divisor_4 rfl (Nat.le_of_ble_eq_true rfl) rfl rfl ?_
  refine rf_mask (lc2 := [none, none, none, none, some (.long p0), none, some (.long p2), none, none, none]) [false, true, false, true, true, true, true, true, true, true] rfl ?_
  exact pX9_divisor_L6 hG _ _ _ _
def fX9_ratio_K40 (s0 : Int64) (μ : ax_M) : Option (Int64 × ax_M) :=
  (some (s0, μ))
theorem pX9_ratio_K40 {x : ax_X} {G : ax_G} (hG : ax_ok G) (s0 : Int64) (μ : ax_M) : ax_Rf mX9_ratio 4 x (ax_Z ax_jL x G) G 0 0 40 [none, none, none, none] [.long s0] μ (fX9_ratio_K40 s0 μ) := by
  unfold fX9_ratio_K40
  exact rf_retL rfl dX9_ratio_40
def fX9_ratio (p1 : Int32) (μ : ax_M) : Option (Int64 × ax_M) :=
  (ax_let (ax_wi μ 57 0 (0 : Int32)) (fun m1 => (ax_bd (fX9_laysLoops m1) (fun _ m3 => (ax_bd (fX9_divisor (m3.2 57 42) (m3.2 57 43) m3) (fun v4 m5 => (if p1 = 0 then (Option.bind (ax_dl (m5.2 57 42) v4) (fun v6 => (fX9_ratio_K40 v6 m5))) else (Option.bind (ax_dl (m5.2 57 43) v4) (fun v7 => (fX9_ratio_K40 v7 m5))))))))))
theorem okX9_ratio (p1 : Int32) (μ : ax_M) : ax_Ok mX9_ratio 4 ax_jL [.ref 57, .int p1] μ (fX9_ratio p1 μ) := by
  refine ax_start (lc := [some (.ref 57), some (.int p1), none, none]) 2 (by decide +kernel) rfl (Nat.le_of_ble_eq_true rfl) (fun x G hG => ?_)
  unfold fX9_ratio
  refine rf_aload_n (n := 1) 0 dX9_ratio_0 rfl rfl rfl ?_
  refine rf_iconst (n := 2) (0 : Int32) dX9_ratio_1 cciconst_0 rfl ?_
  refine rf_pfI (n := 5) hG rfl dX9_ratio_2 flX9_103 ki_9_0 nf_9_0 sS_57 kk_57 rfl (fun m1 => ?_)
  refine rf_aload_n (n := 6) 0 dX9_ratio_5 rfl rfl rfl ?_
  refine rf_cV0V (n := 9) hG (okX9_laysLoops _) lVX9_359 hhX9_laysLoops kk_57 sS_57 ⟨_, rfl, rfl⟩ dX9_ratio_6 rfl (Nat.le_of_ble_eq_true rfl) (Nat.le_of_ble_eq_true rfl) (fun _ m3 => ?_)
  refine rf_aload_n (n := 10) 0 dX9_ratio_9 rfl rfl rfl ?_
  refine rf_getL (n := 13) hG dX9_ratio_10 flX9_347 ki_9_42 sS_57 kk_57 rfl ?_
  refine rf_aload_n (n := 14) 0 dX9_ratio_13 rfl rfl rfl ?_
  refine rf_getL (n := 17) hG dX9_ratio_14 flX9_343 ki_9_43 sS_57 kk_57 rfl ?_
  refine rf_cS2L (n := 20) hG (okX9_divisor _ _ _) lSX9_362 hhX9_divisor dX9_ratio_17 rfl (Nat.le_of_ble_eq_true rfl) (Nat.le_of_ble_eq_true rfl) (fun v4 m5 => ?_)
  refine rf_lstore_n (lc2 := [some (.ref 57), some (.int p1), some (.long v4), none]) (n := 21) 2 dX9_ratio_20 rfl rfl (Nat.le_of_ble_eq_true rfl) rfl rfl ?_
  refine rf_iload_n (n := 22) 1 dX9_ratio_21 rfl rfl rfl ?_
  refine rf_if_eq (tg := 34) (n := 25) dX9_ratio_22 rfl rfl (fun c8 => ?_) (fun c8 => ?_)
  · refine rf_aload_n (n := 35) 0 dX9_ratio_34 rfl rfl rfl ?_
    refine rf_getL (n := 38) hG dX9_ratio_35 flX9_347 ki_9_42 sS_57 kk_57 rfl ?_
    refine rf_lload_n (n := 39) 2 dX9_ratio_38 rfl rfl rfl ?_
    refine rf_ldiv (n := 40) dX9_ratio_39 rfl (fun v6 => ?_)
    refine rf_mask (lc2 := [none, none, none, none]) [false, false, false, true] rfl ?_
    exact pX9_ratio_K40 hG _ _
  · refine rf_aload_n (n := 26) 0 dX9_ratio_25 rfl rfl rfl ?_
    refine rf_getL (n := 29) hG dX9_ratio_26 flX9_343 ki_9_43 sS_57 kk_57 rfl ?_
    refine rf_lload_n (n := 30) 2 dX9_ratio_29 rfl rfl rfl ?_
    refine rf_ldiv (n := 31) dX9_ratio_30 rfl (fun v7 => ?_)
    refine rf_goto (tg := 40) dX9_ratio_31 rfl ?_
    refine rf_mask (lc2 := [none, none, none, none]) [false, false, false, true] rfl ?_
    exact pX9_ratio_K40 hG _ _
def fX8_loop_K38 (s0 : Int32) (μ : ax_M) : Option (Int32 × ax_M) :=
  (some (s0, μ))
theorem pX8_loop_K38 {x : ax_X} {G : ax_G} (hG : ax_ok G) (s0 : Int32) (μ : ax_M) : ax_Rf mX8_loop 16 x (ax_Z ax_jI x G) G 0 0 38 [none, none] [.int s0] μ (fX8_loop_K38 s0 μ) := by
  unfold fX8_loop_K38
  exact rf_retI rfl dX8_loop_38
def fX8_loop (p1 : Int32) (μ : ax_M) : Option (Int32 × ax_M) :=
  (if 0 ≤ p1 then (ax_bd (fX0_look μ) (fun _ m2 => (if (m2.1 41 5) ≤ p1 then (fX8_loop_K38 (-2 : Int32) m2) else (Option.bind (ax_rd m2 45 10 p1) (fun v3 => (fX8_loop_K38 v3 m2)))))) else (some ((-1 : Int32), μ)))
theorem okX8_loop (p1 : Int32) (μ : ax_M) : ax_Ok mX8_loop 16 ax_jI [.ref 0, .int p1] μ (fX8_loop p1 μ) := by
  refine ax_start (lc := [some (.ref 0), some (.int p1)]) 0 (by decide +kernel) rfl (Nat.le_of_ble_eq_true rfl) (fun x G hG => ?_)
  unfold fX8_loop
  refine rf_iload_n (n := 1) 1 dX8_loop_0 rfl rfl rfl ?_
  refine rf_if_ge (tg := 6) (n := 4) dX8_loop_1 rfl rfl (fun c5 => ?_) (fun c5 => ?_)
  · refine rf_aload_n (n := 7) 0 dX8_loop_6 rfl rfl rfl ?_
    refine rf_getR (n := 10) rr_0_7 kk_41 hG dX8_loop_7 flX8_55 ki_8_7 sS_0 kk_0 rfl ?_
    refine rf_cV0V (n := 13) hG (okX0_look _) lVX8_259 hhX0_look kk_41 sS_41 ⟨_, rfl, rfl⟩ dX8_loop_10 rfl (Nat.le_of_ble_eq_true rfl) (Nat.le_of_ble_eq_true rfl) (fun _ m2 => ?_)
    refine rf_iload_n (n := 14) 1 dX8_loop_13 rfl rfl rfl ?_
    refine rf_aload_n (n := 15) 0 dX8_loop_14 rfl rfl rfl ?_
    refine rf_getR (n := 18) rr_0_7 kk_41 hG dX8_loop_15 flX8_55 ki_8_7 sS_0 kk_0 rfl ?_
    refine rf_getI (n := 21) hG dX8_loop_18 flX8_269 ki_0_5 sS_41 kk_41 rfl ?_
    refine rf_icmp_ge (tg := 36) (n := 24) dX8_loop_21 rfl rfl (fun c4 => ?_) (fun c4 => ?_)
    · refine rf_bipush (n := 38) (-2 : Int32) dX8_loop_36 ccbipush_m2 rfl ?_
      refine rf_mask (lc2 := [none, none]) [false, false] rfl ?_
      exact pX8_loop_K38 hG _ _
    · refine rf_aload_n (n := 25) 0 dX8_loop_24 rfl rfl rfl ?_
      refine rf_getR (n := 28) rr_0_7 kk_41 hG dX8_loop_25 flX8_55 ki_8_7 sS_0 kk_0 rfl ?_
      refine rf_getR (n := 31) rr_41_4 kk_45 hG dX8_loop_28 flX8_272 ki_0_4 sS_41 kk_41 rfl ?_
      refine rf_iload_n (n := 32) 1 dX8_loop_31 rfl rfl rfl ?_
      refine rf_iald (n := 33) hG dX8_loop_32 sS_45 kk_45 rfl (fun v3 => ?_)
      refine rf_goto (tg := 38) dX8_loop_33 rfl ?_
      refine rf_mask (lc2 := [none, none]) [false, false] rfl ?_
      exact pX8_loop_K38 hG _ _
  · refine rf_iconst (n := 5) (-1 : Int32) dX8_loop_4 cciconst_m1 rfl ?_
    exact rf_retI rfl dX8_loop_5
def fX9_loop_K34 (s0 : Int32) (μ : ax_M) : Option (Int32 × ax_M) :=
  (some (s0, μ))
theorem pX9_loop_K34 {x : ax_X} {G : ax_G} (hG : ax_ok G) (s0 : Int32) (μ : ax_M) : ax_Rf mX9_loop 4 x (ax_Z ax_jI x G) G 0 0 34 [none, none] [.int s0] μ (fX9_loop_K34 s0 μ) := by
  unfold fX9_loop_K34
  exact rf_retI rfl dX9_loop_34
def fX9_loop (p1 : Int32) (μ : ax_M) : Option (Int32 × ax_M) :=
  (ax_let (ax_wi μ 57 0 (0 : Int32)) (fun m1 => (if 0 ≤ p1 then (ax_bd (fX9_laysLoops m1) (fun _ m3 => (if (m3.1 57 41) ≤ p1 then (fX9_loop_K34 (-2 : Int32) m3) else (Option.bind (ax_rd m3 82 10 p1) (fun v4 => (fX9_loop_K34 v4 m3)))))) else (some ((-1 : Int32), m1)))))
theorem okX9_loop (p1 : Int32) (μ : ax_M) : ax_Ok mX9_loop 4 ax_jI [.ref 57, .int p1] μ (fX9_loop p1 μ) := by
  refine ax_start (lc := [some (.ref 57), some (.int p1)]) 0 (by decide +kernel) rfl (Nat.le_of_ble_eq_true rfl) (fun x G hG => ?_)
  unfold fX9_loop
  refine rf_aload_n (n := 1) 0 dX9_loop_0 rfl rfl rfl ?_
  refine rf_iconst (n := 2) (0 : Int32) dX9_loop_1 cciconst_0 rfl ?_
  refine rf_pfI (n := 5) hG rfl dX9_loop_2 flX9_103 ki_9_0 nf_9_0 sS_57 kk_57 rfl (fun m1 => ?_)
  refine rf_iload_n (n := 6) 1 dX9_loop_5 rfl rfl rfl ?_
  refine rf_if_ge (tg := 11) (n := 9) dX9_loop_6 rfl rfl (fun c6 => ?_) (fun c6 => ?_)
  · refine rf_aload_n (n := 12) 0 dX9_loop_11 rfl rfl rfl ?_
    refine rf_cV0V (n := 15) hG (okX9_laysLoops _) lVX9_359 hhX9_laysLoops kk_57 sS_57 ⟨_, rfl, rfl⟩ dX9_loop_12 rfl (Nat.le_of_ble_eq_true rfl) (Nat.le_of_ble_eq_true rfl) (fun _ m3 => ?_)
    refine rf_iload_n (n := 16) 1 dX9_loop_15 rfl rfl rfl ?_
    refine rf_aload_n (n := 17) 0 dX9_loop_16 rfl rfl rfl ?_
    refine rf_getI (n := 20) hG dX9_loop_17 flX9_340 ki_9_41 sS_57 kk_57 rfl ?_
    refine rf_icmp_ge (tg := 32) (n := 23) dX9_loop_20 rfl rfl (fun c5 => ?_) (fun c5 => ?_)
    · refine rf_bipush (n := 34) (-2 : Int32) dX9_loop_32 ccbipush_m2 rfl ?_
      refine rf_mask (lc2 := [none, none]) [false, false] rfl ?_
      exact pX9_loop_K34 hG _ _
    · refine rf_aload_n (n := 24) 0 dX9_loop_23 rfl rfl rfl ?_
      refine rf_getR (n := 27) rr_57_40 kk_82 hG dX9_loop_24 flX9_88 ki_9_40 sS_57 kk_57 rfl ?_
      refine rf_iload_n (n := 28) 1 dX9_loop_27 rfl rfl rfl ?_
      refine rf_iald (n := 29) hG dX9_loop_28 sS_82 kk_82 rfl (fun v4 => ?_)
      refine rf_goto (tg := 34) dX9_loop_29 rfl ?_
      refine rf_mask (lc2 := [none, none]) [false, false] rfl ?_
      exact pX9_loop_K34 hG _ _
  · refine rf_iconst (n := 10) (-1 : Int32) dX9_loop_9 cciconst_m1 rfl ?_
    exact rf_retI rfl dX9_loop_10
def fX6_load_B2 (r2 : Int32 → ax_M → Option (Unit × ax_M)) (l1 : Int32) (μ : ax_M) : Option (Unit × ax_M) :=
  (if (μ.1 2 14) ≤ l1 then (some ((), μ)) else (ax_bd (fX1_delayOf l1 μ) (fun v1 m2 => (Option.bind (ax_wr m2 50 24 l1 v1) (fun m3 => (ax_bd (fX1_shiftOf l1 m3) (fun v4 m5 => (Option.bind (ax_wr m5 51 24 l1 v4) (fun m6 => (r2 (l1 + (1 : Int32)) m6))))))))))
theorem pX6_load_B2 {x : ax_X} {G : ax_G} (hG : ax_ok G) (r2 : Int32 → ax_M → Option (Unit × ax_M)) (hr2 : ∀ (a1 : Int32) (μ : ax_M), ax_Rf mX6_load 1 x (ax_Z ax_jV x G) G 0 0 2 [some (.ref 49), some (.int a1)] [] μ (r2 a1 μ)) (l1 : Int32) (μ : ax_M) : ax_Rf mX6_load 1 x (ax_Z ax_jV x G) G 0 0 2 [some (.ref 49), some (.int l1)] [] μ (fX6_load_B2 r2 l1 μ) := by
  unfold fX6_load_B2
  refine rf_iload_n (n := 3) 1 dX6_load_2 rfl rfl rfl ?_
  refine rf_aload_n (n := 4) 0 dX6_load_3 rfl rfl rfl ?_
  refine rf_getR (n := 7) rr_49_0 kk_2 hG dX6_load_4 flX6_33 ki_6_0 sS_49 kk_49 rfl ?_
  refine rf_getI (n := 10) hG dX6_load_7 flX6_37 ki_1_14 sS_2 kk_2 rfl ?_
  refine rf_icmp_ge (tg := 47) (n := 13) dX6_load_10 rfl rfl (fun c7 => ?_) (fun c7 => ?_)
  · exact rf_retV rfl dX6_load_47
  · refine rf_aload_n (n := 14) 0 dX6_load_13 rfl rfl rfl ?_
    refine rf_getR (n := 17) rr_49_1 kk_50 hG dX6_load_14 flX6_9 ki_6_1 sS_49 kk_49 rfl ?_
    refine rf_iload_n (n := 18) 1 dX6_load_17 rfl rfl rfl ?_
    refine rf_aload_n (n := 19) 0 dX6_load_18 rfl rfl rfl ?_
    refine rf_getR (n := 22) rr_49_0 kk_2 hG dX6_load_19 flX6_33 ki_6_0 sS_49 kk_49 rfl ?_
    refine rf_iload_n (n := 23) 1 dX6_load_22 rfl rfl rfl ?_
    refine rf_cV1I (n := 26) hG (okX1_delayOf _ _) lVX6_43 hhX1_delayOf kk_2 sS_2 ⟨_, rfl, rfl⟩ dX6_load_23 rfl (Nat.le_of_ble_eq_true rfl) (Nat.le_of_ble_eq_true rfl) (fun v1 m2 => ?_)
    refine rf_iast (n := 27) hG dX6_load_26 sS_50 kk_50 rfl (fun m3 => ?_)
    refine rf_aload_n (n := 28) 0 dX6_load_27 rfl rfl rfl ?_
    refine rf_getR (n := 31) rr_49_2 kk_51 hG dX6_load_28 flX6_15 ki_6_2 sS_49 kk_49 rfl ?_
    refine rf_iload_n (n := 32) 1 dX6_load_31 rfl rfl rfl ?_
    refine rf_aload_n (n := 33) 0 dX6_load_32 rfl rfl rfl ?_
    refine rf_getR (n := 36) rr_49_0 kk_2 hG dX6_load_33 flX6_33 ki_6_0 sS_49 kk_49 rfl ?_
    refine rf_iload_n (n := 37) 1 dX6_load_36 rfl rfl rfl ?_
    refine rf_cV1I (n := 40) hG (okX1_shiftOf _ _) lVX6_47 hhX1_shiftOf kk_2 sS_2 ⟨_, rfl, rfl⟩ dX6_load_37 rfl (Nat.le_of_ble_eq_true rfl) (Nat.le_of_ble_eq_true rfl) (fun v4 m5 => ?_)
    refine rf_iast (n := 41) hG dX6_load_40 sS_51 kk_51 rfl (fun m6 => ?_)
    refine rf_iinc (lc2 := [some (.ref 49), some (.int (l1 + (1 : Int32)))]) (n := 44) (w := (1 : Int32)) 1 dX6_load_41 rfl rfl rfl (Nat.le_of_ble_eq_true rfl) rfl rfl ?_
    refine rf_goto (tg := 2) dX6_load_44 rfl ?_
    exact hr2 _ _
theorem pX6_load_L2 {x : ax_X} {G : ax_G} (hG : ax_ok G) (n : Nat) (a1 : Int32) (μ : ax_M) : ax_Rf mX6_load 1 x (ax_Z ax_jV x G) G 0 0 2 [some (.ref 49), some (.int a1)] [] μ (ax_lp1 (fX6_load_B2) n a1 μ) :=
  rf_lp1 (P := fun a1 μ t => ax_Rf mX6_load 1 x (ax_Z ax_jV x G) G 0 0 2 [some (.ref 49), some (.int a1)] [] μ t) (fun _ _ => rf_none) (fun rc hrc a1 μ => pX6_load_B2 hG rc hrc a1 μ) n a1 μ
def fX6_load (μ : ax_M) : Option (Unit × ax_M) :=
  (ax_lp1 (fX6_load_B2) ax_FU (0 : Int32) μ)
theorem okX6_load (μ : ax_M) : ax_Ok mX6_load 1 ax_jV [.ref 49] μ (fX6_load μ) := by
  refine ax_start (lc := [some (.ref 49), none]) 1 (by decide +kernel) rfl (Nat.le_of_ble_eq_true rfl) (fun x G hG => ?_)
  unfold fX6_load
  refine rf_iconst (n := 1) (0 : Int32) dX6_load_0 cciconst_0 rfl ?_
  refine rf_istore_n (lc2 := [some (.ref 49), some (.int (0 : Int32))]) (n := 2) 1 dX6_load_1 rfl rfl (Nat.le_of_ble_eq_true rfl) rfl rfl ?_
  exact pX6_load_L2 hG _ _ _
def fX6_forgetCut (μ : ax_M) : Option (Unit × ax_M) :=
  (ax_let (ax_wi μ 49 8 (0 : Int32)) (fun m1 => (ax_let (ax_wi m1 49 9 (0 : Int32)) (fun m2 => (ax_let (ax_wi m2 49 10 (0 : Int32)) (fun m3 => (some ((), m3))))))))
theorem okX6_forgetCut (μ : ax_M) : ax_Ok mX6_forgetCut 0 ax_jV [.ref 49] μ (fX6_forgetCut μ) := by
  refine ax_start (lc := [some (.ref 49)]) 0 (by decide +kernel) rfl (Nat.le_of_ble_eq_true rfl) (fun x G hG => ?_)
  unfold fX6_forgetCut
  refine rf_aload_n (n := 1) 0 dX6_forgetCut_0 rfl rfl rfl ?_
  refine rf_iconst (n := 2) (0 : Int32) dX6_forgetCut_1 cciconst_0 rfl ?_
  refine rf_pfI (n := 5) hG rfl dX6_forgetCut_2 flX6_86 ki_6_8 nf_6_8 sS_49 kk_49 rfl (fun m1 => ?_)
  refine rf_aload_n (n := 6) 0 dX6_forgetCut_5 rfl rfl rfl ?_
  refine rf_iconst (n := 7) (0 : Int32) dX6_forgetCut_6 cciconst_0 rfl ?_
  refine rf_pfI (n := 10) hG rfl dX6_forgetCut_7 flX6_89 ki_6_9 nf_6_9 sS_49 kk_49 rfl (fun m2 => ?_)
  refine rf_aload_n (n := 11) 0 dX6_forgetCut_10 rfl rfl rfl ?_
  refine rf_iconst (n := 12) (0 : Int32) dX6_forgetCut_11 cciconst_0 rfl ?_
  refine rf_pfI (n := 15) hG rfl dX6_forgetCut_12 flX6_101 ki_6_10 nf_6_10 sS_49 kk_49 rfl (fun m3 => ?_)
  exact rf_retV rfl dX6_forgetCut_15
def fX6_endCut_K54 (s1 : Int32) (μ : ax_M) : Option (Unit × ax_M) :=
  (ax_let (ax_wi μ 49 10 s1) (fun m7 => (some ((), m7))))
theorem pX6_endCut_K54 {x : ax_X} {G : ax_G} (hG : ax_ok G) (s1 : Int32) (μ : ax_M) : ax_Rf mX6_endCut 1 x (ax_Z ax_jV x G) G 0 0 54 [none, none] [.int s1, .ref 49] μ (fX6_endCut_K54 s1 μ) := by
  unfold fX6_endCut_K54
  refine rf_pfI (n := 57) hG rfl dX6_endCut_54 flX6_101 ki_6_10 nf_6_10 sS_49 kk_49 rfl (fun m7 => ?_)
  exact rf_retV rfl dX6_endCut_57
def fX6_endCut (p1 : Int32) (μ : ax_M) : Option (Unit × ax_M) :=
  (Option.bind (ax_rd μ 8 10 p1) (fun v1 => (ax_let (ax_wi μ 49 9 ((μ.1 49 9) + ((64 : Int32) * v1))) (fun m2 => (ax_bd (fX1_isFlop p1 m2) (fun v3 m4 => (if v3 = 0 then (Option.bind (ax_rd m4 7 10 p1) (fun v5 => (Option.bind (ax_rd m4 5 4 v5) (fun v6 => (fX6_endCut_K54 v6 m4))))) else (fX6_endCut_K54 (0 : Int32) m4))))))))
theorem okX6_endCut (p1 : Int32) (μ : ax_M) : ax_Ok mX6_endCut 1 ax_jV [.ref 49, .int p1] μ (fX6_endCut p1 μ) := by
  refine ax_start (lc := [some (.ref 49), some (.int p1)]) 0 (by decide +kernel) rfl (Nat.le_of_ble_eq_true rfl) (fun x G hG => ?_)
  unfold fX6_endCut
  refine rf_aload_n (n := 1) 0 dX6_endCut_0 rfl rfl rfl ?_
  refine rf_dupR (n := 2) dX6_endCut_1 rfl ?_
  refine rf_getI (n := 5) hG dX6_endCut_2 flX6_89 ki_6_9 sS_49 kk_49 rfl ?_
  refine rf_bipush (n := 7) (64 : Int32) dX6_endCut_5 ccbipush_64 rfl ?_
  refine rf_aload_n (n := 8) 0 dX6_endCut_7 rfl rfl rfl ?_
  refine rf_getR (n := 11) rr_49_0 kk_2 hG dX6_endCut_8 flX6_33 ki_6_0 sS_49 kk_49 rfl ?_
  refine rf_getR (n := 14) rr_2_5 kk_8 hG dX6_endCut_11 flX6_92 ki_1_5 sS_2 kk_2 rfl ?_
  refine rf_iload_n (n := 15) 1 dX6_endCut_14 rfl rfl rfl ?_
  refine rf_iald (n := 16) hG dX6_endCut_15 sS_8 kk_8 rfl (fun v1 => ?_)
  refine rf_imul (n := 17) dX6_endCut_16 rfl ?_
  refine rf_iadd (n := 18) dX6_endCut_17 rfl ?_
  refine rf_pfI (n := 21) hG rfl dX6_endCut_18 flX6_89 ki_6_9 nf_6_9 sS_49 kk_49 rfl (fun m2 => ?_)
  refine rf_aload_n (n := 22) 0 dX6_endCut_21 rfl rfl rfl ?_
  refine rf_aload_n (n := 23) 0 dX6_endCut_22 rfl rfl rfl ?_
  refine rf_getR (n := 26) rr_49_0 kk_2 hG dX6_endCut_23 flX6_33 ki_6_0 sS_49 kk_49 rfl ?_
  refine rf_iload_n (n := 27) 1 dX6_endCut_26 rfl rfl rfl ?_
  refine rf_cV1I (n := 30) hG (okX1_isFlop _ _) lVX6_71 hhX1_isFlop kk_2 sS_2 ⟨_, rfl, rfl⟩ dX6_endCut_27 rfl (Nat.le_of_ble_eq_true rfl) (Nat.le_of_ble_eq_true rfl) (fun v3 m4 => ?_)
  refine rf_if_eq (tg := 37) (n := 33) dX6_endCut_30 rfl rfl (fun c8 => ?_) (fun c8 => ?_)
  · refine rf_aload_n (n := 38) 0 dX6_endCut_37 rfl rfl rfl ?_
    refine rf_getR (n := 41) rr_49_0 kk_2 hG dX6_endCut_38 flX6_33 ki_6_0 sS_49 kk_49 rfl ?_
    refine rf_getR (n := 44) rr_2_2 kk_5 hG dX6_endCut_41 flX6_95 ki_1_2 sS_2 kk_2 rfl ?_
    refine rf_aload_n (n := 45) 0 dX6_endCut_44 rfl rfl rfl ?_
    refine rf_getR (n := 48) rr_49_0 kk_2 hG dX6_endCut_45 flX6_33 ki_6_0 sS_49 kk_49 rfl ?_
    refine rf_getR (n := 51) rr_2_4 kk_7 hG dX6_endCut_48 flX6_98 ki_1_4 sS_2 kk_2 rfl ?_
    refine rf_iload_n (n := 52) 1 dX6_endCut_51 rfl rfl rfl ?_
    refine rf_iald (n := 53) hG dX6_endCut_52 sS_7 kk_7 rfl (fun v5 => ?_)
    refine rf_iald (n := 54) hG dX6_endCut_53 sS_5 kk_5 rfl (fun v6 => ?_)
    refine rf_mask (lc2 := [none, none]) [false, false] rfl ?_
    exact pX6_endCut_K54 hG _ _
  · refine rf_iconst (n := 34) (0 : Int32) dX6_endCut_33 cciconst_0 rfl ?_
    refine rf_goto (tg := 54) dX6_endCut_34 rfl ?_
    refine rf_mask (lc2 := [none, none]) [false, false] rfl ?_
    exact pX6_endCut_K54 hG _ _
def fX6_begin_K113 (l1 : Int32) (l2 : Int32) (r42 : Int32 → ax_M → Option (Int32 × ax_M)) (μ : ax_M) : Option (Int32 × ax_M) :=
  (r42 (l2 + (1 : Int32)) μ)
theorem pX6_begin_K113 {x : ax_X} {G : ax_G} (hG : ax_ok G) (l1 : Int32) (l2 : Int32) (r42 : Int32 → ax_M → Option (Int32 × ax_M)) (hr42 : ∀ (a2 : Int32) (μ : ax_M), ax_Rf mX6_begin 2 x (ax_Z ax_jI x G) G 0 0 42 [some (.ref 49), some (.int l1), some (.int a2)] [] μ (r42 a2 μ)) (μ : ax_M) : ax_Rf mX6_begin 2 x (ax_Z ax_jI x G) G 0 0 113 [some (.ref 49), some (.int l1), some (.int l2)] [] μ (fX6_begin_K113 l1 l2 r42 μ) := by
  unfold fX6_begin_K113
  refine rf_iinc (lc2 := [some (.ref 49), some (.int l1), some (.int (l2 + (1 : Int32)))]) (n := 116) (w := (1 : Int32)) 2 dX6_begin_113 rfl rfl rfl (Nat.le_of_ble_eq_true rfl) rfl rfl ?_
  refine rf_goto (tg := 42) dX6_begin_116 rfl ?_
  exact hr42 _ _
def fX6_begin_B42 (l1 : Int32) (r42 : Int32 → ax_M → Option (Int32 × ax_M)) (l2 : Int32) (μ : ax_M) : Option (Int32 × ax_M) :=
  (if (μ.1 2 13) ≤ l2 then (some ((1 : Int32), μ)) else (Option.bind (ax_wr μ 53 10 l2 (0 : Int32)) (fun m1 => (Option.bind (ax_wr m1 55 10 l2 (-1 : Int32)) (fun m2 => (ax_bd (fX1_limitOf l2 l1 m2) (fun v3 m4 => (Option.bind (ax_wr m4 54 10 l2 v3) (fun m5 => (Option.bind (ax_rd m5 54 10 l2) (fun v6 => (if 0 ≤ v6 then (fX6_begin_K113 l1 l2 r42 m5) else (ax_bd (fX1_isFlop l2 m5) (fun v7 m8 => (if v7 = 0 then (ax_bd (fX6_forgetCut m8) (fun _ m10 => (ax_bd (fX6_endCut l2 m10) (fun _ m12 => (some ((0 : Int32), m12)))))) else (fX6_begin_K113 l1 l2 r42 m8))))))))))))))))
theorem pX6_begin_B42 {x : ax_X} {G : ax_G} (hG : ax_ok G) (l1 : Int32) (r42 : Int32 → ax_M → Option (Int32 × ax_M)) (hr42 : ∀ (a2 : Int32) (μ : ax_M), ax_Rf mX6_begin 2 x (ax_Z ax_jI x G) G 0 0 42 [some (.ref 49), some (.int l1), some (.int a2)] [] μ (r42 a2 μ)) (l2 : Int32) (μ : ax_M) : ax_Rf mX6_begin 2 x (ax_Z ax_jI x G) G 0 0 42 [some (.ref 49), some (.int l1), some (.int l2)] [] μ (fX6_begin_B42 l1 r42 l2 μ) := by
  unfold fX6_begin_B42
  refine rf_iload_n (n := 43) 2 dX6_begin_42 rfl rfl rfl ?_
  refine rf_aload_n (n := 44) 0 dX6_begin_43 rfl rfl rfl ?_
  refine rf_getR (n := 47) rr_49_0 kk_2 hG dX6_begin_44 flX6_33 ki_6_0 sS_49 kk_49 rfl ?_
  refine rf_getI (n := 50) hG dX6_begin_47 flX6_54 ki_1_13 sS_2 kk_2 rfl ?_
  refine rf_icmp_ge (tg := 119) (n := 53) dX6_begin_50 rfl rfl (fun c15 => ?_) (fun c15 => ?_)
  · refine rf_iconst (n := 120) (1 : Int32) dX6_begin_119 cciconst_1 rfl ?_
    exact rf_retB rfl (Or.inr rfl) dX6_begin_120
  · refine rf_aload_n (n := 54) 0 dX6_begin_53 rfl rfl rfl ?_
    refine rf_getR (n := 57) rr_49_4 kk_53 hG dX6_begin_54 flX6_21 ki_6_4 sS_49 kk_49 rfl ?_
    refine rf_iload_n (n := 58) 2 dX6_begin_57 rfl rfl rfl ?_
    refine rf_iconst (n := 59) (0 : Int32) dX6_begin_58 cciconst_0 rfl ?_
    refine rf_iast (n := 60) hG dX6_begin_59 sS_53 kk_53 rfl (fun m1 => ?_)
    refine rf_aload_n (n := 61) 0 dX6_begin_60 rfl rfl rfl ?_
    refine rf_getR (n := 64) rr_49_6 kk_55 hG dX6_begin_61 flX6_27 ki_6_6 sS_49 kk_49 rfl ?_
    refine rf_iload_n (n := 65) 2 dX6_begin_64 rfl rfl rfl ?_
    refine rf_iconst (n := 66) (-1 : Int32) dX6_begin_65 cciconst_m1 rfl ?_
    refine rf_iast (n := 67) hG dX6_begin_66 sS_55 kk_55 rfl (fun m2 => ?_)
    refine rf_aload_n (n := 68) 0 dX6_begin_67 rfl rfl rfl ?_
    refine rf_getR (n := 71) rr_49_5 kk_54 hG dX6_begin_68 flX6_24 ki_6_5 sS_49 kk_49 rfl ?_
    refine rf_iload_n (n := 72) 2 dX6_begin_71 rfl rfl rfl ?_
    refine rf_aload_n (n := 73) 0 dX6_begin_72 rfl rfl rfl ?_
    refine rf_getR (n := 76) rr_49_0 kk_2 hG dX6_begin_73 flX6_33 ki_6_0 sS_49 kk_49 rfl ?_
    refine rf_iload_n (n := 77) 2 dX6_begin_76 rfl rfl rfl ?_
    refine rf_iload_n (n := 78) 1 dX6_begin_77 rfl rfl rfl ?_
    refine rf_cV2I (n := 81) hG (okX1_limitOf _ _ _) lVX6_67 hhX1_limitOf kk_2 sS_2 ⟨_, rfl, rfl⟩ dX6_begin_78 rfl (Nat.le_of_ble_eq_true rfl) (Nat.le_of_ble_eq_true rfl) (fun v3 m4 => ?_)
    refine rf_iast (n := 82) hG dX6_begin_81 sS_54 kk_54 rfl (fun m5 => ?_)
    refine rf_aload_n (n := 83) 0 dX6_begin_82 rfl rfl rfl ?_
    refine rf_getR (n := 86) rr_49_5 kk_54 hG dX6_begin_83 flX6_24 ki_6_5 sS_49 kk_49 rfl ?_
    refine rf_iload_n (n := 87) 2 dX6_begin_86 rfl rfl rfl ?_
    refine rf_iald (n := 88) hG dX6_begin_87 sS_54 kk_54 rfl (fun v6 => ?_)
    refine rf_if_ge (tg := 113) (n := 91) dX6_begin_88 rfl rfl (fun c14 => ?_) (fun c14 => ?_)
    · exact pX6_begin_K113 hG _ _ r42 hr42 _
    · refine rf_aload_n (n := 92) 0 dX6_begin_91 rfl rfl rfl ?_
      refine rf_getR (n := 95) rr_49_0 kk_2 hG dX6_begin_92 flX6_33 ki_6_0 sS_49 kk_49 rfl ?_
      refine rf_iload_n (n := 96) 2 dX6_begin_95 rfl rfl rfl ?_
      refine rf_cV1I (n := 99) hG (okX1_isFlop _ _) lVX6_71 hhX1_isFlop kk_2 sS_2 ⟨_, rfl, rfl⟩ dX6_begin_96 rfl (Nat.le_of_ble_eq_true rfl) (Nat.le_of_ble_eq_true rfl) (fun v7 m8 => ?_)
      refine rf_if_ne (tg := 113) (n := 102) dX6_begin_99 rfl rfl (fun c13 => ?_) (fun c13 => ?_)
      · exact pX6_begin_K113 hG _ _ r42 hr42 _
      · refine rf_aload_n (n := 103) 0 dX6_begin_102 rfl rfl rfl ?_
        refine rf_cV0V (n := 106) hG (okX6_forgetCut _) lVX6_74 hhX6_forgetCut kk_49 sS_49 ⟨_, rfl, rfl⟩ dX6_begin_103 rfl (Nat.le_of_ble_eq_true rfl) (Nat.le_of_ble_eq_true rfl) (fun _ m10 => ?_)
        refine rf_aload_n (n := 107) 0 dX6_begin_106 rfl rfl rfl ?_
        refine rf_iload_n (n := 108) 2 dX6_begin_107 rfl rfl rfl ?_
        refine rf_cV1V (n := 111) hG (okX6_endCut _ _) lVX6_77 hhX6_endCut kk_49 sS_49 ⟨_, rfl, rfl⟩ dX6_begin_108 rfl (Nat.le_of_ble_eq_true rfl) (Nat.le_of_ble_eq_true rfl) (fun _ m12 => ?_)
        refine rf_iconst (n := 112) (0 : Int32) dX6_begin_111 cciconst_0 rfl ?_
        exact rf_retB rfl (Or.inl rfl) dX6_begin_112
theorem pX6_begin_L42 {x : ax_X} {G : ax_G} (hG : ax_ok G) (l1 : Int32) (n : Nat) (a2 : Int32) (μ : ax_M) : ax_Rf mX6_begin 2 x (ax_Z ax_jI x G) G 0 0 42 [some (.ref 49), some (.int l1), some (.int a2)] [] μ (ax_lp1 (fX6_begin_B42 l1) n a2 μ) :=
  rf_lp1 (P := fun a2 μ t => ax_Rf mX6_begin 2 x (ax_Z ax_jI x G) G 0 0 42 [some (.ref 49), some (.int l1), some (.int a2)] [] μ t) (fun _ _ => rf_none) (fun rc hrc a2 μ => pX6_begin_B42 hG l1 rc hrc a2 μ) n a2 μ
def fX6_begin_B2 (l1 : Int32) (r2 : Int32 → ax_M → Option (Int32 × ax_M)) (l2 : Int32) (μ : ax_M) : Option (Int32 × ax_M) :=
  (if (μ.1 2 14) ≤ l2 then (ax_lp1 (fX6_begin_B42 l1) ax_FU (0 : Int32) μ) else (Option.bind (ax_rd μ 50 24 l2) (fun v16 => (Option.bind (ax_rd μ 51 24 l2) (fun v17 => (Option.bind (ax_wr μ 52 24 l2 (v16 - (v17 * l1))) (fun m18 => (r2 (l2 + (1 : Int32)) m18))))))))
theorem pX6_begin_B2 {x : ax_X} {G : ax_G} (hG : ax_ok G) (l1 : Int32) (r2 : Int32 → ax_M → Option (Int32 × ax_M)) (hr2 : ∀ (a2 : Int32) (μ : ax_M), ax_Rf mX6_begin 2 x (ax_Z ax_jI x G) G 0 0 2 [some (.ref 49), some (.int l1), some (.int a2)] [] μ (r2 a2 μ)) (l2 : Int32) (μ : ax_M) : ax_Rf mX6_begin 2 x (ax_Z ax_jI x G) G 0 0 2 [some (.ref 49), some (.int l1), some (.int l2)] [] μ (fX6_begin_B2 l1 r2 l2 μ) := by
  unfold fX6_begin_B2
  refine rf_iload_n (n := 3) 2 dX6_begin_2 rfl rfl rfl ?_
  refine rf_aload_n (n := 4) 0 dX6_begin_3 rfl rfl rfl ?_
  refine rf_getR (n := 7) rr_49_0 kk_2 hG dX6_begin_4 flX6_33 ki_6_0 sS_49 kk_49 rfl ?_
  refine rf_getI (n := 10) hG dX6_begin_7 flX6_37 ki_1_14 sS_2 kk_2 rfl ?_
  refine rf_icmp_ge (tg := 40) (n := 13) dX6_begin_10 rfl rfl (fun c19 => ?_) (fun c19 => ?_)
  · refine rf_iconst (n := 41) (0 : Int32) dX6_begin_40 cciconst_0 rfl ?_
    refine rf_istore_n (lc2 := [some (.ref 49), some (.int l1), some (.int (0 : Int32))]) (n := 42) 2 dX6_begin_41 rfl rfl (Nat.le_of_ble_eq_true rfl) rfl rfl ?_
    exact pX6_begin_L42 hG _ _ _ _
  · refine rf_aload_n (n := 14) 0 dX6_begin_13 rfl rfl rfl ?_
    refine rf_getR (n := 17) rr_49_3 kk_52 hG dX6_begin_14 flX6_18 ki_6_3 sS_49 kk_49 rfl ?_
    refine rf_iload_n (n := 18) 2 dX6_begin_17 rfl rfl rfl ?_
    refine rf_aload_n (n := 19) 0 dX6_begin_18 rfl rfl rfl ?_
    refine rf_getR (n := 22) rr_49_1 kk_50 hG dX6_begin_19 flX6_9 ki_6_1 sS_49 kk_49 rfl ?_
    refine rf_iload_n (n := 23) 2 dX6_begin_22 rfl rfl rfl ?_
    refine rf_iald (n := 24) hG dX6_begin_23 sS_50 kk_50 rfl (fun v16 => ?_)
    refine rf_aload_n (n := 25) 0 dX6_begin_24 rfl rfl rfl ?_
    refine rf_getR (n := 28) rr_49_2 kk_51 hG dX6_begin_25 flX6_15 ki_6_2 sS_49 kk_49 rfl ?_
    refine rf_iload_n (n := 29) 2 dX6_begin_28 rfl rfl rfl ?_
    refine rf_iald (n := 30) hG dX6_begin_29 sS_51 kk_51 rfl (fun v17 => ?_)
    refine rf_iload_n (n := 31) 1 dX6_begin_30 rfl rfl rfl ?_
    refine rf_imul (n := 32) dX6_begin_31 rfl ?_
    refine rf_isub (n := 33) dX6_begin_32 rfl ?_
    refine rf_iast (n := 34) hG dX6_begin_33 sS_52 kk_52 rfl (fun m18 => ?_)
    refine rf_iinc (lc2 := [some (.ref 49), some (.int l1), some (.int (l2 + (1 : Int32)))]) (n := 37) (w := (1 : Int32)) 2 dX6_begin_34 rfl rfl rfl (Nat.le_of_ble_eq_true rfl) rfl rfl ?_
    refine rf_goto (tg := 2) dX6_begin_37 rfl ?_
    exact hr2 _ _
theorem pX6_begin_L2 {x : ax_X} {G : ax_G} (hG : ax_ok G) (l1 : Int32) (n : Nat) (a2 : Int32) (μ : ax_M) : ax_Rf mX6_begin 2 x (ax_Z ax_jI x G) G 0 0 2 [some (.ref 49), some (.int l1), some (.int a2)] [] μ (ax_lp1 (fX6_begin_B2 l1) n a2 μ) :=
  rf_lp1 (P := fun a2 μ t => ax_Rf mX6_begin 2 x (ax_Z ax_jI x G) G 0 0 2 [some (.ref 49), some (.int l1), some (.int a2)] [] μ t) (fun _ _ => rf_none) (fun rc hrc a2 μ => pX6_begin_B2 hG l1 rc hrc a2 μ) n a2 μ
def fX6_begin (p1 : Int32) (μ : ax_M) : Option (Int32 × ax_M) :=
  (ax_lp1 (fX6_begin_B2 p1) ax_FU (0 : Int32) μ)
theorem okX6_begin (p1 : Int32) (μ : ax_M) : ax_Ok mX6_begin 2 ax_jI [.ref 49, .int p1] μ (fX6_begin p1 μ) := by
  refine ax_start (lc := [some (.ref 49), some (.int p1), none]) 1 (by decide +kernel) rfl (Nat.le_of_ble_eq_true rfl) (fun x G hG => ?_)
  unfold fX6_begin
  refine rf_iconst (n := 1) (0 : Int32) dX6_begin_0 cciconst_0 rfl ?_
  refine rf_istore_n (lc2 := [some (.ref 49), some (.int p1), some (.int (0 : Int32))]) (n := 2) 2 dX6_begin_1 rfl rfl (Nat.le_of_ble_eq_true rfl) rfl rfl ?_
  exact pX6_begin_L2 hG _ _ _ _
def fX6_addToCut (p1 : Int32) (μ : ax_M) : Option (Int32 × ax_M) :=
  (Option.bind (ax_wr μ 56 11 (μ.1 49 8) p1) (fun m1 => (ax_let (ax_wi m1 49 8 ((m1.1 49 8) + (1 : Int32))) (fun m2 => (Option.bind (ax_rd m2 50 24 p1) (fun v3 => (ax_let (ax_wi m2 49 9 ((m2.1 49 9) + v3)) (fun m4 => (Option.bind (ax_rd m4 11 24 p1) (fun v5 => (Option.bind (ax_rd m4 55 10 v5) (fun v6 => (some (v6, m4))))))))))))))
theorem okX6_addToCut (p1 : Int32) (μ : ax_M) : ax_Ok mX6_addToCut 0 ax_jI [.ref 49, .int p1] μ (fX6_addToCut p1 μ) := by
  refine ax_start (lc := [some (.ref 49), some (.int p1)]) 0 (by decide +kernel) rfl (Nat.le_of_ble_eq_true rfl) (fun x G hG => ?_)
  unfold fX6_addToCut
  refine rf_aload_n (n := 1) 0 dX6_addToCut_0 rfl rfl rfl ?_
  refine rf_getR (n := 4) rr_49_7 kk_56 hG dX6_addToCut_1 flX6_30 ki_6_7 sS_49 kk_49 rfl ?_
  refine rf_aload_n (n := 5) 0 dX6_addToCut_4 rfl rfl rfl ?_
  refine rf_getI (n := 8) hG dX6_addToCut_5 flX6_86 ki_6_8 sS_49 kk_49 rfl ?_
  refine rf_iload_n (n := 9) 1 dX6_addToCut_8 rfl rfl rfl ?_
  refine rf_iast (n := 10) hG dX6_addToCut_9 sS_56 kk_56 rfl (fun m1 => ?_)
  refine rf_aload_n (n := 11) 0 dX6_addToCut_10 rfl rfl rfl ?_
  refine rf_dupR (n := 12) dX6_addToCut_11 rfl ?_
  refine rf_getI (n := 15) hG dX6_addToCut_12 flX6_86 ki_6_8 sS_49 kk_49 rfl ?_
  refine rf_iconst (n := 16) (1 : Int32) dX6_addToCut_15 cciconst_1 rfl ?_
  refine rf_iadd (n := 17) dX6_addToCut_16 rfl ?_
  refine rf_pfI (n := 20) hG rfl dX6_addToCut_17 flX6_86 ki_6_8 nf_6_8 sS_49 kk_49 rfl (fun m2 => ?_)
  refine rf_aload_n (n := 21) 0 dX6_addToCut_20 rfl rfl rfl ?_
  refine rf_dupR (n := 22) dX6_addToCut_21 rfl ?_
  refine rf_getI (n := 25) hG dX6_addToCut_22 flX6_89 ki_6_9 sS_49 kk_49 rfl ?_
  refine rf_aload_n (n := 26) 0 dX6_addToCut_25 rfl rfl rfl ?_
  refine rf_getR (n := 29) rr_49_1 kk_50 hG dX6_addToCut_26 flX6_9 ki_6_1 sS_49 kk_49 rfl ?_
  refine rf_iload_n (n := 30) 1 dX6_addToCut_29 rfl rfl rfl ?_
  refine rf_iald (n := 31) hG dX6_addToCut_30 sS_50 kk_50 rfl (fun v3 => ?_)
  refine rf_iadd (n := 32) dX6_addToCut_31 rfl ?_
  refine rf_pfI (n := 35) hG rfl dX6_addToCut_32 flX6_89 ki_6_9 nf_6_9 sS_49 kk_49 rfl (fun m4 => ?_)
  refine rf_aload_n (n := 36) 0 dX6_addToCut_35 rfl rfl rfl ?_
  refine rf_getR (n := 39) rr_49_6 kk_55 hG dX6_addToCut_36 flX6_27 ki_6_6 sS_49 kk_49 rfl ?_
  refine rf_aload_n (n := 40) 0 dX6_addToCut_39 rfl rfl rfl ?_
  refine rf_getR (n := 43) rr_49_0 kk_2 hG dX6_addToCut_40 flX6_33 ki_6_0 sS_49 kk_49 rfl ?_
  refine rf_getR (n := 46) rr_2_8 kk_11 hG dX6_addToCut_43 flX6_60 ki_1_8 sS_2 kk_2 rfl ?_
  refine rf_iload_n (n := 47) 1 dX6_addToCut_46 rfl rfl rfl ?_
  refine rf_iald (n := 48) hG dX6_addToCut_47 sS_11 kk_11 rfl (fun v5 => ?_)
  refine rf_iald (n := 49) hG dX6_addToCut_48 sS_55 kk_55 rfl (fun v6 => ?_)
  exact rf_retI rfl dX6_addToCut_49
def fX6_cutLoop_K44 (μ : ax_M) : Option (Unit × ax_M) :=
  (some ((), μ))
theorem pX6_cutLoop_K44 {x : ax_X} {G : ax_G} (hG : ax_ok G) (μ : ax_M) : ax_Rf mX6_cutLoop 1 x (ax_Z ax_jV x G) G 0 0 44 [none, none, none, none] [] μ (fX6_cutLoop_K44 μ) := by
  unfold fX6_cutLoop_K44
  exact rf_retV rfl dX6_cutLoop_44
def fX6_cutLoop_B8 (l1 : Int32) (r8 : Int32 → Int32 → ax_M → Option (Unit × ax_M)) (l2 : Int32) (l3 : Int32) (μ : ax_M) : Option (Unit × ax_M) :=
  (if (μ.1 2 13) ≤ l3 then (fX6_cutLoop_K44 μ) else (if l2 = (-1 : Int32) then (fX6_cutLoop_K44 μ) else (ax_bd (fX6_addToCut l2 μ) (fun v3 m4 => (if v3 = l1 then (fX6_cutLoop_K44 m4) else (r8 v3 (l3 + (1 : Int32)) m4))))))
theorem pX6_cutLoop_B8 {x : ax_X} {G : ax_G} (hG : ax_ok G) (l1 : Int32) (r8 : Int32 → Int32 → ax_M → Option (Unit × ax_M)) (hr8 : ∀ (a2 : Int32) (a3 : Int32) (μ : ax_M), ax_Rf mX6_cutLoop 1 x (ax_Z ax_jV x G) G 0 0 8 [some (.ref 49), some (.int l1), some (.int a2), some (.int a3)] [] μ (r8 a2 a3 μ)) (l2 : Int32) (l3 : Int32) (μ : ax_M) : ax_Rf mX6_cutLoop 1 x (ax_Z ax_jV x G) G 0 0 8 [some (.ref 49), some (.int l1), some (.int l2), some (.int l3)] [] μ (fX6_cutLoop_B8 l1 r8 l2 l3 μ) := by
  unfold fX6_cutLoop_B8
  refine rf_iload_n (n := 9) 3 dX6_cutLoop_8 rfl rfl rfl ?_
  refine rf_aload_n (n := 10) 0 dX6_cutLoop_9 rfl rfl rfl ?_
  refine rf_getR (n := 13) rr_49_0 kk_2 hG dX6_cutLoop_10 flX6_33 ki_6_0 sS_49 kk_49 rfl ?_
  refine rf_getI (n := 16) hG dX6_cutLoop_13 flX6_54 ki_1_13 sS_2 kk_2 rfl ?_
  refine rf_icmp_ge (tg := 44) (n := 19) dX6_cutLoop_16 rfl rfl (fun c7 => ?_) (fun c7 => ?_)
  · refine rf_mask (lc2 := [none, none, none, none]) [false, false, false, false] rfl ?_
    exact pX6_cutLoop_K44 hG _
  · refine rf_iload_n (n := 20) 2 dX6_cutLoop_19 rfl rfl rfl ?_
    refine rf_iconst (n := 21) (-1 : Int32) dX6_cutLoop_20 cciconst_m1 rfl ?_
    refine rf_icmp_eq (tg := 44) (n := 24) dX6_cutLoop_21 rfl rfl (fun c6 => ?_) (fun c6 => ?_)
    · refine rf_mask (lc2 := [none, none, none, none]) [false, false, false, false] rfl ?_
      exact pX6_cutLoop_K44 hG _
    · refine rf_aload_n (n := 25) 0 dX6_cutLoop_24 rfl rfl rfl ?_
      refine rf_iload_n (n := 26) 2 dX6_cutLoop_25 rfl rfl rfl ?_
      refine rf_cV1I (n := 29) hG (okX6_addToCut _ _) lVX6_80 hhX6_addToCut kk_49 sS_49 ⟨_, rfl, rfl⟩ dX6_cutLoop_26 rfl (Nat.le_of_ble_eq_true rfl) (Nat.le_of_ble_eq_true rfl) (fun v3 m4 => ?_)
      refine rf_istore_n (lc2 := [some (.ref 49), some (.int l1), some (.int v3), some (.int l3)]) (n := 30) 2 dX6_cutLoop_29 rfl rfl (Nat.le_of_ble_eq_true rfl) rfl rfl ?_
      refine rf_iload_n (n := 31) 2 dX6_cutLoop_30 rfl rfl rfl ?_
      refine rf_iload_n (n := 32) 1 dX6_cutLoop_31 rfl rfl rfl ?_
      refine rf_icmp_ne (tg := 38) (n := 35) dX6_cutLoop_32 rfl rfl (fun c5 => ?_) (fun c5 => ?_)
      · refine rf_iinc (lc2 := [some (.ref 49), some (.int l1), some (.int v3), some (.int (l3 + (1 : Int32)))]) (n := 41) (w := (1 : Int32)) 3 dX6_cutLoop_38 rfl rfl rfl (Nat.le_of_ble_eq_true rfl) rfl rfl ?_
        refine rf_goto (tg := 8) dX6_cutLoop_41 rfl ?_
        exact hr8 _ _ _
      · refine rf_goto (tg := 44) dX6_cutLoop_35 rfl ?_
        refine rf_mask (lc2 := [none, none, none, none]) [false, false, false, false] rfl ?_
        exact pX6_cutLoop_K44 hG _
theorem pX6_cutLoop_L8 {x : ax_X} {G : ax_G} (hG : ax_ok G) (l1 : Int32) (n : Nat) (a2 : Int32) (a3 : Int32) (μ : ax_M) : ax_Rf mX6_cutLoop 1 x (ax_Z ax_jV x G) G 0 0 8 [some (.ref 49), some (.int l1), some (.int a2), some (.int a3)] [] μ (ax_lp2 (fX6_cutLoop_B8 l1) n a2 a3 μ) :=
  rf_lp2 (P := fun a2 a3 μ t => ax_Rf mX6_cutLoop 1 x (ax_Z ax_jV x G) G 0 0 8 [some (.ref 49), some (.int l1), some (.int a2), some (.int a3)] [] μ t) (fun _ _ _ => rf_none) (fun rc hrc a2 a3 μ => pX6_cutLoop_B8 hG l1 rc hrc a2 a3 μ) n a2 a3 μ
def fX6_cutLoop (p1 : Int32) (μ : ax_M) : Option (Unit × ax_M) :=
  (ax_bd (fX6_forgetCut μ) (fun _ m2 => (ax_lp2 (fX6_cutLoop_B8 p1) ax_FU p1 (0 : Int32) m2)))
theorem okX6_cutLoop (p1 : Int32) (μ : ax_M) : ax_Ok mX6_cutLoop 1 ax_jV [.ref 49, .int p1] μ (fX6_cutLoop p1 μ) := by
  refine ax_start (lc := [some (.ref 49), some (.int p1), none, none]) 2 (by decide +kernel) rfl (Nat.le_of_ble_eq_true rfl) (fun x G hG => ?_)
  unfold fX6_cutLoop
  refine rf_iload_n (n := 1) 1 dX6_cutLoop_0 rfl rfl rfl ?_
  refine rf_istore_n (lc2 := [some (.ref 49), some (.int p1), some (.int p1), none]) (n := 2) 2 dX6_cutLoop_1 rfl rfl (Nat.le_of_ble_eq_true rfl) rfl rfl ?_
  refine rf_aload_n (n := 3) 0 dX6_cutLoop_2 rfl rfl rfl ?_
  refine rf_cV0V (n := 6) hG (okX6_forgetCut _) lVX6_74 hhX6_forgetCut kk_49 sS_49 ⟨_, rfl, rfl⟩ dX6_cutLoop_3 rfl (Nat.le_of_ble_eq_true rfl) (Nat.le_of_ble_eq_true rfl) (fun _ m2 => ?_)
  refine rf_iconst (n := 7) (0 : Int32) dX6_cutLoop_6 cciconst_0 rfl ?_
  refine rf_istore_n (lc2 := [some (.ref 49), some (.int p1), some (.int p1), some (.int (0 : Int32))]) (n := 8) 3 dX6_cutLoop_7 rfl rfl (Nat.le_of_ble_eq_true rfl) rfl rfl ?_
  exact pX6_cutLoop_L8 hG _ _ _ _ _
def fX6_cutAt_K62 (μ : ax_M) : Option (Unit × ax_M) :=
  (some ((), μ))
theorem pX6_cutAt_K62 {x : ax_X} {G : ax_G} (hG : ax_ok G) (μ : ax_M) : ax_Rf mX6_cutAt 2 x (ax_Z ax_jV x G) G 0 0 62 [none, none, none, none] [] μ (fX6_cutAt_K62 μ) := by
  unfold fX6_cutAt_K62
  exact rf_retV rfl dX6_cutAt_62
def fX6_cutAt_K36 (l1 : Int32) (l2 : Int32) (μ : ax_M) : Option (Unit × ax_M) :=
  (if l2 = (-1 : Int32) then (Option.bind (ax_rd μ 12 24 l1) (fun v5 => (ax_bd (fX6_endCut v5 μ) (fun _ m7 => (fX6_cutAt_K62 m7))))) else (ax_bd (fX6_cutLoop l2 μ) (fun _ m4 => (fX6_cutAt_K62 m4))))
theorem pX6_cutAt_K36 {x : ax_X} {G : ax_G} (hG : ax_ok G) (l1 : Int32) (l2 : Int32) (μ : ax_M) : ax_Rf mX6_cutAt 2 x (ax_Z ax_jV x G) G 0 0 36 [some (.ref 49), some (.int l1), some (.int l2), none] [] μ (fX6_cutAt_K36 l1 l2 μ) := by
  unfold fX6_cutAt_K36
  refine rf_iload_n (n := 37) 2 dX6_cutAt_36 rfl rfl rfl ?_
  refine rf_iconst (n := 38) (-1 : Int32) dX6_cutAt_37 cciconst_m1 rfl ?_
  refine rf_icmp_ne (tg := 57) (n := 41) dX6_cutAt_38 rfl rfl (fun c8 => ?_) (fun c8 => ?_)
  · refine rf_aload_n (n := 58) 0 dX6_cutAt_57 rfl rfl rfl ?_
    refine rf_iload_n (n := 59) 2 dX6_cutAt_58 rfl rfl rfl ?_
    refine rf_cV1V (n := 62) hG (okX6_cutLoop _ _) lVX6_83 hhX6_cutLoop kk_49 sS_49 ⟨_, rfl, rfl⟩ dX6_cutAt_59 rfl (Nat.le_of_ble_eq_true rfl) (Nat.le_of_ble_eq_true rfl) (fun _ m4 => ?_)
    refine rf_mask (lc2 := [none, none, none, none]) [false, false, false, true] rfl ?_
    exact pX6_cutAt_K62 hG _
  · refine rf_aload_n (n := 42) 0 dX6_cutAt_41 rfl rfl rfl ?_
    refine rf_aload_n (n := 43) 0 dX6_cutAt_42 rfl rfl rfl ?_
    refine rf_getR (n := 46) rr_49_0 kk_2 hG dX6_cutAt_43 flX6_33 ki_6_0 sS_49 kk_49 rfl ?_
    refine rf_getR (n := 49) rr_2_9 kk_12 hG dX6_cutAt_46 flX6_57 ki_1_9 sS_2 kk_2 rfl ?_
    refine rf_iload_n (n := 50) 1 dX6_cutAt_49 rfl rfl rfl ?_
    refine rf_iald (n := 51) hG dX6_cutAt_50 sS_12 kk_12 rfl (fun v5 => ?_)
    refine rf_cV1V (n := 54) hG (okX6_endCut _ _) lVX6_77 hhX6_endCut kk_49 sS_49 ⟨_, rfl, rfl⟩ dX6_cutAt_51 rfl (Nat.le_of_ble_eq_true rfl) (Nat.le_of_ble_eq_true rfl) (fun _ m7 => ?_)
    refine rf_goto (tg := 62) dX6_cutAt_54 rfl ?_
    refine rf_mask (lc2 := [none, none, none, none]) [false, false, false, true] rfl ?_
    exact pX6_cutAt_K62 hG _
def fX6_cutAt_B8 (l1 : Int32) (r8 : Int32 → Int32 → ax_M → Option (Unit × ax_M)) (l2 : Int32) (l3 : Int32) (μ : ax_M) : Option (Unit × ax_M) :=
  (if (μ.1 2 13) < l3 then (fX6_cutAt_K36 l1 l2 μ) else (if l2 = (-1 : Int32) then (fX6_cutAt_K36 l1 l2 μ) else (ax_bd (fX6_addToCut l2 μ) (fun v9 m10 => (r8 v9 (l3 + (1 : Int32)) m10)))))
theorem pX6_cutAt_B8 {x : ax_X} {G : ax_G} (hG : ax_ok G) (l1 : Int32) (r8 : Int32 → Int32 → ax_M → Option (Unit × ax_M)) (hr8 : ∀ (a2 : Int32) (a3 : Int32) (μ : ax_M), ax_Rf mX6_cutAt 2 x (ax_Z ax_jV x G) G 0 0 8 [some (.ref 49), some (.int l1), some (.int a2), some (.int a3)] [] μ (r8 a2 a3 μ)) (l2 : Int32) (l3 : Int32) (μ : ax_M) : ax_Rf mX6_cutAt 2 x (ax_Z ax_jV x G) G 0 0 8 [some (.ref 49), some (.int l1), some (.int l2), some (.int l3)] [] μ (fX6_cutAt_B8 l1 r8 l2 l3 μ) := by
  unfold fX6_cutAt_B8
  refine rf_iload_n (n := 9) 3 dX6_cutAt_8 rfl rfl rfl ?_
  refine rf_aload_n (n := 10) 0 dX6_cutAt_9 rfl rfl rfl ?_
  refine rf_getR (n := 13) rr_49_0 kk_2 hG dX6_cutAt_10 flX6_33 ki_6_0 sS_49 kk_49 rfl ?_
  refine rf_getI (n := 16) hG dX6_cutAt_13 flX6_54 ki_1_13 sS_2 kk_2 rfl ?_
  refine rf_icmp_gt (tg := 36) (n := 19) dX6_cutAt_16 rfl rfl (fun c12 => ?_) (fun c12 => ?_)
  · refine rf_mask (lc2 := [some (.ref 49), some (.int l1), some (.int l2), none]) [true, true, true, false] rfl ?_
    exact pX6_cutAt_K36 hG _ _ _
  · refine rf_iload_n (n := 20) 2 dX6_cutAt_19 rfl rfl rfl ?_
    refine rf_iconst (n := 21) (-1 : Int32) dX6_cutAt_20 cciconst_m1 rfl ?_
    refine rf_icmp_eq (tg := 36) (n := 24) dX6_cutAt_21 rfl rfl (fun c11 => ?_) (fun c11 => ?_)
    · refine rf_mask (lc2 := [some (.ref 49), some (.int l1), some (.int l2), none]) [true, true, true, false] rfl ?_
      exact pX6_cutAt_K36 hG _ _ _
    · refine rf_aload_n (n := 25) 0 dX6_cutAt_24 rfl rfl rfl ?_
      refine rf_iload_n (n := 26) 2 dX6_cutAt_25 rfl rfl rfl ?_
      refine rf_cV1I (n := 29) hG (okX6_addToCut _ _) lVX6_80 hhX6_addToCut kk_49 sS_49 ⟨_, rfl, rfl⟩ dX6_cutAt_26 rfl (Nat.le_of_ble_eq_true rfl) (Nat.le_of_ble_eq_true rfl) (fun v9 m10 => ?_)
      refine rf_istore_n (lc2 := [some (.ref 49), some (.int l1), some (.int v9), some (.int l3)]) (n := 30) 2 dX6_cutAt_29 rfl rfl (Nat.le_of_ble_eq_true rfl) rfl rfl ?_
      refine rf_iinc (lc2 := [some (.ref 49), some (.int l1), some (.int v9), some (.int (l3 + (1 : Int32)))]) (n := 33) (w := (1 : Int32)) 3 dX6_cutAt_30 rfl rfl rfl (Nat.le_of_ble_eq_true rfl) rfl rfl ?_
      refine rf_goto (tg := 8) dX6_cutAt_33 rfl ?_
      exact hr8 _ _ _
theorem pX6_cutAt_L8 {x : ax_X} {G : ax_G} (hG : ax_ok G) (l1 : Int32) (n : Nat) (a2 : Int32) (a3 : Int32) (μ : ax_M) : ax_Rf mX6_cutAt 2 x (ax_Z ax_jV x G) G 0 0 8 [some (.ref 49), some (.int l1), some (.int a2), some (.int a3)] [] μ (ax_lp2 (fX6_cutAt_B8 l1) n a2 a3 μ) :=
  rf_lp2 (P := fun a2 a3 μ t => ax_Rf mX6_cutAt 2 x (ax_Z ax_jV x G) G 0 0 8 [some (.ref 49), some (.int l1), some (.int a2), some (.int a3)] [] μ t) (fun _ _ _ => rf_none) (fun rc hrc a2 a3 μ => pX6_cutAt_B8 hG l1 rc hrc a2 a3 μ) n a2 a3 μ
def fX6_cutAt (p1 : Int32) (μ : ax_M) : Option (Unit × ax_M) :=
  (ax_bd (fX6_forgetCut μ) (fun _ m2 => (ax_lp2 (fX6_cutAt_B8 p1) ax_FU p1 (0 : Int32) m2)))
theorem okX6_cutAt (p1 : Int32) (μ : ax_M) : ax_Ok mX6_cutAt 2 ax_jV [.ref 49, .int p1] μ (fX6_cutAt p1 μ) := by
  refine ax_start (lc := [some (.ref 49), some (.int p1), none, none]) 2 (by decide +kernel) rfl (Nat.le_of_ble_eq_true rfl) (fun x G hG => ?_)
  unfold fX6_cutAt
  refine rf_iload_n (n := 1) 1 dX6_cutAt_0 rfl rfl rfl ?_
  refine rf_istore_n (lc2 := [some (.ref 49), some (.int p1), some (.int p1), none]) (n := 2) 2 dX6_cutAt_1 rfl rfl (Nat.le_of_ble_eq_true rfl) rfl rfl ?_
  refine rf_aload_n (n := 3) 0 dX6_cutAt_2 rfl rfl rfl ?_
  refine rf_cV0V (n := 6) hG (okX6_forgetCut _) lVX6_74 hhX6_forgetCut kk_49 sS_49 ⟨_, rfl, rfl⟩ dX6_cutAt_3 rfl (Nat.le_of_ble_eq_true rfl) (Nat.le_of_ble_eq_true rfl) (fun _ m2 => ?_)
  refine rf_iconst (n := 7) (0 : Int32) dX6_cutAt_6 cciconst_0 rfl ?_
  refine rf_istore_n (lc2 := [some (.ref 49), some (.int p1), some (.int p1), some (.int (0 : Int32))]) (n := 8) 3 dX6_cutAt_7 rfl rfl (Nat.le_of_ble_eq_true rfl) rfl rfl ?_
  exact pX6_cutAt_L8 hG _ _ _ _ _
def fX6_holds_K132 (l2 : Int32) (l3 : Int32) (l4 : Int32) (r30 : Int32 → Int32 → ax_M → Option (Int32 × ax_M)) (μ : ax_M) : Option (Int32 × ax_M) :=
  (r30 l2 (l4 + (1 : Int32)) μ)
theorem pX6_holds_K132 {x : ax_X} {G : ax_G} (hG : ax_ok G) (l2 : Int32) (l3 : Int32) (l4 : Int32) (r30 : Int32 → Int32 → ax_M → Option (Int32 × ax_M)) (hr30 : ∀ (a2 : Int32) (a4 : Int32) (μ : ax_M), ax_Rf mX6_holds 3 x (ax_Z ax_jI x G) G 0 0 30 [some (.ref 49), none, some (.int a2), some (.int l3), some (.int a4), none, none] [] μ (r30 a2 a4 μ)) (μ : ax_M) : ax_Rf mX6_holds 3 x (ax_Z ax_jI x G) G 0 0 132 [some (.ref 49), none, some (.int l2), some (.int l3), some (.int l4), none, none] [] μ (fX6_holds_K132 l2 l3 l4 r30 μ) := by
  unfold fX6_holds_K132
  refine rf_iinc (lc2 := [some (.ref 49), none, some (.int l2), some (.int l3), some (.int (l4 + (1 : Int32))), none, none]) (n := 135) (w := (1 : Int32)) 4 dX6_holds_132 rfl rfl rfl (Nat.le_of_ble_eq_true rfl) rfl rfl ?_
  refine rf_goto (tg := 30) dX6_holds_135 rfl ?_
  exact hr30 _ _ _
def fX6_holds_B30 (l3 : Int32) (r14 : Int32 → Int32 → ax_M → Option (Int32 × ax_M)) (r30 : Int32 → Int32 → ax_M → Option (Int32 × ax_M)) (l2 : Int32) (l4 : Int32) (μ : ax_M) : Option (Int32 × ax_M) :=
  (if (μ.1 2 14) ≤ l4 then (if l2 = (-1 : Int32) then (some ((1 : Int32), μ)) else (r14 l2 (l3 + (1 : Int32)) μ)) else (Option.bind (ax_rd μ 12 24 l4) (fun v6 => (Option.bind (ax_rd μ 11 24 l4) (fun v7 => (Option.bind (ax_rd μ 53 10 v7) (fun v8 => (Option.bind (ax_rd μ 52 24 l4) (fun v9 => (ax_let (v8 + v9) (fun v10 => (Option.bind (ax_rd μ 54 10 v6) (fun v11 => (if v10 ≤ v11 then (Option.bind (ax_rd μ 53 10 v6) (fun v12 => (if v10 ≤ v12 then (fX6_holds_K132 l2 l3 l4 r30 μ) else (Option.bind (ax_wr μ 53 10 v6 v10) (fun m13 => (Option.bind (ax_wr m13 55 10 v6 l4) (fun m14 => (fX6_holds_K132 l4 l3 l4 r30 m14)))))))) else (ax_bd (fX6_cutAt l4 μ) (fun _ m17 => (some ((0 : Int32), m17))))))))))))))))))
theorem pX6_holds_B30 {x : ax_X} {G : ax_G} (hG : ax_ok G) (l3 : Int32) (r14 : Int32 → Int32 → ax_M → Option (Int32 × ax_M)) (hr14 : ∀ (a2 : Int32) (a3 : Int32) (μ : ax_M), ax_Rf mX6_holds 3 x (ax_Z ax_jI x G) G 0 0 14 [some (.ref 49), none, some (.int a2), some (.int a3), none, none, none] [] μ (r14 a2 a3 μ)) (r30 : Int32 → Int32 → ax_M → Option (Int32 × ax_M)) (hr30 : ∀ (a2 : Int32) (a4 : Int32) (μ : ax_M), ax_Rf mX6_holds 3 x (ax_Z ax_jI x G) G 0 0 30 [some (.ref 49), none, some (.int a2), some (.int l3), some (.int a4), none, none] [] μ (r30 a2 a4 μ)) (l2 : Int32) (l4 : Int32) (μ : ax_M) : ax_Rf mX6_holds 3 x (ax_Z ax_jI x G) G 0 0 30 [some (.ref 49), none, some (.int l2), some (.int l3), some (.int l4), none, none] [] μ (fX6_holds_B30 l3 r14 r30 l2 l4 μ) := by
  unfold fX6_holds_B30
  refine rf_iload (n := 32) 4 dX6_holds_30 rfl rfl ?_
  refine rf_aload_n (n := 33) 0 dX6_holds_32 rfl rfl rfl ?_
  refine rf_getR (n := 36) rr_49_0 kk_2 hG dX6_holds_33 flX6_33 ki_6_0 sS_49 kk_49 rfl ?_
  refine rf_getI (n := 39) hG dX6_holds_36 flX6_37 ki_1_14 sS_2 kk_2 rfl ?_
  refine rf_icmp_ge (tg := 138) (n := 42) dX6_holds_39 rfl rfl (fun c19 => ?_) (fun c19 => ?_)
  · refine rf_iload_n (n := 139) 2 dX6_holds_138 rfl rfl rfl ?_
    refine rf_iconst (n := 140) (-1 : Int32) dX6_holds_139 cciconst_m1 rfl ?_
    refine rf_icmp_ne (tg := 145) (n := 143) dX6_holds_140 rfl rfl (fun c5 => ?_) (fun c5 => ?_)
    · refine rf_iinc (lc2 := [some (.ref 49), none, some (.int l2), some (.int (l3 + (1 : Int32))), some (.int l4), none, none]) (n := 148) (w := (1 : Int32)) 3 dX6_holds_145 rfl rfl rfl (Nat.le_of_ble_eq_true rfl) rfl rfl ?_
      refine rf_goto (tg := 14) dX6_holds_148 rfl ?_
      refine rf_mask (lc2 := [some (.ref 49), none, some (.int l2), some (.int (l3 + (1 : Int32))), none, none, none]) [true, true, true, true, false, true, true] rfl ?_
      exact hr14 _ _ _
    · refine rf_iconst (n := 144) (1 : Int32) dX6_holds_143 cciconst_1 rfl ?_
      exact rf_retB rfl (Or.inr rfl) dX6_holds_144
  · refine rf_aload_n (n := 43) 0 dX6_holds_42 rfl rfl rfl ?_
    refine rf_getR (n := 46) rr_49_0 kk_2 hG dX6_holds_43 flX6_33 ki_6_0 sS_49 kk_49 rfl ?_
    refine rf_getR (n := 49) rr_2_9 kk_12 hG dX6_holds_46 flX6_57 ki_1_9 sS_2 kk_2 rfl ?_
    refine rf_iload (n := 51) 4 dX6_holds_49 rfl rfl ?_
    refine rf_iald (n := 52) hG dX6_holds_51 sS_12 kk_12 rfl (fun v6 => ?_)
    refine rf_istore (lc2 := [some (.ref 49), none, some (.int l2), some (.int l3), some (.int l4), some (.int v6), none]) (n := 54) 5 dX6_holds_52 rfl (Nat.le_of_ble_eq_true rfl) rfl rfl ?_
    refine rf_aload_n (n := 55) 0 dX6_holds_54 rfl rfl rfl ?_
    refine rf_getR (n := 58) rr_49_4 kk_53 hG dX6_holds_55 flX6_21 ki_6_4 sS_49 kk_49 rfl ?_
    refine rf_aload_n (n := 59) 0 dX6_holds_58 rfl rfl rfl ?_
    refine rf_getR (n := 62) rr_49_0 kk_2 hG dX6_holds_59 flX6_33 ki_6_0 sS_49 kk_49 rfl ?_
    refine rf_getR (n := 65) rr_2_8 kk_11 hG dX6_holds_62 flX6_60 ki_1_8 sS_2 kk_2 rfl ?_
    refine rf_iload (n := 67) 4 dX6_holds_65 rfl rfl ?_
    refine rf_iald (n := 68) hG dX6_holds_67 sS_11 kk_11 rfl (fun v7 => ?_)
    refine rf_iald (n := 69) hG dX6_holds_68 sS_53 kk_53 rfl (fun v8 => ?_)
    refine rf_aload_n (n := 70) 0 dX6_holds_69 rfl rfl rfl ?_
    refine rf_getR (n := 73) rr_49_3 kk_52 hG dX6_holds_70 flX6_18 ki_6_3 sS_49 kk_49 rfl ?_
    refine rf_iload (n := 75) 4 dX6_holds_73 rfl rfl ?_
    refine rf_iald (n := 76) hG dX6_holds_75 sS_52 kk_52 rfl (fun v9 => ?_)
    refine rf_iadd (n := 77) dX6_holds_76 rfl ?_
    refine rf_letI (fun v10 => ?_)
    refine rf_istore (lc2 := [some (.ref 49), none, some (.int l2), some (.int l3), some (.int l4), some (.int v6), some (.int v10)]) (n := 79) 6 dX6_holds_77 rfl (Nat.le_of_ble_eq_true rfl) rfl rfl ?_
    refine rf_iload (n := 81) 6 dX6_holds_79 rfl rfl ?_
    refine rf_aload_n (n := 82) 0 dX6_holds_81 rfl rfl rfl ?_
    refine rf_getR (n := 85) rr_49_5 kk_54 hG dX6_holds_82 flX6_24 ki_6_5 sS_49 kk_49 rfl ?_
    refine rf_iload (n := 87) 5 dX6_holds_85 rfl rfl ?_
    refine rf_iald (n := 88) hG dX6_holds_87 sS_54 kk_54 rfl (fun v11 => ?_)
    refine rf_icmp_le (tg := 99) (n := 91) dX6_holds_88 rfl rfl (fun c18 => ?_) (fun c18 => ?_)
    · refine rf_iload (n := 101) 6 dX6_holds_99 rfl rfl ?_
      refine rf_aload_n (n := 102) 0 dX6_holds_101 rfl rfl rfl ?_
      refine rf_getR (n := 105) rr_49_4 kk_53 hG dX6_holds_102 flX6_21 ki_6_4 sS_49 kk_49 rfl ?_
      refine rf_iload (n := 107) 5 dX6_holds_105 rfl rfl ?_
      refine rf_iald (n := 108) hG dX6_holds_107 sS_53 kk_53 rfl (fun v12 => ?_)
      refine rf_icmp_le (tg := 132) (n := 111) dX6_holds_108 rfl rfl (fun c15 => ?_) (fun c15 => ?_)
      · refine rf_mask (lc2 := [some (.ref 49), none, some (.int l2), some (.int l3), some (.int l4), none, none]) [true, true, true, true, true, false, false] rfl ?_
        exact pX6_holds_K132 hG _ _ _ r30 hr30 _
      · refine rf_aload_n (n := 112) 0 dX6_holds_111 rfl rfl rfl ?_
        refine rf_getR (n := 115) rr_49_4 kk_53 hG dX6_holds_112 flX6_21 ki_6_4 sS_49 kk_49 rfl ?_
        refine rf_iload (n := 117) 5 dX6_holds_115 rfl rfl ?_
        refine rf_iload (n := 119) 6 dX6_holds_117 rfl rfl ?_
        refine rf_iast (n := 120) hG dX6_holds_119 sS_53 kk_53 rfl (fun m13 => ?_)
        refine rf_aload_n (n := 121) 0 dX6_holds_120 rfl rfl rfl ?_
        refine rf_getR (n := 124) rr_49_6 kk_55 hG dX6_holds_121 flX6_27 ki_6_6 sS_49 kk_49 rfl ?_
        refine rf_iload (n := 126) 5 dX6_holds_124 rfl rfl ?_
        refine rf_iload (n := 128) 4 dX6_holds_126 rfl rfl ?_
        refine rf_iast (n := 129) hG dX6_holds_128 sS_55 kk_55 rfl (fun m14 => ?_)
        refine rf_iload (n := 131) 4 dX6_holds_129 rfl rfl ?_
        refine rf_istore_n (lc2 := [some (.ref 49), none, some (.int l4), some (.int l3), some (.int l4), some (.int v6), some (.int v10)]) (n := 132) 2 dX6_holds_131 rfl rfl (Nat.le_of_ble_eq_true rfl) rfl rfl ?_
        refine rf_mask (lc2 := [some (.ref 49), none, some (.int l4), some (.int l3), some (.int l4), none, none]) [true, true, true, true, true, false, false] rfl ?_
        exact pX6_holds_K132 hG _ _ _ r30 hr30 _
    · refine rf_aload_n (n := 92) 0 dX6_holds_91 rfl rfl rfl ?_
      refine rf_iload (n := 94) 4 dX6_holds_92 rfl rfl ?_
      refine rf_cV1V (n := 97) hG (okX6_cutAt _ _) lVX6_63 hhX6_cutAt kk_49 sS_49 ⟨_, rfl, rfl⟩ dX6_holds_94 rfl (Nat.le_of_ble_eq_true rfl) (Nat.le_of_ble_eq_true rfl) (fun _ m17 => ?_)
      refine rf_iconst (n := 98) (0 : Int32) dX6_holds_97 cciconst_0 rfl ?_
      exact rf_retB rfl (Or.inl rfl) dX6_holds_98
theorem pX6_holds_L30 {x : ax_X} {G : ax_G} (hG : ax_ok G) (l3 : Int32) (r14 : Int32 → Int32 → ax_M → Option (Int32 × ax_M)) (hr14 : ∀ (a2 : Int32) (a3 : Int32) (μ : ax_M), ax_Rf mX6_holds 3 x (ax_Z ax_jI x G) G 0 0 14 [some (.ref 49), none, some (.int a2), some (.int a3), none, none, none] [] μ (r14 a2 a3 μ)) (n : Nat) (a2 : Int32) (a4 : Int32) (μ : ax_M) : ax_Rf mX6_holds 3 x (ax_Z ax_jI x G) G 0 0 30 [some (.ref 49), none, some (.int a2), some (.int l3), some (.int a4), none, none] [] μ (ax_lp2 (fX6_holds_B30 l3 r14) n a2 a4 μ) :=
  rf_lp2 (P := fun a2 a4 μ t => ax_Rf mX6_holds 3 x (ax_Z ax_jI x G) G 0 0 30 [some (.ref 49), none, some (.int a2), some (.int l3), some (.int a4), none, none] [] μ t) (fun _ _ _ => rf_none) (fun rc hrc a2 a4 μ => pX6_holds_B30 hG l3 r14 hr14 rc hrc a2 a4 μ) n a2 a4 μ
def fX6_holds_B14 (r14 : Int32 → Int32 → ax_M → Option (Int32 × ax_M)) (l2 : Int32) (l3 : Int32) (μ : ax_M) : Option (Int32 × ax_M) :=
  (if (μ.1 2 13) < l3 then (ax_bd (fX6_cutAt l2 μ) (fun _ m4 => (some ((0 : Int32), m4)))) else (ax_lp2 (fX6_holds_B30 l3 r14) ax_FU (-1 : Int32) (0 : Int32) μ))
theorem pX6_holds_B14 {x : ax_X} {G : ax_G} (hG : ax_ok G) (r14 : Int32 → Int32 → ax_M → Option (Int32 × ax_M)) (hr14 : ∀ (a2 : Int32) (a3 : Int32) (μ : ax_M), ax_Rf mX6_holds 3 x (ax_Z ax_jI x G) G 0 0 14 [some (.ref 49), none, some (.int a2), some (.int a3), none, none, none] [] μ (r14 a2 a3 μ)) (l2 : Int32) (l3 : Int32) (μ : ax_M) : ax_Rf mX6_holds 3 x (ax_Z ax_jI x G) G 0 0 14 [some (.ref 49), none, some (.int l2), some (.int l3), none, none, none] [] μ (fX6_holds_B14 r14 l2 l3 μ) := by
  unfold fX6_holds_B14
  refine rf_iload_n (n := 15) 3 dX6_holds_14 rfl rfl rfl ?_
  refine rf_aload_n (n := 16) 0 dX6_holds_15 rfl rfl rfl ?_
  refine rf_getR (n := 19) rr_49_0 kk_2 hG dX6_holds_16 flX6_33 ki_6_0 sS_49 kk_49 rfl ?_
  refine rf_getI (n := 22) hG dX6_holds_19 flX6_54 ki_1_13 sS_2 kk_2 rfl ?_
  refine rf_icmp_gt (tg := 151) (n := 25) dX6_holds_22 rfl rfl (fun c20 => ?_) (fun c20 => ?_)
  · refine rf_aload_n (n := 152) 0 dX6_holds_151 rfl rfl rfl ?_
    refine rf_iload_n (n := 153) 2 dX6_holds_152 rfl rfl rfl ?_
    refine rf_cV1V (n := 156) hG (okX6_cutAt _ _) lVX6_63 hhX6_cutAt kk_49 sS_49 ⟨_, rfl, rfl⟩ dX6_holds_153 rfl (Nat.le_of_ble_eq_true rfl) (Nat.le_of_ble_eq_true rfl) (fun _ m4 => ?_)
    refine rf_iconst (n := 157) (0 : Int32) dX6_holds_156 cciconst_0 rfl ?_
    exact rf_retB rfl (Or.inl rfl) dX6_holds_157
  · refine rf_iconst (n := 26) (-1 : Int32) dX6_holds_25 cciconst_m1 rfl ?_
    refine rf_istore_n (lc2 := [some (.ref 49), none, some (.int (-1 : Int32)), some (.int l3), none, none, none]) (n := 27) 2 dX6_holds_26 rfl rfl (Nat.le_of_ble_eq_true rfl) rfl rfl ?_
    refine rf_iconst (n := 28) (0 : Int32) dX6_holds_27 cciconst_0 rfl ?_
    refine rf_istore (lc2 := [some (.ref 49), none, some (.int (-1 : Int32)), some (.int l3), some (.int (0 : Int32)), none, none]) (n := 30) 4 dX6_holds_28 rfl (Nat.le_of_ble_eq_true rfl) rfl rfl ?_
    exact pX6_holds_L30 hG _ r14 hr14 _ _ _ _
theorem pX6_holds_L14 {x : ax_X} {G : ax_G} (hG : ax_ok G) (n : Nat) (a2 : Int32) (a3 : Int32) (μ : ax_M) : ax_Rf mX6_holds 3 x (ax_Z ax_jI x G) G 0 0 14 [some (.ref 49), none, some (.int a2), some (.int a3), none, none, none] [] μ (ax_lp2 (fX6_holds_B14) n a2 a3 μ) :=
  rf_lp2 (P := fun a2 a3 μ t => ax_Rf mX6_holds 3 x (ax_Z ax_jI x G) G 0 0 14 [some (.ref 49), none, some (.int a2), some (.int a3), none, none, none] [] μ t) (fun _ _ _ => rf_none) (fun rc hrc a2 a3 μ => pX6_holds_B14 hG rc hrc a2 a3 μ) n a2 a3 μ
def fX6_holds (p1 : Int32) (μ : ax_M) : Option (Int32 × ax_M) :=
  (ax_bd (fX6_begin p1 μ) (fun v1 m2 => (if v1 = 0 then (some ((0 : Int32), m2)) else (ax_lp2 (fX6_holds_B14) ax_FU (-1 : Int32) (0 : Int32) m2))))
theorem okX6_holds (p1 : Int32) (μ : ax_M) : ax_Ok mX6_holds 3 ax_jI [.ref 49, .int p1] μ (fX6_holds p1 μ) := by
  refine ax_start (lc := [some (.ref 49), some (.int p1), none, none, none, none, none]) 5 (by decide +kernel) rfl (Nat.le_of_ble_eq_true rfl) (fun x G hG => ?_)
  unfold fX6_holds
  refine rf_aload_n (n := 1) 0 dX6_holds_0 rfl rfl rfl ?_
  refine rf_iload_n (n := 2) 1 dX6_holds_1 rfl rfl rfl ?_
  refine rf_cV1I (n := 5) hG (okX6_begin _ _) lVX6_50 hhX6_begin kk_49 sS_49 ⟨_, rfl, rfl⟩ dX6_holds_2 rfl (Nat.le_of_ble_eq_true rfl) (Nat.le_of_ble_eq_true rfl) (fun v1 m2 => ?_)
  refine rf_if_ne (tg := 10) (n := 8) dX6_holds_5 rfl rfl (fun c21 => ?_) (fun c21 => ?_)
  · refine rf_iconst (n := 11) (-1 : Int32) dX6_holds_10 cciconst_m1 rfl ?_
    refine rf_istore_n (lc2 := [some (.ref 49), some (.int p1), some (.int (-1 : Int32)), none, none, none, none]) (n := 12) 2 dX6_holds_11 rfl rfl (Nat.le_of_ble_eq_true rfl) rfl rfl ?_
    refine rf_iconst (n := 13) (0 : Int32) dX6_holds_12 cciconst_0 rfl ?_
    refine rf_istore_n (lc2 := [some (.ref 49), some (.int p1), some (.int (-1 : Int32)), some (.int (0 : Int32)), none, none, none]) (n := 14) 3 dX6_holds_13 rfl rfl (Nat.le_of_ble_eq_true rfl) rfl rfl ?_
    refine rf_mask (lc2 := [some (.ref 49), none, some (.int (-1 : Int32)), some (.int (0 : Int32)), none, none, none]) [true, false, true, true, true, true, true] rfl ?_
    exact pX6_holds_L14 hG _ _ _ _
  · refine rf_iconst (n := 9) (0 : Int32) dX6_holds_8 cciconst_0 rfl ?_
    exact rf_retB rfl (Or.inl rfl) dX6_holds_9
def fX6_cutSpan_B7 (r7 : Int32 → Int32 → ax_M → Option (Int32 × ax_M)) (l1 : Int32) (l2 : Int32) (μ : ax_M) : Option (Int32 × ax_M) :=
  (if (μ.1 49 8) ≤ l2 then (some (l1, μ)) else (Option.bind (ax_rd μ 56 11 l2) (fun v2 => (ax_bd (fX1_shiftOf v2 μ) (fun v3 m4 => (ax_let (l1 + v3) (fun v5 => (r7 v5 (l2 + (1 : Int32)) m4))))))))
theorem pX6_cutSpan_B7 {x : ax_X} {G : ax_G} (hG : ax_ok G) (r7 : Int32 → Int32 → ax_M → Option (Int32 × ax_M)) (hr7 : ∀ (a1 : Int32) (a2 : Int32) (μ : ax_M), ax_Rf mX6_cutSpan 1 x (ax_Z ax_jI x G) G 0 0 7 [some (.ref 49), some (.int a1), some (.int a2)] [] μ (r7 a1 a2 μ)) (l1 : Int32) (l2 : Int32) (μ : ax_M) : ax_Rf mX6_cutSpan 1 x (ax_Z ax_jI x G) G 0 0 7 [some (.ref 49), some (.int l1), some (.int l2)] [] μ (fX6_cutSpan_B7 r7 l1 l2 μ) := by
  unfold fX6_cutSpan_B7
  refine rf_iload_n (n := 8) 2 dX6_cutSpan_7 rfl rfl rfl ?_
  refine rf_aload_n (n := 9) 0 dX6_cutSpan_8 rfl rfl rfl ?_
  refine rf_getI (n := 12) hG dX6_cutSpan_9 flX6_86 ki_6_8 sS_49 kk_49 rfl ?_
  refine rf_icmp_ge (tg := 37) (n := 15) dX6_cutSpan_12 rfl rfl (fun c6 => ?_) (fun c6 => ?_)
  · refine rf_iload_n (n := 38) 1 dX6_cutSpan_37 rfl rfl rfl ?_
    exact rf_retI rfl dX6_cutSpan_38
  · refine rf_iload_n (n := 16) 1 dX6_cutSpan_15 rfl rfl rfl ?_
    refine rf_aload_n (n := 17) 0 dX6_cutSpan_16 rfl rfl rfl ?_
    refine rf_getR (n := 20) rr_49_0 kk_2 hG dX6_cutSpan_17 flX6_33 ki_6_0 sS_49 kk_49 rfl ?_
    refine rf_aload_n (n := 21) 0 dX6_cutSpan_20 rfl rfl rfl ?_
    refine rf_getR (n := 24) rr_49_7 kk_56 hG dX6_cutSpan_21 flX6_30 ki_6_7 sS_49 kk_49 rfl ?_
    refine rf_iload_n (n := 25) 2 dX6_cutSpan_24 rfl rfl rfl ?_
    refine rf_iald (n := 26) hG dX6_cutSpan_25 sS_56 kk_56 rfl (fun v2 => ?_)
    refine rf_cV1I (n := 29) hG (okX1_shiftOf _ _) lVX6_47 hhX1_shiftOf kk_2 sS_2 ⟨_, rfl, rfl⟩ dX6_cutSpan_26 rfl (Nat.le_of_ble_eq_true rfl) (Nat.le_of_ble_eq_true rfl) (fun v3 m4 => ?_)
    refine rf_iadd (n := 30) dX6_cutSpan_29 rfl ?_
    refine rf_letI (fun v5 => ?_)
    refine rf_istore_n (lc2 := [some (.ref 49), some (.int v5), some (.int l2)]) (n := 31) 1 dX6_cutSpan_30 rfl rfl (Nat.le_of_ble_eq_true rfl) rfl rfl ?_
    refine rf_iinc (lc2 := [some (.ref 49), some (.int v5), some (.int (l2 + (1 : Int32)))]) (n := 34) (w := (1 : Int32)) 2 dX6_cutSpan_31 rfl rfl rfl (Nat.le_of_ble_eq_true rfl) rfl rfl ?_
    refine rf_goto (tg := 7) dX6_cutSpan_34 rfl ?_
    exact hr7 _ _ _
theorem pX6_cutSpan_L7 {x : ax_X} {G : ax_G} (hG : ax_ok G) (n : Nat) (a1 : Int32) (a2 : Int32) (μ : ax_M) : ax_Rf mX6_cutSpan 1 x (ax_Z ax_jI x G) G 0 0 7 [some (.ref 49), some (.int a1), some (.int a2)] [] μ (ax_lp2 (fX6_cutSpan_B7) n a1 a2 μ) :=
  rf_lp2 (P := fun a1 a2 μ t => ax_Rf mX6_cutSpan 1 x (ax_Z ax_jI x G) G 0 0 7 [some (.ref 49), some (.int a1), some (.int a2)] [] μ t) (fun _ _ _ => rf_none) (fun rc hrc a1 a2 μ => pX6_cutSpan_B7 hG rc hrc a1 a2 μ) n a1 a2 μ
def fX6_cutSpan (μ : ax_M) : Option (Int32 × ax_M) :=
  (ax_let (μ.1 49 10) (fun v1 => (ax_lp2 (fX6_cutSpan_B7) ax_FU v1 (0 : Int32) μ)))
theorem okX6_cutSpan (μ : ax_M) : ax_Ok mX6_cutSpan 1 ax_jI [.ref 49] μ (fX6_cutSpan μ) := by
  refine ax_start (lc := [some (.ref 49), none, none]) 2 (by decide +kernel) rfl (Nat.le_of_ble_eq_true rfl) (fun x G hG => ?_)
  unfold fX6_cutSpan
  refine rf_aload_n (n := 1) 0 dX6_cutSpan_0 rfl rfl rfl ?_
  refine rf_getI (n := 4) hG dX6_cutSpan_1 flX6_101 ki_6_10 sS_49 kk_49 rfl ?_
  refine rf_letI (fun v1 => ?_)
  refine rf_istore_n (lc2 := [some (.ref 49), some (.int v1), none]) (n := 5) 1 dX6_cutSpan_4 rfl rfl (Nat.le_of_ble_eq_true rfl) rfl rfl ?_
  refine rf_iconst (n := 6) (0 : Int32) dX6_cutSpan_5 cciconst_0 rfl ?_
  refine rf_istore_n (lc2 := [some (.ref 49), some (.int v1), some (.int (0 : Int32))]) (n := 7) 2 dX6_cutSpan_6 rfl rfl (Nat.le_of_ble_eq_true rfl) rfl rfl ?_
  exact pX6_cutSpan_L7 hG _ _ _ _
def fX6_firstGood_K52 (μ : ax_M) : Option (Int32 × ax_M) :=
  (some ((-1 : Int32), μ))
theorem pX6_firstGood_K52 {x : ax_X} {G : ax_G} (hG : ax_ok G) (μ : ax_M) : ax_Rf mX6_firstGood 4 x (ax_Z ax_jI x G) G 0 0 52 [none, none, none, none, none] [] μ (fX6_firstGood_K52 μ) := by
  unfold fX6_firstGood_K52
  refine rf_iconst (n := 53) (-1 : Int32) dX6_firstGood_52 cciconst_m1 rfl ?_
  exact rf_retI rfl dX6_firstGood_53
def fX6_firstGood_B5 (l2 : Int32) (r5 : Int32 → Int32 → ax_M → Option (Int32 × ax_M)) (l3 : Int32) (l4 : Int32) (μ : ax_M) : Option (Int32 × ax_M) :=
  (if (9999 : Int32) ≤ l4 then (fX6_firstGood_K52 μ) else (if l2 < l3 then (fX6_firstGood_K52 μ) else (ax_bd (fX6_holds l3 μ) (fun v1 m2 => (if v1 = 0 then (ax_bd (fX6_cutSpan m2) (fun v3 m4 => (ax_bd (fX8_roundedUp (m2.1 49 9) v3 m4) (fun v5 m6 => (ax_let (ax_mx (l3 + (1 : Int32)) v5) (fun v7 => (r5 v7 (l4 + (1 : Int32)) m6))))))) else (some (l3, m2)))))))
theorem pX6_firstGood_B5 {x : ax_X} {G : ax_G} (hG : ax_ok G) (l2 : Int32) (r5 : Int32 → Int32 → ax_M → Option (Int32 × ax_M)) (hr5 : ∀ (a3 : Int32) (a4 : Int32) (μ : ax_M), ax_Rf mX6_firstGood 4 x (ax_Z ax_jI x G) G 0 0 5 [some (.ref 49), none, some (.int l2), some (.int a3), some (.int a4)] [] μ (r5 a3 a4 μ)) (l3 : Int32) (l4 : Int32) (μ : ax_M) : ax_Rf mX6_firstGood 4 x (ax_Z ax_jI x G) G 0 0 5 [some (.ref 49), none, some (.int l2), some (.int l3), some (.int l4)] [] μ (fX6_firstGood_B5 l2 r5 l3 l4 μ) := by
  unfold fX6_firstGood_B5
  refine rf_iload (n := 7) 4 dX6_firstGood_5 rfl rfl ?_
  refine rf_sipush (n := 10) (9999 : Int32) dX6_firstGood_7 ccsipush_9999 rfl ?_
  refine rf_icmp_ge (tg := 52) (n := 13) dX6_firstGood_10 rfl rfl (fun c10 => ?_) (fun c10 => ?_)
  · refine rf_mask (lc2 := [none, none, none, none, none]) [false, true, false, false, false] rfl ?_
    exact pX6_firstGood_K52 hG _
  · refine rf_iload_n (n := 14) 3 dX6_firstGood_13 rfl rfl rfl ?_
    refine rf_iload_n (n := 15) 2 dX6_firstGood_14 rfl rfl rfl ?_
    refine rf_icmp_gt (tg := 52) (n := 18) dX6_firstGood_15 rfl rfl (fun c9 => ?_) (fun c9 => ?_)
    · refine rf_mask (lc2 := [none, none, none, none, none]) [false, true, false, false, false] rfl ?_
      exact pX6_firstGood_K52 hG _
    · refine rf_aload_n (n := 19) 0 dX6_firstGood_18 rfl rfl rfl ?_
      refine rf_iload_n (n := 20) 3 dX6_firstGood_19 rfl rfl rfl ?_
      refine rf_cV1I (n := 23) hG (okX6_holds _ _) lVX6_108 hhX6_holds kk_49 sS_49 ⟨_, rfl, rfl⟩ dX6_firstGood_20 rfl (Nat.le_of_ble_eq_true rfl) (Nat.le_of_ble_eq_true rfl) (fun v1 m2 => ?_)
      refine rf_if_eq (tg := 28) (n := 26) dX6_firstGood_23 rfl rfl (fun c8 => ?_) (fun c8 => ?_)
      · refine rf_iload_n (n := 29) 3 dX6_firstGood_28 rfl rfl rfl ?_
        refine rf_iconst (n := 30) (1 : Int32) dX6_firstGood_29 cciconst_1 rfl ?_
        refine rf_iadd (n := 31) dX6_firstGood_30 rfl ?_
        refine rf_aload_n (n := 32) 0 dX6_firstGood_31 rfl rfl rfl ?_
        refine rf_getI (n := 35) hG dX6_firstGood_32 flX6_89 ki_6_9 sS_49 kk_49 rfl ?_
        refine rf_aload_n (n := 36) 0 dX6_firstGood_35 rfl rfl rfl ?_
        refine rf_cV0I (n := 39) hG (okX6_cutSpan _) lVX6_104 hhX6_cutSpan kk_49 sS_49 ⟨_, rfl, rfl⟩ dX6_firstGood_36 rfl (Nat.le_of_ble_eq_true rfl) (Nat.le_of_ble_eq_true rfl) (fun v3 m4 => ?_)
        refine rf_cN2I (n := 42) hG (okX8_roundedUp _ _ _) lNX6_111 hhX8_roundedUp dX6_firstGood_39 rfl (Nat.le_of_ble_eq_true rfl) (Nat.le_of_ble_eq_true rfl) (fun v5 m6 => ?_)
        refine rf_max (n := 45) dX6_firstGood_42 mxX6_114 ax_maxw (Nat.le_of_ble_eq_true rfl) (Nat.le_of_ble_eq_true rfl) rfl ?_
        refine rf_letI (fun v7 => ?_)
        refine rf_istore_n (lc2 := [some (.ref 49), none, some (.int l2), some (.int v7), some (.int l4)]) (n := 46) 3 dX6_firstGood_45 rfl rfl (Nat.le_of_ble_eq_true rfl) rfl rfl ?_
        refine rf_iinc (lc2 := [some (.ref 49), none, some (.int l2), some (.int v7), some (.int (l4 + (1 : Int32)))]) (n := 49) (w := (1 : Int32)) 4 dX6_firstGood_46 rfl rfl rfl (Nat.le_of_ble_eq_true rfl) rfl rfl ?_
        refine rf_goto (tg := 5) dX6_firstGood_49 rfl ?_
        exact hr5 _ _ _
      · refine rf_iload_n (n := 27) 3 dX6_firstGood_26 rfl rfl rfl ?_
        exact rf_retI rfl dX6_firstGood_27
theorem pX6_firstGood_L5 {x : ax_X} {G : ax_G} (hG : ax_ok G) (l2 : Int32) (n : Nat) (a3 : Int32) (a4 : Int32) (μ : ax_M) : ax_Rf mX6_firstGood 4 x (ax_Z ax_jI x G) G 0 0 5 [some (.ref 49), none, some (.int l2), some (.int a3), some (.int a4)] [] μ (ax_lp2 (fX6_firstGood_B5 l2) n a3 a4 μ) :=
  rf_lp2 (P := fun a3 a4 μ t => ax_Rf mX6_firstGood 4 x (ax_Z ax_jI x G) G 0 0 5 [some (.ref 49), none, some (.int l2), some (.int a3), some (.int a4)] [] μ t) (fun _ _ _ => rf_none) (fun rc hrc a3 a4 μ => pX6_firstGood_B5 hG l2 rc hrc a3 a4 μ) n a3 a4 μ
def fX6_firstGood (p1 : Int32) (p2 : Int32) (μ : ax_M) : Option (Int32 × ax_M) :=
  (ax_lp2 (fX6_firstGood_B5 p2) ax_FU p1 (0 : Int32) μ)
theorem okX6_firstGood (p1 : Int32) (p2 : Int32) (μ : ax_M) : ax_Ok mX6_firstGood 4 ax_jI [.ref 49, .int p1, .int p2] μ (fX6_firstGood p1 p2 μ) := by
  refine ax_start (lc := [some (.ref 49), some (.int p1), some (.int p2), none, none]) 2 (by decide +kernel) rfl (Nat.le_of_ble_eq_true rfl) (fun x G hG => ?_)
  unfold fX6_firstGood
  refine rf_iload_n (n := 1) 1 dX6_firstGood_0 rfl rfl rfl ?_
  refine rf_istore_n (lc2 := [some (.ref 49), some (.int p1), some (.int p2), some (.int p1), none]) (n := 2) 3 dX6_firstGood_1 rfl rfl (Nat.le_of_ble_eq_true rfl) rfl rfl ?_
  refine rf_iconst (n := 3) (0 : Int32) dX6_firstGood_2 cciconst_0 rfl ?_
  refine rf_istore (lc2 := [some (.ref 49), some (.int p1), some (.int p2), some (.int p1), some (.int (0 : Int32))]) (n := 5) 4 dX6_firstGood_3 rfl (Nat.le_of_ble_eq_true rfl) rfl rfl ?_
  refine rf_mask (lc2 := [some (.ref 49), none, some (.int p2), some (.int p1), some (.int (0 : Int32))]) [true, false, true, true, true] rfl ?_
  exact pX6_firstGood_L5 hG _ _ _ _ _
def fX4_shortestPeriod (μ : ax_M) : Option (Int32 × ax_M) :=
  (ax_bd (fX6_load μ) (fun _ m2 => (ax_bd (fX6_firstGood (1 : Int32) (9999 : Int32) m2) (fun v3 m4 => (some (v3, m4))))))
theorem okX4_shortestPeriod (μ : ax_M) : ax_Ok mX4_shortestPeriod 5 ax_jI [.ref 46] μ (fX4_shortestPeriod μ) := by
  refine ax_start (lc := [some (.ref 46)]) 0 (by decide +kernel) rfl (Nat.le_of_ble_eq_true rfl) (fun x G hG => ?_)
  unfold fX4_shortestPeriod
  refine rf_aload_n (n := 1) 0 dX4_shortestPeriod_0 rfl rfl rfl ?_
  refine rf_getR (n := 4) rr_46_2 kk_49 hG dX4_shortestPeriod_1 flX4_31 ki_4_2 sS_46 kk_46 rfl ?_
  refine rf_cV0V (n := 7) hG (okX6_load _) lVX4_35 hhX6_load kk_49 sS_49 ⟨_, rfl, rfl⟩ dX4_shortestPeriod_4 rfl (Nat.le_of_ble_eq_true rfl) (Nat.le_of_ble_eq_true rfl) (fun _ m2 => ?_)
  refine rf_aload_n (n := 8) 0 dX4_shortestPeriod_7 rfl rfl rfl ?_
  refine rf_getR (n := 11) rr_46_2 kk_49 hG dX4_shortestPeriod_8 flX4_31 ki_4_2 sS_46 kk_46 rfl ?_
  refine rf_iconst (n := 12) (1 : Int32) dX4_shortestPeriod_11 cciconst_1 rfl ?_
  refine rf_sipush (n := 15) (9999 : Int32) dX4_shortestPeriod_12 ccsipush_9999 rfl ?_
  refine rf_cV2I (n := 18) hG (okX6_firstGood _ _ _) lVX4_38 hhX6_firstGood kk_49 sS_49 ⟨_, rfl, rfl⟩ dX4_shortestPeriod_15 rfl (Nat.le_of_ble_eq_true rfl) (Nat.le_of_ble_eq_true rfl) (fun v3 m4 => ?_)
  exact rf_retI rfl dX4_shortestPeriod_18
def fX8_leastPeriod_K19 (s0 : Int32) (μ : ax_M) : Option (Int32 × ax_M) :=
  (some (s0, μ))
theorem pX8_leastPeriod_K19 {x : ax_X} {G : ax_G} (hG : ax_ok G) (s0 : Int32) (μ : ax_M) : ax_Rf mX8_leastPeriod 6 x (ax_Z ax_jI x G) G 0 0 19 [none, none] [.int s0] μ (fX8_leastPeriod_K19 s0 μ) := by
  unfold fX8_leastPeriod_K19
  exact rf_retI rfl dX8_leastPeriod_19
def fX8_leastPeriod (μ : ax_M) : Option (Int32 × ax_M) :=
  (ax_bd (fX4_shortestPeriod μ) (fun v1 m2 => (if v1 = (-1 : Int32) then (fX8_leastPeriod_K19 (-2 : Int32) m2) else (fX8_leastPeriod_K19 v1 m2))))
theorem okX8_leastPeriod (μ : ax_M) : ax_Ok mX8_leastPeriod 6 ax_jI [.ref 0] μ (fX8_leastPeriod μ) := by
  refine ax_start (lc := [some (.ref 0), none]) 1 (by decide +kernel) rfl (Nat.le_of_ble_eq_true rfl) (fun x G hG => ?_)
  unfold fX8_leastPeriod
  refine rf_aload_n (n := 1) 0 dX8_leastPeriod_0 rfl rfl rfl ?_
  refine rf_getR (n := 4) rr_0_8 kk_46 hG dX8_leastPeriod_1 flX8_64 ki_8_8 sS_0 kk_0 rfl ?_
  refine rf_cV0I (n := 7) hG (okX4_shortestPeriod _) lVX8_275 hhX4_shortestPeriod kk_46 sS_46 ⟨_, rfl, rfl⟩ dX8_leastPeriod_4 rfl (Nat.le_of_ble_eq_true rfl) (Nat.le_of_ble_eq_true rfl) (fun v1 m2 => ?_)
  refine rf_istore_n (lc2 := [some (.ref 0), some (.int v1)]) (n := 8) 1 dX8_leastPeriod_7 rfl rfl (Nat.le_of_ble_eq_true rfl) rfl rfl ?_
  refine rf_iload_n (n := 9) 1 dX8_leastPeriod_8 rfl rfl rfl ?_
  refine rf_iconst (n := 10) (-1 : Int32) dX8_leastPeriod_9 cciconst_m1 rfl ?_
  refine rf_icmp_ne (tg := 18) (n := 13) dX8_leastPeriod_10 rfl rfl (fun c3 => ?_) (fun c3 => ?_)
  · refine rf_iload_n (n := 19) 1 dX8_leastPeriod_18 rfl rfl rfl ?_
    refine rf_mask (lc2 := [none, none]) [false, false] rfl ?_
    exact pX8_leastPeriod_K19 hG _ _
  · refine rf_bipush (n := 15) (-2 : Int32) dX8_leastPeriod_13 ccbipush_m2 rfl ?_
    refine rf_goto (tg := 19) dX8_leastPeriod_15 rfl ?_
    refine rf_mask (lc2 := [none, none]) [false, false] rfl ?_
    exact pX8_leastPeriod_K19 hG _ _
def fX9_leastNow_K74 (s0 : Int32) (μ : ax_M) : Option (Int32 × ax_M) :=
  (some (s0, μ))
theorem pX9_leastNow_K74 {x : ax_X} {G : ax_G} (hG : ax_ok G) (s0 : Int32) (μ : ax_M) : ax_Rf mX9_leastNow 6 x (ax_Z ax_jI x G) G 0 0 74 [none, none, none, none, none] [.int s0] μ (fX9_leastNow_K74 s0 μ) := by
  unfold fX9_leastNow_K74
  exact rf_retI rfl dX9_leastNow_74
def fX9_leastNow_K51 (l1 : Int32) (l2 : Int32) (l3 : Int32) (r13 : Int32 → Int32 → ax_M → Option (Int32 × ax_M)) (μ : ax_M) : Option (Int32 × ax_M) :=
  (r13 l2 l3 μ)
theorem pX9_leastNow_K51 {x : ax_X} {G : ax_G} (hG : ax_ok G) (l1 : Int32) (l2 : Int32) (l3 : Int32) (r13 : Int32 → Int32 → ax_M → Option (Int32 × ax_M)) (hr13 : ∀ (a2 : Int32) (a3 : Int32) (μ : ax_M), ax_Rf mX9_leastNow 6 x (ax_Z ax_jI x G) G 0 0 13 [some (.ref 57), some (.int l1), some (.int a2), some (.int a3), none] [] μ (r13 a2 a3 μ)) (μ : ax_M) : ax_Rf mX9_leastNow 6 x (ax_Z ax_jI x G) G 0 0 51 [some (.ref 57), some (.int l1), some (.int l2), some (.int l3), none] [] μ (fX9_leastNow_K51 l1 l2 l3 r13 μ) := by
  unfold fX9_leastNow_K51
  refine rf_goto (tg := 13) dX9_leastNow_51 rfl ?_
  exact hr13 _ _ _
def fX9_leastNow_B13 (l1 : Int32) (r13 : Int32 → Int32 → ax_M → Option (Int32 × ax_M)) (l2 : Int32) (l3 : Int32) (μ : ax_M) : Option (Int32 × ax_M) :=
  (if (l3 - l2) ≤ (1 : Int32) then (Option.bind (ax_wr μ 74 68 (0 : Int32) l1) (fun m2 => (if l3 ≤ (9999 : Int32) then (fX9_leastNow_K74 l3 m2) else (fX9_leastNow_K74 (-2 : Int32) m2)))) else (Option.bind (ax_dv (l2 + l3) (2 : Int32)) (fun v4 => (Option.bind (ax_wr μ 74 68 (0 : Int32) v4) (fun m5 => (ax_bd (fX9_isGood m5) (fun v6 m7 => (if v6 = 0 then (fX9_leastNow_K51 l1 v4 l3 r13 m7) else (fX9_leastNow_K51 l1 l2 v4 r13 m7)))))))))
theorem pX9_leastNow_B13 {x : ax_X} {G : ax_G} (hG : ax_ok G) (l1 : Int32) (r13 : Int32 → Int32 → ax_M → Option (Int32 × ax_M)) (hr13 : ∀ (a2 : Int32) (a3 : Int32) (μ : ax_M), ax_Rf mX9_leastNow 6 x (ax_Z ax_jI x G) G 0 0 13 [some (.ref 57), some (.int l1), some (.int a2), some (.int a3), none] [] μ (r13 a2 a3 μ)) (l2 : Int32) (l3 : Int32) (μ : ax_M) : ax_Rf mX9_leastNow 6 x (ax_Z ax_jI x G) G 0 0 13 [some (.ref 57), some (.int l1), some (.int l2), some (.int l3), none] [] μ (fX9_leastNow_B13 l1 r13 l2 l3 μ) := by
  unfold fX9_leastNow_B13
  refine rf_iload_n (n := 14) 3 dX9_leastNow_13 rfl rfl rfl ?_
  refine rf_iload_n (n := 15) 2 dX9_leastNow_14 rfl rfl rfl ?_
  refine rf_isub (n := 16) dX9_leastNow_15 rfl ?_
  refine rf_iconst (n := 17) (1 : Int32) dX9_leastNow_16 cciconst_1 rfl ?_
  refine rf_icmp_le (tg := 54) (n := 20) dX9_leastNow_17 rfl rfl (fun c9 => ?_) (fun c9 => ?_)
  · refine rf_aload_n (n := 55) 0 dX9_leastNow_54 rfl rfl rfl ?_
    refine rf_getR (n := 58) rr_57_28 kk_74 hG dX9_leastNow_55 flX9_63 ki_9_28 sS_57 kk_57 rfl ?_
    refine rf_iconst (n := 59) (0 : Int32) dX9_leastNow_58 cciconst_0 rfl ?_
    refine rf_iload_n (n := 60) 1 dX9_leastNow_59 rfl rfl rfl ?_
    refine rf_iast (n := 61) hG dX9_leastNow_60 sS_74 kk_74 rfl (fun m2 => ?_)
    refine rf_iload_n (n := 62) 3 dX9_leastNow_61 rfl rfl rfl ?_
    refine rf_sipush (n := 65) (9999 : Int32) dX9_leastNow_62 ccsipush_9999 rfl ?_
    refine rf_icmp_le (tg := 73) (n := 68) dX9_leastNow_65 rfl rfl (fun c3 => ?_) (fun c3 => ?_)
    · refine rf_iload_n (n := 74) 3 dX9_leastNow_73 rfl rfl rfl ?_
      refine rf_mask (lc2 := [none, none, none, none, none]) [false, false, false, false, true] rfl ?_
      exact pX9_leastNow_K74 hG _ _
    · refine rf_bipush (n := 70) (-2 : Int32) dX9_leastNow_68 ccbipush_m2 rfl ?_
      refine rf_goto (tg := 74) dX9_leastNow_70 rfl ?_
      refine rf_mask (lc2 := [none, none, none, none, none]) [false, false, false, false, true] rfl ?_
      exact pX9_leastNow_K74 hG _ _
  · refine rf_iload_n (n := 21) 2 dX9_leastNow_20 rfl rfl rfl ?_
    refine rf_iload_n (n := 22) 3 dX9_leastNow_21 rfl rfl rfl ?_
    refine rf_iadd (n := 23) dX9_leastNow_22 rfl ?_
    refine rf_iconst (n := 24) (2 : Int32) dX9_leastNow_23 cciconst_2 rfl ?_
    refine rf_idiv (n := 25) dX9_leastNow_24 rfl (fun v4 => ?_)
    refine rf_istore (lc2 := [some (.ref 57), some (.int l1), some (.int l2), some (.int l3), some (.int v4)]) (n := 27) 4 dX9_leastNow_25 rfl (Nat.le_of_ble_eq_true rfl) rfl rfl ?_
    refine rf_aload_n (n := 28) 0 dX9_leastNow_27 rfl rfl rfl ?_
    refine rf_getR (n := 31) rr_57_28 kk_74 hG dX9_leastNow_28 flX9_63 ki_9_28 sS_57 kk_57 rfl ?_
    refine rf_iconst (n := 32) (0 : Int32) dX9_leastNow_31 cciconst_0 rfl ?_
    refine rf_iload (n := 34) 4 dX9_leastNow_32 rfl rfl ?_
    refine rf_iast (n := 35) hG dX9_leastNow_34 sS_74 kk_74 rfl (fun m5 => ?_)
    refine rf_aload_n (n := 36) 0 dX9_leastNow_35 rfl rfl rfl ?_
    refine rf_cV0I (n := 39) hG (okX9_isGood _) lVX9_328 hhX9_isGood kk_57 sS_57 ⟨_, rfl, rfl⟩ dX9_leastNow_36 rfl (Nat.le_of_ble_eq_true rfl) (Nat.le_of_ble_eq_true rfl) (fun v6 m7 => ?_)
    refine rf_if_eq (tg := 48) (n := 42) dX9_leastNow_39 rfl rfl (fun c8 => ?_) (fun c8 => ?_)
    · refine rf_iload (n := 50) 4 dX9_leastNow_48 rfl rfl ?_
      refine rf_istore_n (lc2 := [some (.ref 57), some (.int l1), some (.int v4), some (.int l3), some (.int v4)]) (n := 51) 2 dX9_leastNow_50 rfl rfl (Nat.le_of_ble_eq_true rfl) rfl rfl ?_
      refine rf_mask (lc2 := [some (.ref 57), some (.int l1), some (.int v4), some (.int l3), none]) [true, true, true, true, false] rfl ?_
      exact pX9_leastNow_K51 hG _ _ _ r13 hr13 _
    · refine rf_iload (n := 44) 4 dX9_leastNow_42 rfl rfl ?_
      refine rf_istore_n (lc2 := [some (.ref 57), some (.int l1), some (.int l2), some (.int v4), some (.int v4)]) (n := 45) 3 dX9_leastNow_44 rfl rfl (Nat.le_of_ble_eq_true rfl) rfl rfl ?_
      refine rf_goto (tg := 51) dX9_leastNow_45 rfl ?_
      refine rf_mask (lc2 := [some (.ref 57), some (.int l1), some (.int l2), some (.int v4), none]) [true, true, true, true, false] rfl ?_
      exact pX9_leastNow_K51 hG _ _ _ r13 hr13 _
theorem pX9_leastNow_L13 {x : ax_X} {G : ax_G} (hG : ax_ok G) (l1 : Int32) (n : Nat) (a2 : Int32) (a3 : Int32) (μ : ax_M) : ax_Rf mX9_leastNow 6 x (ax_Z ax_jI x G) G 0 0 13 [some (.ref 57), some (.int l1), some (.int a2), some (.int a3), none] [] μ (ax_lp2 (fX9_leastNow_B13 l1) n a2 a3 μ) :=
  rf_lp2 (P := fun a2 a3 μ t => ax_Rf mX9_leastNow 6 x (ax_Z ax_jI x G) G 0 0 13 [some (.ref 57), some (.int l1), some (.int a2), some (.int a3), none] [] μ t) (fun _ _ _ => rf_none) (fun rc hrc a2 a3 μ => pX9_leastNow_B13 hG l1 rc hrc a2 a3 μ) n a2 a3 μ
def fX9_leastNow (μ : ax_M) : Option (Int32 × ax_M) :=
  (Option.bind (ax_rd μ 74 68 (0 : Int32)) (fun v1 => (ax_lp2 (fX9_leastNow_B13 v1) ax_FU (0 : Int32) (10000 : Int32) μ)))
theorem okX9_leastNow (μ : ax_M) : ax_Ok mX9_leastNow 6 ax_jI [.ref 57] μ (fX9_leastNow μ) := by
  refine ax_start (lc := [some (.ref 57), none, none, none, none]) 4 (by decide +kernel) rfl (Nat.le_of_ble_eq_true rfl) (fun x G hG => ?_)
  unfold fX9_leastNow
  refine rf_aload_n (n := 1) 0 dX9_leastNow_0 rfl rfl rfl ?_
  refine rf_getR (n := 4) rr_57_28 kk_74 hG dX9_leastNow_1 flX9_63 ki_9_28 sS_57 kk_57 rfl ?_
  refine rf_iconst (n := 5) (0 : Int32) dX9_leastNow_4 cciconst_0 rfl ?_
  refine rf_iald (n := 6) hG dX9_leastNow_5 sS_74 kk_74 rfl (fun v1 => ?_)
  refine rf_istore_n (lc2 := [some (.ref 57), some (.int v1), none, none, none]) (n := 7) 1 dX9_leastNow_6 rfl rfl (Nat.le_of_ble_eq_true rfl) rfl rfl ?_
  refine rf_iconst (n := 8) (0 : Int32) dX9_leastNow_7 cciconst_0 rfl ?_
  refine rf_istore_n (lc2 := [some (.ref 57), some (.int v1), some (.int (0 : Int32)), none, none]) (n := 9) 2 dX9_leastNow_8 rfl rfl (Nat.le_of_ble_eq_true rfl) rfl rfl ?_
  refine rf_sipush (n := 12) (10000 : Int32) dX9_leastNow_9 ccsipush_10000 rfl ?_
  refine rf_istore_n (lc2 := [some (.ref 57), some (.int v1), some (.int (0 : Int32)), some (.int (10000 : Int32)), none]) (n := 13) 3 dX9_leastNow_12 rfl rfl (Nat.le_of_ble_eq_true rfl) rfl rfl ?_
  exact pX9_leastNow_L13 hG _ _ _ _ _
def fX9_leastPeriod (μ : ax_M) : Option (Int32 × ax_M) :=
  (ax_let (ax_wi μ 57 0 (0 : Int32)) (fun m1 => (ax_bd (fX9_leastNow m1) (fun v2 m3 => (some (v2, m3))))))
theorem okX9_leastPeriod (μ : ax_M) : ax_Ok mX9_leastPeriod 7 ax_jI [.ref 57] μ (fX9_leastPeriod μ) := by
  refine ax_start (lc := [some (.ref 57)]) 0 (by decide +kernel) rfl (Nat.le_of_ble_eq_true rfl) (fun x G hG => ?_)
  unfold fX9_leastPeriod
  refine rf_aload_n (n := 1) 0 dX9_leastPeriod_0 rfl rfl rfl ?_
  refine rf_iconst (n := 2) (0 : Int32) dX9_leastPeriod_1 cciconst_0 rfl ?_
  refine rf_pfI (n := 5) hG rfl dX9_leastPeriod_2 flX9_103 ki_9_0 nf_9_0 sS_57 kk_57 rfl (fun m1 => ?_)
  refine rf_aload_n (n := 6) 0 dX9_leastPeriod_5 rfl rfl rfl ?_
  refine rf_cV0I (n := 9) hG (okX9_leastNow _) lVX9_366 hhX9_leastNow kk_57 sS_57 ⟨_, rfl, rfl⟩ dX9_leastPeriod_6 rfl (Nat.le_of_ble_eq_true rfl) (Nat.le_of_ble_eq_true rfl) (fun v2 m3 => ?_)
  exact rf_retI rfl dX9_leastPeriod_9
def fX6_cutHas_B2 (l1 : Int32) (r2 : Int32 → ax_M → Option (Int32 × ax_M)) (l2 : Int32) (μ : ax_M) : Option (Int32 × ax_M) :=
  (if (μ.1 49 8) ≤ l2 then (some ((0 : Int32), μ)) else (Option.bind (ax_rd μ 56 11 l2) (fun v1 => (if v1 = l1 then (some ((1 : Int32), μ)) else (r2 (l2 + (1 : Int32)) μ)))))
theorem pX6_cutHas_B2 {x : ax_X} {G : ax_G} (hG : ax_ok G) (l1 : Int32) (r2 : Int32 → ax_M → Option (Int32 × ax_M)) (hr2 : ∀ (a2 : Int32) (μ : ax_M), ax_Rf mX6_cutHas 0 x (ax_Z ax_jI x G) G 0 0 2 [some (.ref 49), some (.int l1), some (.int a2)] [] μ (r2 a2 μ)) (l2 : Int32) (μ : ax_M) : ax_Rf mX6_cutHas 0 x (ax_Z ax_jI x G) G 0 0 2 [some (.ref 49), some (.int l1), some (.int l2)] [] μ (fX6_cutHas_B2 l1 r2 l2 μ) := by
  unfold fX6_cutHas_B2
  refine rf_iload_n (n := 3) 2 dX6_cutHas_2 rfl rfl rfl ?_
  refine rf_aload_n (n := 4) 0 dX6_cutHas_3 rfl rfl rfl ?_
  refine rf_getI (n := 7) hG dX6_cutHas_4 flX6_86 ki_6_8 sS_49 kk_49 rfl ?_
  refine rf_icmp_ge (tg := 28) (n := 10) dX6_cutHas_7 rfl rfl (fun c3 => ?_) (fun c3 => ?_)
  · refine rf_iconst (n := 29) (0 : Int32) dX6_cutHas_28 cciconst_0 rfl ?_
    exact rf_retB rfl (Or.inl rfl) dX6_cutHas_29
  · refine rf_aload_n (n := 11) 0 dX6_cutHas_10 rfl rfl rfl ?_
    refine rf_getR (n := 14) rr_49_7 kk_56 hG dX6_cutHas_11 flX6_30 ki_6_7 sS_49 kk_49 rfl ?_
    refine rf_iload_n (n := 15) 2 dX6_cutHas_14 rfl rfl rfl ?_
    refine rf_iald (n := 16) hG dX6_cutHas_15 sS_56 kk_56 rfl (fun v1 => ?_)
    refine rf_iload_n (n := 17) 1 dX6_cutHas_16 rfl rfl rfl ?_
    refine rf_icmp_ne (tg := 22) (n := 20) dX6_cutHas_17 rfl rfl (fun c2 => ?_) (fun c2 => ?_)
    · refine rf_iinc (lc2 := [some (.ref 49), some (.int l1), some (.int (l2 + (1 : Int32)))]) (n := 25) (w := (1 : Int32)) 2 dX6_cutHas_22 rfl rfl rfl (Nat.le_of_ble_eq_true rfl) rfl rfl ?_
      refine rf_goto (tg := 2) dX6_cutHas_25 rfl ?_
      exact hr2 _ _
    · refine rf_iconst (n := 21) (1 : Int32) dX6_cutHas_20 cciconst_1 rfl ?_
      exact rf_retB rfl (Or.inr rfl) dX6_cutHas_21
theorem pX6_cutHas_L2 {x : ax_X} {G : ax_G} (hG : ax_ok G) (l1 : Int32) (n : Nat) (a2 : Int32) (μ : ax_M) : ax_Rf mX6_cutHas 0 x (ax_Z ax_jI x G) G 0 0 2 [some (.ref 49), some (.int l1), some (.int a2)] [] μ (ax_lp1 (fX6_cutHas_B2 l1) n a2 μ) :=
  rf_lp1 (P := fun a2 μ t => ax_Rf mX6_cutHas 0 x (ax_Z ax_jI x G) G 0 0 2 [some (.ref 49), some (.int l1), some (.int a2)] [] μ t) (fun _ _ => rf_none) (fun rc hrc a2 μ => pX6_cutHas_B2 hG l1 rc hrc a2 μ) n a2 μ
def fX6_cutHas (p1 : Int32) (μ : ax_M) : Option (Int32 × ax_M) :=
  (ax_lp1 (fX6_cutHas_B2 p1) ax_FU (0 : Int32) μ)
theorem okX6_cutHas (p1 : Int32) (μ : ax_M) : ax_Ok mX6_cutHas 0 ax_jI [.ref 49, .int p1] μ (fX6_cutHas p1 μ) := by
  refine ax_start (lc := [some (.ref 49), some (.int p1), none]) 1 (by decide +kernel) rfl (Nat.le_of_ble_eq_true rfl) (fun x G hG => ?_)
  unfold fX6_cutHas
  refine rf_iconst (n := 1) (0 : Int32) dX6_cutHas_0 cciconst_0 rfl ?_
  refine rf_istore_n (lc2 := [some (.ref 49), some (.int p1), some (.int (0 : Int32))]) (n := 2) 2 dX6_cutHas_1 rfl rfl (Nat.le_of_ble_eq_true rfl) rfl rfl ?_
  exact pX6_cutHas_L2 hG _ _ _ _
def fX6_beyond (p1 : Int32) (μ : ax_M) : Option (Int32 × ax_M) :=
  (ax_bd (fX6_cutSpan μ) (fun v1 m2 => (some (((μ.1 49 9) - (p1 * v1)), m2))))
theorem okX6_beyond (p1 : Int32) (μ : ax_M) : ax_Ok mX6_beyond 2 ax_jI [.ref 49, .int p1] μ (fX6_beyond p1 μ) := by
  refine ax_start (lc := [some (.ref 49), some (.int p1)]) 0 (by decide +kernel) rfl (Nat.le_of_ble_eq_true rfl) (fun x G hG => ?_)
  unfold fX6_beyond
  refine rf_aload_n (n := 1) 0 dX6_beyond_0 rfl rfl rfl ?_
  refine rf_getI (n := 4) hG dX6_beyond_1 flX6_89 ki_6_9 sS_49 kk_49 rfl ?_
  refine rf_iload_n (n := 5) 1 dX6_beyond_4 rfl rfl rfl ?_
  refine rf_aload_n (n := 6) 0 dX6_beyond_5 rfl rfl rfl ?_
  refine rf_cV0I (n := 9) hG (okX6_cutSpan _) lVX6_104 hhX6_cutSpan kk_49 sS_49 ⟨_, rfl, rfl⟩ dX6_beyond_6 rfl (Nat.le_of_ble_eq_true rfl) (Nat.le_of_ble_eq_true rfl) (fun v1 m2 => ?_)
  refine rf_imul (n := 10) dX6_beyond_9 rfl ?_
  refine rf_isub (n := 11) dX6_beyond_10 rfl ?_
  exact rf_retI rfl dX6_beyond_11
def fX4_slowestDelay_K132 (l1 : Int32) (l2 : Int32) (l3 : Int32) (μ : ax_M) : Option (Int32 × ax_M) :=
  (Option.bind (ax_wr μ 13 24 l1 l2) (fun m2 => (some (l3, m2))))
theorem pX4_slowestDelay_K132 {x : ax_X} {G : ax_G} (hG : ax_ok G) (l1 : Int32) (l2 : Int32) (l3 : Int32) (μ : ax_M) : ax_Rf mX4_slowestDelay 4 x (ax_Z ax_jI x G) G 0 0 132 [some (.ref 46), some (.int l1), some (.int l2), some (.int l3), none, none] [] μ (fX4_slowestDelay_K132 l1 l2 l3 μ) := by
  unfold fX4_slowestDelay_K132
  refine rf_aload_n (n := 133) 0 dX4_slowestDelay_132 rfl rfl rfl ?_
  refine rf_getR (n := 136) rr_46_0 kk_2 hG dX4_slowestDelay_133 flX4_18 ki_4_0 sS_46 kk_46 rfl ?_
  refine rf_getR (n := 139) rr_2_10 kk_13 hG dX4_slowestDelay_136 flX4_42 ki_1_10 sS_2 kk_2 rfl ?_
  refine rf_iload_n (n := 140) 1 dX4_slowestDelay_139 rfl rfl rfl ?_
  refine rf_iload_n (n := 141) 2 dX4_slowestDelay_140 rfl rfl rfl ?_
  refine rf_iast (n := 142) hG dX4_slowestDelay_141 sS_13 kk_13 rfl (fun m2 => ?_)
  refine rf_iload_n (n := 143) 3 dX4_slowestDelay_142 rfl rfl rfl ?_
  exact rf_retI rfl dX4_slowestDelay_143
def fX4_slowestDelay_B21 (l1 : Int32) (l2 : Int32) (l3 : Int32) (r21 : Int32 → Int32 → ax_M → Option (Int32 × ax_M)) (l4 : Int32) (l5 : Int32) (μ : ax_M) : Option (Int32 × ax_M) :=
  (if (999 : Int32) < l5 then (fX4_slowestDelay_K132 l1 l2 l3 μ) else (Option.bind (ax_rd μ 14 24 l1) (fun v3 => (if l4 < v3 then (fX4_slowestDelay_K132 l1 l2 l3 μ) else (Option.bind (ax_wr μ 13 24 l1 l4) (fun m4 => (ax_bd (fX6_load m4) (fun _ m6 => (ax_bd (fX6_holds (m6.1 2 16) m6) (fun v7 m8 => (if v7 = 0 then (ax_bd (fX6_cutHas l1 m8) (fun v9 m10 => (if v9 = 0 then (fX4_slowestDelay_K132 l1 l2 l3 m10) else (ax_bd (fX6_beyond (m10.1 2 16) m10) (fun v11 m12 => (ax_bd (fX8_roundedUp v11 (64 : Int32) m12) (fun v13 m14 => (ax_let (l4 - (ax_mx (1 : Int32) v13)) (fun v15 => (r21 v15 (l5 + (1 : Int32)) m14)))))))))) else (fX4_slowestDelay_K132 l1 l2 l4 m8))))))))))))
theorem pX4_slowestDelay_B21 {x : ax_X} {G : ax_G} (hG : ax_ok G) (l1 : Int32) (l2 : Int32) (l3 : Int32) (r21 : Int32 → Int32 → ax_M → Option (Int32 × ax_M)) (hr21 : ∀ (a4 : Int32) (a5 : Int32) (μ : ax_M), ax_Rf mX4_slowestDelay 4 x (ax_Z ax_jI x G) G 0 0 21 [some (.ref 46), some (.int l1), some (.int l2), some (.int l3), some (.int a4), some (.int a5)] [] μ (r21 a4 a5 μ)) (l4 : Int32) (l5 : Int32) (μ : ax_M) : ax_Rf mX4_slowestDelay 4 x (ax_Z ax_jI x G) G 0 0 21 [some (.ref 46), some (.int l1), some (.int l2), some (.int l3), some (.int l4), some (.int l5)] [] μ (fX4_slowestDelay_B21 l1 l2 l3 r21 l4 l5 μ) := by
  unfold fX4_slowestDelay_B21
  refine rf_iload (n := 23) 5 dX4_slowestDelay_21 rfl rfl ?_
  refine rf_sipush (n := 26) (999 : Int32) dX4_slowestDelay_23 ccsipush_999 rfl ?_
  refine rf_icmp_gt (tg := 132) (n := 29) dX4_slowestDelay_26 rfl rfl (fun c19 => ?_) (fun c19 => ?_)
  · refine rf_mask (lc2 := [some (.ref 46), some (.int l1), some (.int l2), some (.int l3), none, none]) [true, true, true, true, false, false] rfl ?_
    exact pX4_slowestDelay_K132 hG _ _ _ _
  · refine rf_iload (n := 31) 4 dX4_slowestDelay_29 rfl rfl ?_
    refine rf_aload_n (n := 32) 0 dX4_slowestDelay_31 rfl rfl rfl ?_
    refine rf_getR (n := 35) rr_46_0 kk_2 hG dX4_slowestDelay_32 flX4_18 ki_4_0 sS_46 kk_46 rfl ?_
    refine rf_getR (n := 38) rr_2_11 kk_14 hG dX4_slowestDelay_35 flX4_47 ki_1_11 sS_2 kk_2 rfl ?_
    refine rf_iload_n (n := 39) 1 dX4_slowestDelay_38 rfl rfl rfl ?_
    refine rf_iald (n := 40) hG dX4_slowestDelay_39 sS_14 kk_14 rfl (fun v3 => ?_)
    refine rf_icmp_lt (tg := 132) (n := 43) dX4_slowestDelay_40 rfl rfl (fun c18 => ?_) (fun c18 => ?_)
    · refine rf_mask (lc2 := [some (.ref 46), some (.int l1), some (.int l2), some (.int l3), none, none]) [true, true, true, true, false, false] rfl ?_
      exact pX4_slowestDelay_K132 hG _ _ _ _
    · refine rf_aload_n (n := 44) 0 dX4_slowestDelay_43 rfl rfl rfl ?_
      refine rf_getR (n := 47) rr_46_0 kk_2 hG dX4_slowestDelay_44 flX4_18 ki_4_0 sS_46 kk_46 rfl ?_
      refine rf_getR (n := 50) rr_2_10 kk_13 hG dX4_slowestDelay_47 flX4_42 ki_1_10 sS_2 kk_2 rfl ?_
      refine rf_iload_n (n := 51) 1 dX4_slowestDelay_50 rfl rfl rfl ?_
      refine rf_iload (n := 53) 4 dX4_slowestDelay_51 rfl rfl ?_
      refine rf_iast (n := 54) hG dX4_slowestDelay_53 sS_13 kk_13 rfl (fun m4 => ?_)
      refine rf_aload_n (n := 55) 0 dX4_slowestDelay_54 rfl rfl rfl ?_
      refine rf_getR (n := 58) rr_46_2 kk_49 hG dX4_slowestDelay_55 flX4_31 ki_4_2 sS_46 kk_46 rfl ?_
      refine rf_cV0V (n := 61) hG (okX6_load _) lVX4_35 hhX6_load kk_49 sS_49 ⟨_, rfl, rfl⟩ dX4_slowestDelay_58 rfl (Nat.le_of_ble_eq_true rfl) (Nat.le_of_ble_eq_true rfl) (fun _ m6 => ?_)
      refine rf_aload_n (n := 62) 0 dX4_slowestDelay_61 rfl rfl rfl ?_
      refine rf_getR (n := 65) rr_46_2 kk_49 hG dX4_slowestDelay_62 flX4_31 ki_4_2 sS_46 kk_46 rfl ?_
      refine rf_aload_n (n := 66) 0 dX4_slowestDelay_65 rfl rfl rfl ?_
      refine rf_getR (n := 69) rr_46_0 kk_2 hG dX4_slowestDelay_66 flX4_18 ki_4_0 sS_46 kk_46 rfl ?_
      refine rf_getI (n := 72) hG dX4_slowestDelay_69 flX4_50 ki_1_16 sS_2 kk_2 rfl ?_
      refine rf_cV1I (n := 75) hG (okX6_holds _ _) lVX4_54 hhX6_holds kk_49 sS_49 ⟨_, rfl, rfl⟩ dX4_slowestDelay_72 rfl (Nat.le_of_ble_eq_true rfl) (Nat.le_of_ble_eq_true rfl) (fun v7 m8 => ?_)
      refine rf_if_eq (tg := 84) (n := 78) dX4_slowestDelay_75 rfl rfl (fun c17 => ?_) (fun c17 => ?_)
      · refine rf_aload_n (n := 85) 0 dX4_slowestDelay_84 rfl rfl rfl ?_
        refine rf_getR (n := 88) rr_46_2 kk_49 hG dX4_slowestDelay_85 flX4_31 ki_4_2 sS_46 kk_46 rfl ?_
        refine rf_iload_n (n := 89) 1 dX4_slowestDelay_88 rfl rfl rfl ?_
        refine rf_cV1I (n := 92) hG (okX6_cutHas _ _) lVX4_58 hhX6_cutHas kk_49 sS_49 ⟨_, rfl, rfl⟩ dX4_slowestDelay_89 rfl (Nat.le_of_ble_eq_true rfl) (Nat.le_of_ble_eq_true rfl) (fun v9 m10 => ?_)
        refine rf_if_ne (tg := 98) (n := 95) dX4_slowestDelay_92 rfl rfl (fun c16 => ?_) (fun c16 => ?_)
        · refine rf_iload (n := 100) 4 dX4_slowestDelay_98 rfl rfl ?_
          refine rf_iconst (n := 101) (1 : Int32) dX4_slowestDelay_100 cciconst_1 rfl ?_
          refine rf_aload_n (n := 102) 0 dX4_slowestDelay_101 rfl rfl rfl ?_
          refine rf_getR (n := 105) rr_46_2 kk_49 hG dX4_slowestDelay_102 flX4_31 ki_4_2 sS_46 kk_46 rfl ?_
          refine rf_aload_n (n := 106) 0 dX4_slowestDelay_105 rfl rfl rfl ?_
          refine rf_getR (n := 109) rr_46_0 kk_2 hG dX4_slowestDelay_106 flX4_18 ki_4_0 sS_46 kk_46 rfl ?_
          refine rf_getI (n := 112) hG dX4_slowestDelay_109 flX4_50 ki_1_16 sS_2 kk_2 rfl ?_
          refine rf_cV1I (n := 115) hG (okX6_beyond _ _) lVX4_61 hhX6_beyond kk_49 sS_49 ⟨_, rfl, rfl⟩ dX4_slowestDelay_112 rfl (Nat.le_of_ble_eq_true rfl) (Nat.le_of_ble_eq_true rfl) (fun v11 m12 => ?_)
          refine rf_bipush (n := 117) (64 : Int32) dX4_slowestDelay_115 ccbipush_64 rfl ?_
          refine rf_cN2I (n := 120) hG (okX8_roundedUp _ _ _) lNX4_65 hhX8_roundedUp dX4_slowestDelay_117 rfl (Nat.le_of_ble_eq_true rfl) (Nat.le_of_ble_eq_true rfl) (fun v13 m14 => ?_)
          refine rf_max (n := 123) dX4_slowestDelay_120 mxX4_68 ax_maxw (Nat.le_of_ble_eq_true rfl) (Nat.le_of_ble_eq_true rfl) rfl ?_
          refine rf_isub (n := 124) dX4_slowestDelay_123 rfl ?_
          refine rf_letI (fun v15 => ?_)
          refine rf_istore (lc2 := [some (.ref 46), some (.int l1), some (.int l2), some (.int l3), some (.int v15), some (.int l5)]) (n := 126) 4 dX4_slowestDelay_124 rfl (Nat.le_of_ble_eq_true rfl) rfl rfl ?_
          refine rf_iinc (lc2 := [some (.ref 46), some (.int l1), some (.int l2), some (.int l3), some (.int v15), some (.int (l5 + (1 : Int32)))]) (n := 129) (w := (1 : Int32)) 5 dX4_slowestDelay_126 rfl rfl rfl (Nat.le_of_ble_eq_true rfl) rfl rfl ?_
          refine rf_goto (tg := 21) dX4_slowestDelay_129 rfl ?_
          exact hr21 _ _ _
        · refine rf_goto (tg := 132) dX4_slowestDelay_95 rfl ?_
          refine rf_mask (lc2 := [some (.ref 46), some (.int l1), some (.int l2), some (.int l3), none, none]) [true, true, true, true, false, false] rfl ?_
          exact pX4_slowestDelay_K132 hG _ _ _ _
      · refine rf_iload (n := 80) 4 dX4_slowestDelay_78 rfl rfl ?_
        refine rf_istore_n (lc2 := [some (.ref 46), some (.int l1), some (.int l2), some (.int l4), some (.int l4), some (.int l5)]) (n := 81) 3 dX4_slowestDelay_80 rfl rfl (Nat.le_of_ble_eq_true rfl) rfl rfl ?_
        refine rf_goto (tg := 132) dX4_slowestDelay_81 rfl ?_
        refine rf_mask (lc2 := [some (.ref 46), some (.int l1), some (.int l2), some (.int l4), none, none]) [true, true, true, true, false, false] rfl ?_
        exact pX4_slowestDelay_K132 hG _ _ _ _
theorem pX4_slowestDelay_L21 {x : ax_X} {G : ax_G} (hG : ax_ok G) (l1 : Int32) (l2 : Int32) (l3 : Int32) (n : Nat) (a4 : Int32) (a5 : Int32) (μ : ax_M) : ax_Rf mX4_slowestDelay 4 x (ax_Z ax_jI x G) G 0 0 21 [some (.ref 46), some (.int l1), some (.int l2), some (.int l3), some (.int a4), some (.int a5)] [] μ (ax_lp2 (fX4_slowestDelay_B21 l1 l2 l3) n a4 a5 μ) :=
  rf_lp2 (P := fun a4 a5 μ t => ax_Rf mX4_slowestDelay 4 x (ax_Z ax_jI x G) G 0 0 21 [some (.ref 46), some (.int l1), some (.int l2), some (.int l3), some (.int a4), some (.int a5)] [] μ t) (fun _ _ _ => rf_none) (fun rc hrc a4 a5 μ => pX4_slowestDelay_B21 hG l1 l2 l3 rc hrc a4 a5 μ) n a4 a5 μ
def fX4_slowestDelay (p1 : Int32) (μ : ax_M) : Option (Int32 × ax_M) :=
  (Option.bind (ax_rd μ 13 24 p1) (fun v1 => (ax_lp2 (fX4_slowestDelay_B21 p1 v1 (-2 : Int32)) ax_FU (999 : Int32) (0 : Int32) μ)))
theorem okX4_slowestDelay (p1 : Int32) (μ : ax_M) : ax_Ok mX4_slowestDelay 4 ax_jI [.ref 46, .int p1] μ (fX4_slowestDelay p1 μ) := by
  refine ax_start (lc := [some (.ref 46), some (.int p1), none, none, none, none]) 4 (by decide +kernel) rfl (Nat.le_of_ble_eq_true rfl) (fun x G hG => ?_)
  unfold fX4_slowestDelay
  refine rf_aload_n (n := 1) 0 dX4_slowestDelay_0 rfl rfl rfl ?_
  refine rf_getR (n := 4) rr_46_0 kk_2 hG dX4_slowestDelay_1 flX4_18 ki_4_0 sS_46 kk_46 rfl ?_
  refine rf_getR (n := 7) rr_2_10 kk_13 hG dX4_slowestDelay_4 flX4_42 ki_1_10 sS_2 kk_2 rfl ?_
  refine rf_iload_n (n := 8) 1 dX4_slowestDelay_7 rfl rfl rfl ?_
  refine rf_iald (n := 9) hG dX4_slowestDelay_8 sS_13 kk_13 rfl (fun v1 => ?_)
  refine rf_istore_n (lc2 := [some (.ref 46), some (.int p1), some (.int v1), none, none, none]) (n := 10) 2 dX4_slowestDelay_9 rfl rfl (Nat.le_of_ble_eq_true rfl) rfl rfl ?_
  refine rf_bipush (n := 12) (-2 : Int32) dX4_slowestDelay_10 ccbipush_m2 rfl ?_
  refine rf_istore_n (lc2 := [some (.ref 46), some (.int p1), some (.int v1), some (.int (-2 : Int32)), none, none]) (n := 13) 3 dX4_slowestDelay_12 rfl rfl (Nat.le_of_ble_eq_true rfl) rfl rfl ?_
  refine rf_sipush (n := 16) (999 : Int32) dX4_slowestDelay_13 ccsipush_999 rfl ?_
  refine rf_istore (lc2 := [some (.ref 46), some (.int p1), some (.int v1), some (.int (-2 : Int32)), some (.int (999 : Int32)), none]) (n := 18) 4 dX4_slowestDelay_16 rfl (Nat.le_of_ble_eq_true rfl) rfl rfl ?_
  refine rf_iconst (n := 19) (0 : Int32) dX4_slowestDelay_18 cciconst_0 rfl ?_
  refine rf_istore (lc2 := [some (.ref 46), some (.int p1), some (.int v1), some (.int (-2 : Int32)), some (.int (999 : Int32)), some (.int (0 : Int32))]) (n := 21) 5 dX4_slowestDelay_19 rfl (Nat.le_of_ble_eq_true rfl) rfl rfl ?_
  exact pX4_slowestDelay_L21 hG _ _ _ _ _ _ _
def fX8_slower_K23 (s0 : Int32) (μ : ax_M) : Option (Int32 × ax_M) :=
  (some (s0, μ))
theorem pX8_slower_K23 {x : ax_X} {G : ax_G} (hG : ax_ok G) (s0 : Int32) (μ : ax_M) : ax_Rf mX8_slower 5 x (ax_Z ax_jI x G) G 0 0 23 [none, none] [.int s0] μ (fX8_slower_K23 s0 μ) := by
  unfold fX8_slower_K23
  exact rf_retI rfl dX8_slower_23
def fX8_slower (p1 : Int32) (μ : ax_M) : Option (Int32 × ax_M) :=
  (ax_bd (fX1_hasPath p1 μ) (fun v1 m2 => (if v1 = 0 then (fX8_slower_K23 (-1 : Int32) m2) else (ax_bd (fX4_slowestDelay p1 m2) (fun v3 m4 => (fX8_slower_K23 v3 m4))))))
theorem okX8_slower (p1 : Int32) (μ : ax_M) : ax_Ok mX8_slower 5 ax_jI [.ref 0, .int p1] μ (fX8_slower p1 μ) := by
  refine ax_start (lc := [some (.ref 0), some (.int p1)]) 0 (by decide +kernel) rfl (Nat.le_of_ble_eq_true rfl) (fun x G hG => ?_)
  unfold fX8_slower
  refine rf_aload_n (n := 1) 0 dX8_slower_0 rfl rfl rfl ?_
  refine rf_getR (n := 4) rr_0_2 kk_2 hG dX8_slower_1 flX8_16 ki_8_2 sS_0 kk_0 rfl ?_
  refine rf_iload_n (n := 5) 1 dX8_slower_4 rfl rfl rfl ?_
  refine rf_cV1I (n := 8) hG (okX1_hasPath _ _) lVX8_143 hhX1_hasPath kk_2 sS_2 ⟨_, rfl, rfl⟩ dX8_slower_5 rfl (Nat.le_of_ble_eq_true rfl) (Nat.le_of_ble_eq_true rfl) (fun v1 m2 => ?_)
  refine rf_if_eq (tg := 22) (n := 11) dX8_slower_8 rfl rfl (fun c5 => ?_) (fun c5 => ?_)
  · refine rf_iconst (n := 23) (-1 : Int32) dX8_slower_22 cciconst_m1 rfl ?_
    refine rf_mask (lc2 := [none, none]) [false, false] rfl ?_
    exact pX8_slower_K23 hG _ _
  · refine rf_aload_n (n := 12) 0 dX8_slower_11 rfl rfl rfl ?_
    refine rf_getR (n := 15) rr_0_8 kk_46 hG dX8_slower_12 flX8_64 ki_8_8 sS_0 kk_0 rfl ?_
    refine rf_iload_n (n := 16) 1 dX8_slower_15 rfl rfl rfl ?_
    refine rf_cV1I (n := 19) hG (okX4_slowestDelay _ _) lVX8_278 hhX4_slowestDelay kk_46 sS_46 ⟨_, rfl, rfl⟩ dX8_slower_16 rfl (Nat.le_of_ble_eq_true rfl) (Nat.le_of_ble_eq_true rfl) (fun v3 m4 => ?_)
    refine rf_goto (tg := 23) dX8_slower_19 rfl ?_
    refine rf_mask (lc2 := [none, none]) [false, false] rfl ?_
    exact pX8_slower_K23 hG _ _
