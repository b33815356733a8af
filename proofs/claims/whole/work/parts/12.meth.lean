def fX9_readLine_K151 (μ : ax_M) : Option (Unit × ax_M) :=
  (ax_bd (fX9_goOn μ) (fun _ m4 => (ax_let (ax_wi m4 57 18 ((m4.1 57 18) + (1 : Int32))) (fun m5 => (some ((), m5))))))
theorem pX9_readLine_K151 {x : ax_X} {G : ax_G} (hG : ax_ok G) (μ : ax_M) : ax_Rf mX9_readLine 9 x (ax_Z ax_jV x G) G 0 0 151 [some (.ref 57)] [] μ (fX9_readLine_K151 μ) := by
  unfold fX9_readLine_K151
  refine rf_aload_n (n := 152) 0 dX9_readLine_151 rfl rfl rfl ?_
  refine rf_cV0V (n := 155) hG (okX9_goOn _) lVX9_166 hhX9_goOn kk_57 sS_57 ⟨_, rfl, rfl⟩ dX9_readLine_152 rfl (Nat.le_of_ble_eq_true rfl) (Nat.le_of_ble_eq_true rfl) (fun _ m4 => ?_)
  refine rf_aload_n (n := 156) 0 dX9_readLine_155 rfl rfl rfl ?_
  refine rf_dupR (n := 157) dX9_readLine_156 rfl ?_
  refine rf_getI (n := 160) hG dX9_readLine_157 flX9_211 ki_9_18 sS_57 kk_57 rfl ?_
  refine rf_iconst (n := 161) (1 : Int32) dX9_readLine_160 cciconst_1 rfl ?_
  refine rf_iadd (n := 162) dX9_readLine_161 rfl ?_
  refine rf_pfI (n := 165) hG rfl dX9_readLine_162 flX9_211 ki_9_18 nf_9_18 sS_57 kk_57 rfl (fun m5 => ?_)
  exact rf_retV rfl dX9_readLine_165
def fX9_readLine_K131 (μ : ax_M) : Option (Unit × ax_M) :=
  (if (μ.1 57 24) = 0 then (if (μ.1 57 22) = (3 : Int32) then (fX9_readLine_K151 μ) else (ax_bd (fX9_wrong (1 : Int32) μ) (fun _ m7 => (fX9_readLine_K151 m7)))) else (fX9_readLine_K151 μ))
theorem pX9_readLine_K131 {x : ax_X} {G : ax_G} (hG : ax_ok G) (μ : ax_M) : ax_Rf mX9_readLine 9 x (ax_Z ax_jV x G) G 0 0 131 [some (.ref 57)] [] μ (fX9_readLine_K131 μ) := by
  unfold fX9_readLine_K131
  refine rf_aload_n (n := 132) 0 dX9_readLine_131 rfl rfl rfl ?_
  refine rf_getI (n := 135) hG dX9_readLine_132 flX9_153 ki_9_24 sS_57 kk_57 rfl ?_
  refine rf_if_ne (tg := 151) (n := 138) dX9_readLine_135 rfl rfl (fun c9 => ?_) (fun c9 => ?_)
  · exact pX9_readLine_K151 hG _
  · refine rf_aload_n (n := 139) 0 dX9_readLine_138 rfl rfl rfl ?_
    refine rf_getI (n := 142) hG dX9_readLine_139 flX9_122 ki_9_22 sS_57 kk_57 rfl ?_
    refine rf_iconst (n := 143) (3 : Int32) dX9_readLine_142 cciconst_3 rfl ?_
    refine rf_icmp_eq (tg := 151) (n := 146) dX9_readLine_143 rfl rfl (fun c8 => ?_) (fun c8 => ?_)
    · exact pX9_readLine_K151 hG _
    · refine rf_aload_n (n := 147) 0 dX9_readLine_146 rfl rfl rfl ?_
      refine rf_iconst (n := 148) (1 : Int32) dX9_readLine_147 cciconst_1 rfl ?_
      refine rf_cV1V (n := 151) hG (okX9_wrong _ _) lVX9_162 hhX9_wrong kk_57 sS_57 ⟨_, rfl, rfl⟩ dX9_readLine_148 rfl (Nat.le_of_ble_eq_true rfl) (Nat.le_of_ble_eq_true rfl) (fun _ m7 => ?_)
      exact pX9_readLine_K151 hG _
def fX9_readLine_K80 (s1 : Int32) (μ : ax_M) : Option (Unit × ax_M) :=
  (ax_bd (fX9_readCell s1 μ) (fun _ m2 => (fX9_readLine_K131 m2)))
theorem pX9_readLine_K80 {x : ax_X} {G : ax_G} (hG : ax_ok G) (s1 : Int32) (μ : ax_M) : ax_Rf mX9_readLine 9 x (ax_Z ax_jV x G) G 0 0 80 [some (.ref 57)] [.int s1, .ref 57] μ (fX9_readLine_K80 s1 μ) := by
  unfold fX9_readLine_K80
  refine rf_cV1V (n := 83) hG (okX9_readCell _ _) lVX9_204 hhX9_readCell kk_57 sS_57 ⟨_, rfl, rfl⟩ dX9_readLine_80 rfl (Nat.le_of_ble_eq_true rfl) (Nat.le_of_ble_eq_true rfl) (fun _ m2 => ?_)
  refine rf_goto (tg := 131) dX9_readLine_83 rfl ?_
  exact pX9_readLine_K131 hG _
def fX9_readLine_K66 (μ : ax_M) : Option (Unit × ax_M) :=
  (if (μ.1 57 23) = (3 : Int32) then (fX9_readLine_K80 (1 : Int32) μ) else (fX9_readLine_K80 (0 : Int32) μ))
theorem pX9_readLine_K66 {x : ax_X} {G : ax_G} (hG : ax_ok G) (μ : ax_M) : ax_Rf mX9_readLine 9 x (ax_Z ax_jV x G) G 0 0 66 [some (.ref 57)] [] μ (fX9_readLine_K66 μ) := by
  unfold fX9_readLine_K66
  refine rf_aload_n (n := 67) 0 dX9_readLine_66 rfl rfl rfl ?_
  refine rf_aload_n (n := 68) 0 dX9_readLine_67 rfl rfl rfl ?_
  refine rf_getI (n := 71) hG dX9_readLine_68 flX9_132 ki_9_23 sS_57 kk_57 rfl ?_
  refine rf_iconst (n := 72) (3 : Int32) dX9_readLine_71 cciconst_3 rfl ?_
  refine rf_icmp_ne (tg := 79) (n := 75) dX9_readLine_72 rfl rfl (fun c10 => ?_) (fun c10 => ?_)
  · refine rf_iconst (n := 80) (0 : Int32) dX9_readLine_79 cciconst_0 rfl ?_
    exact pX9_readLine_K80 hG _ _
  · refine rf_iconst (n := 76) (1 : Int32) dX9_readLine_75 cciconst_1 rfl ?_
    refine rf_goto (tg := 80) dX9_readLine_76 rfl ?_
    exact pX9_readLine_K80 hG _ _
def fX9_readLine (μ : ax_M) : Option (Unit × ax_M) :=
  (if (μ.1 57 22) = 0 then (if (μ.1 57 23) = 0 then (ax_bd (fX9_readOnce (0 : Int32) (0 : Int32) (1 : Int32) (9999 : Int32) μ) (fun _ m25 => (fX9_readLine_K131 m25))) else (if (μ.1 57 23) = (1 : Int32) then (ax_bd (fX9_readPhase μ) (fun _ m22 => (fX9_readLine_K131 m22))) else (if (μ.1 57 23) = (2 : Int32) then (fX9_readLine_K66 μ) else (if (μ.1 57 23) = (3 : Int32) then (fX9_readLine_K66 μ) else (if (μ.1 57 23) = (4 : Int32) then (ax_bd (fX9_readPath μ) (fun _ m17 => (fX9_readLine_K131 m17))) else (if (μ.1 57 23) = (5 : Int32) then (ax_bd (fX9_readOnce (5 : Int32) (5 : Int32) (0 : Int32) (99 : Int32) μ) (fun _ m14 => (fX9_readLine_K131 m14))) else (ax_bd (fX9_readOnce (6 : Int32) (4 : Int32) (0 : Int32) (99999 : Int32) μ) (fun _ m12 => (fX9_readLine_K131 m12))))))))) else (ax_bd (fX9_wrong (1 : Int32) μ) (fun _ m28 => (fX9_readLine_K131 m28))))
theorem okX9_readLine (μ : ax_M) : ax_Ok mX9_readLine 9 ax_jV [.ref 57] μ (fX9_readLine μ) := by
  refine ax_start (lc := [some (.ref 57)]) 0 (by decide +kernel) rfl (Nat.le_of_ble_eq_true rfl) (fun x G hG => ?_)
  unfold fX9_readLine
  refine rf_aload_n (n := 1) 0 dX9_readLine_0 rfl rfl rfl ?_
  refine rf_getI (n := 4) hG dX9_readLine_1 flX9_122 ki_9_22 sS_57 kk_57 rfl ?_
  refine rf_if_eq (tg := 15) (n := 7) dX9_readLine_4 rfl rfl (fun c29 => ?_) (fun c29 => ?_)
  · refine rf_aload_n (n := 16) 0 dX9_readLine_15 rfl rfl rfl ?_
    refine rf_getI (n := 19) hG dX9_readLine_16 flX9_132 ki_9_23 sS_57 kk_57 rfl ?_
    refine rf_if_ne (tg := 35) (n := 22) dX9_readLine_19 rfl rfl (fun c26 => ?_) (fun c26 => ?_)
    · refine rf_aload_n (n := 36) 0 dX9_readLine_35 rfl rfl rfl ?_
      refine rf_getI (n := 39) hG dX9_readLine_36 flX9_132 ki_9_23 sS_57 kk_57 rfl ?_
      refine rf_iconst (n := 40) (1 : Int32) dX9_readLine_39 cciconst_1 rfl ?_
      refine rf_icmp_ne (tg := 50) (n := 43) dX9_readLine_40 rfl rfl (fun c23 => ?_) (fun c23 => ?_)
      · refine rf_aload_n (n := 51) 0 dX9_readLine_50 rfl rfl rfl ?_
        refine rf_getI (n := 54) hG dX9_readLine_51 flX9_132 ki_9_23 sS_57 kk_57 rfl ?_
        refine rf_iconst (n := 55) (2 : Int32) dX9_readLine_54 cciconst_2 rfl ?_
        refine rf_icmp_eq (tg := 66) (n := 58) dX9_readLine_55 rfl rfl (fun c20 => ?_) (fun c20 => ?_)
        · exact pX9_readLine_K66 hG _
        · refine rf_aload_n (n := 59) 0 dX9_readLine_58 rfl rfl rfl ?_
          refine rf_getI (n := 62) hG dX9_readLine_59 flX9_132 ki_9_23 sS_57 kk_57 rfl ?_
          refine rf_iconst (n := 63) (3 : Int32) dX9_readLine_62 cciconst_3 rfl ?_
          refine rf_icmp_ne (tg := 86) (n := 66) dX9_readLine_63 rfl rfl (fun c19 => ?_) (fun c19 => ?_)
          · refine rf_aload_n (n := 87) 0 dX9_readLine_86 rfl rfl rfl ?_
            refine rf_getI (n := 90) hG dX9_readLine_87 flX9_132 ki_9_23 sS_57 kk_57 rfl ?_
            refine rf_iconst (n := 91) (4 : Int32) dX9_readLine_90 cciconst_4 rfl ?_
            refine rf_icmp_ne (tg := 101) (n := 94) dX9_readLine_91 rfl rfl (fun c18 => ?_) (fun c18 => ?_)
            · refine rf_aload_n (n := 102) 0 dX9_readLine_101 rfl rfl rfl ?_
              refine rf_getI (n := 105) hG dX9_readLine_102 flX9_132 ki_9_23 sS_57 kk_57 rfl ?_
              refine rf_iconst (n := 106) (5 : Int32) dX9_readLine_105 cciconst_5 rfl ?_
              refine rf_icmp_ne (tg := 121) (n := 109) dX9_readLine_106 rfl rfl (fun c15 => ?_) (fun c15 => ?_)
              · refine rf_aload_n (n := 122) 0 dX9_readLine_121 rfl rfl rfl ?_
                refine rf_bipush (n := 124) (6 : Int32) dX9_readLine_122 ccbipush_6 rfl ?_
                refine rf_iconst (n := 125) (4 : Int32) dX9_readLine_124 cciconst_4 rfl ?_
                refine rf_iconst (n := 126) (0 : Int32) dX9_readLine_125 cciconst_0 rfl ?_
                refine rf_ldc (n := 128) dX9_readLine_126 ctX9_141 rfl ?_
                refine rf_cV4V (n := 131) hG (okX9_readOnce _ _ _ _ _) lVX9_197 hhX9_readOnce kk_57 sS_57 ⟨_, rfl, rfl⟩ dX9_readLine_128 rfl (Nat.le_of_ble_eq_true rfl) (Nat.le_of_ble_eq_true rfl) (fun _ m12 => ?_)
                exact pX9_readLine_K131 hG _
              · refine rf_aload_n (n := 110) 0 dX9_readLine_109 rfl rfl rfl ?_
                refine rf_iconst (n := 111) (5 : Int32) dX9_readLine_110 cciconst_5 rfl ?_
                refine rf_iconst (n := 112) (5 : Int32) dX9_readLine_111 cciconst_5 rfl ?_
                refine rf_iconst (n := 113) (0 : Int32) dX9_readLine_112 cciconst_0 rfl ?_
                refine rf_bipush (n := 115) (99 : Int32) dX9_readLine_113 ccbipush_99 rfl ?_
                refine rf_cV4V (n := 118) hG (okX9_readOnce _ _ _ _ _) lVX9_197 hhX9_readOnce kk_57 sS_57 ⟨_, rfl, rfl⟩ dX9_readLine_115 rfl (Nat.le_of_ble_eq_true rfl) (Nat.le_of_ble_eq_true rfl) (fun _ m14 => ?_)
                refine rf_goto (tg := 131) dX9_readLine_118 rfl ?_
                exact pX9_readLine_K131 hG _
            · refine rf_aload_n (n := 95) 0 dX9_readLine_94 rfl rfl rfl ?_
              refine rf_cV0V (n := 98) hG (okX9_readPath _) lVX9_208 hhX9_readPath kk_57 sS_57 ⟨_, rfl, rfl⟩ dX9_readLine_95 rfl (Nat.le_of_ble_eq_true rfl) (Nat.le_of_ble_eq_true rfl) (fun _ m17 => ?_)
              refine rf_goto (tg := 131) dX9_readLine_98 rfl ?_
              exact pX9_readLine_K131 hG _
          · exact pX9_readLine_K66 hG _
      · refine rf_aload_n (n := 44) 0 dX9_readLine_43 rfl rfl rfl ?_
        refine rf_cV0V (n := 47) hG (okX9_readPhase _) lVX9_201 hhX9_readPhase kk_57 sS_57 ⟨_, rfl, rfl⟩ dX9_readLine_44 rfl (Nat.le_of_ble_eq_true rfl) (Nat.le_of_ble_eq_true rfl) (fun _ m22 => ?_)
        refine rf_goto (tg := 131) dX9_readLine_47 rfl ?_
        exact pX9_readLine_K131 hG _
    · refine rf_aload_n (n := 23) 0 dX9_readLine_22 rfl rfl rfl ?_
      refine rf_iconst (n := 24) (0 : Int32) dX9_readLine_23 cciconst_0 rfl ?_
      refine rf_iconst (n := 25) (0 : Int32) dX9_readLine_24 cciconst_0 rfl ?_
      refine rf_iconst (n := 26) (1 : Int32) dX9_readLine_25 cciconst_1 rfl ?_
      refine rf_sipush (n := 29) (9999 : Int32) dX9_readLine_26 ccsipush_9999 rfl ?_
      refine rf_cV4V (n := 32) hG (okX9_readOnce _ _ _ _ _) lVX9_197 hhX9_readOnce kk_57 sS_57 ⟨_, rfl, rfl⟩ dX9_readLine_29 rfl (Nat.le_of_ble_eq_true rfl) (Nat.le_of_ble_eq_true rfl) (fun _ m25 => ?_)
      refine rf_goto (tg := 131) dX9_readLine_32 rfl ?_
      exact pX9_readLine_K131 hG _
  · refine rf_aload_n (n := 8) 0 dX9_readLine_7 rfl rfl rfl ?_
    refine rf_iconst (n := 9) (1 : Int32) dX9_readLine_8 cciconst_1 rfl ?_
    refine rf_cV1V (n := 12) hG (okX9_wrong _ _) lVX9_162 hhX9_wrong kk_57 sS_57 ⟨_, rfl, rfl⟩ dX9_readLine_9 rfl (Nat.le_of_ble_eq_true rfl) (Nat.le_of_ble_eq_true rfl) (fun _ m28 => ?_)
    refine rf_goto (tg := 131) dX9_readLine_12 rfl ?_
    exact pX9_readLine_K131 hG _
def fX9_readText_K50 (μ : ax_M) : Option (Unit × ax_M) :=
  (some ((), μ))
theorem pX9_readText_K50 {x : ax_X} {G : ax_G} (hG : ax_ok G) (μ : ax_M) : ax_Rf mX9_readText 10 x (ax_Z ax_jV x G) G 0 0 50 [none, none] [] μ (fX9_readText_K50 μ) := by
  unfold fX9_readText_K50
  exact rf_retV rfl dX9_readText_50
def fX9_readText_B28 (r28 : ax_M → Option (Unit × ax_M)) (μ : ax_M) : Option (Unit × ax_M) :=
  (if (μ.1 57 24) = 0 then (if (μ.1 57 22) = (4 : Int32) then (fX9_readText_K50 μ) else (ax_bd (fX9_readLine μ) (fun _ m10 => (r28 m10)))) else (fX9_readText_K50 μ))
theorem pX9_readText_B28 {x : ax_X} {G : ax_G} (hG : ax_ok G) (r28 : ax_M → Option (Unit × ax_M)) (hr28 : ∀  (μ : ax_M), ax_Rf mX9_readText 10 x (ax_Z ax_jV x G) G 0 0 28 [some (.ref 57), none] [] μ (r28  μ)) (μ : ax_M) : ax_Rf mX9_readText 10 x (ax_Z ax_jV x G) G 0 0 28 [some (.ref 57), none] [] μ (fX9_readText_B28 r28  μ) := by
  unfold fX9_readText_B28
  refine rf_aload_n (n := 29) 0 dX9_readText_28 rfl rfl rfl ?_
  refine rf_getI (n := 32) hG dX9_readText_29 flX9_153 ki_9_24 sS_57 kk_57 rfl ?_
  refine rf_if_ne (tg := 50) (n := 35) dX9_readText_32 rfl rfl (fun c12 => ?_) (fun c12 => ?_)
  · refine rf_mask (lc2 := [none, none]) [false, true] rfl ?_
    exact pX9_readText_K50 hG _
  · refine rf_aload_n (n := 36) 0 dX9_readText_35 rfl rfl rfl ?_
    refine rf_getI (n := 39) hG dX9_readText_36 flX9_122 ki_9_22 sS_57 kk_57 rfl ?_
    refine rf_iconst (n := 40) (4 : Int32) dX9_readText_39 cciconst_4 rfl ?_
    refine rf_icmp_eq (tg := 50) (n := 43) dX9_readText_40 rfl rfl (fun c11 => ?_) (fun c11 => ?_)
    · refine rf_mask (lc2 := [none, none]) [false, true] rfl ?_
      exact pX9_readText_K50 hG _
    · refine rf_aload_n (n := 44) 0 dX9_readText_43 rfl rfl rfl ?_
      refine rf_cV0V (n := 47) hG (okX9_readLine _) lVX9_214 hhX9_readLine kk_57 sS_57 ⟨_, rfl, rfl⟩ dX9_readText_44 rfl (Nat.le_of_ble_eq_true rfl) (Nat.le_of_ble_eq_true rfl) (fun _ m10 => ?_)
      refine rf_goto (tg := 28) dX9_readText_47 rfl ?_
      exact hr28 _
theorem pX9_readText_L28 {x : ax_X} {G : ax_G} (hG : ax_ok G) (n : Nat) (μ : ax_M) : ax_Rf mX9_readText 10 x (ax_Z ax_jV x G) G 0 0 28 [some (.ref 57), none] [] μ (ax_lp0 (fX9_readText_B28) n  μ) :=
  rf_lp0 (P := fun  μ t => ax_Rf mX9_readText 10 x (ax_Z ax_jV x G) G 0 0 28 [some (.ref 57), none] [] μ t) (fun  _ => rf_none) (fun rc hrc  μ => pX9_readText_B28 hG rc hrc  μ) n  μ
def fX9_readText (p1 : Int32) (μ : ax_M) : Option (Unit × ax_M) :=
  (ax_let (ax_wi μ 57 19 p1) (fun m1 => (ax_let (ax_wi m1 57 20 (0 : Int32)) (fun m2 => (ax_let (ax_wi m2 57 24 (0 : Int32)) (fun m3 => (ax_let (ax_wi m3 57 18 (0 : Int32)) (fun m4 => (ax_bd (fX9_freshText m4) (fun _ m6 => (ax_bd (fX9_token m6) (fun _ m8 => (ax_lp0 (fX9_readText_B28) ax_FU m8)))))))))))))
theorem okX9_readText (p1 : Int32) (μ : ax_M) : ax_Ok mX9_readText 10 ax_jV [.ref 57, .int p1] μ (fX9_readText p1 μ) := by
  refine ax_start (lc := [some (.ref 57), some (.int p1)]) 0 (by decide +kernel) rfl (Nat.le_of_ble_eq_true rfl) (fun x G hG => ?_)
  unfold fX9_readText
  refine rf_aload_n (n := 1) 0 dX9_readText_0 rfl rfl rfl ?_
  refine rf_iload_n (n := 2) 1 dX9_readText_1 rfl rfl rfl ?_
  refine rf_pfI (n := 5) hG rfl dX9_readText_2 flX9_112 ki_9_19 nf_9_19 sS_57 kk_57 rfl (fun m1 => ?_)
  refine rf_aload_n (n := 6) 0 dX9_readText_5 rfl rfl rfl ?_
  refine rf_iconst (n := 7) (0 : Int32) dX9_readText_6 cciconst_0 rfl ?_
  refine rf_pfI (n := 10) hG rfl dX9_readText_7 flX9_109 ki_9_20 nf_9_20 sS_57 kk_57 rfl (fun m2 => ?_)
  refine rf_aload_n (n := 11) 0 dX9_readText_10 rfl rfl rfl ?_
  refine rf_iconst (n := 12) (0 : Int32) dX9_readText_11 cciconst_0 rfl ?_
  refine rf_pfI (n := 15) hG rfl dX9_readText_12 flX9_153 ki_9_24 nf_9_24 sS_57 kk_57 rfl (fun m3 => ?_)
  refine rf_aload_n (n := 16) 0 dX9_readText_15 rfl rfl rfl ?_
  refine rf_iconst (n := 17) (0 : Int32) dX9_readText_16 cciconst_0 rfl ?_
  refine rf_pfI (n := 20) hG rfl dX9_readText_17 flX9_211 ki_9_18 nf_9_18 sS_57 kk_57 rfl (fun m4 => ?_)
  refine rf_aload_n (n := 21) 0 dX9_readText_20 rfl rfl rfl ?_
  refine rf_cV0V (n := 24) hG (okX9_freshText _) lVX9_94 hhX9_freshText kk_57 sS_57 ⟨_, rfl, rfl⟩ dX9_readText_21 rfl (Nat.le_of_ble_eq_true rfl) (Nat.le_of_ble_eq_true rfl) (fun _ m6 => ?_)
  refine rf_aload_n (n := 25) 0 dX9_readText_24 rfl rfl rfl ?_
  refine rf_cV0V (n := 28) hG (okX9_token _) lVX9_159 hhX9_token kk_57 sS_57 ⟨_, rfl, rfl⟩ dX9_readText_25 rfl (Nat.le_of_ble_eq_true rfl) (Nat.le_of_ble_eq_true rfl) (fun _ m8 => ?_)
  refine rf_mask (lc2 := [some (.ref 57), none]) [true, false] rfl ?_
  exact pX9_readText_L28 hG _ _
def fX9_takeText_B186 (r186 : Int32 → ax_M → Option (Unit × ax_M)) (l1 : Int32) (μ : ax_M) : Option (Unit × ax_M) :=
  (if (24 : Int32) ≤ l1 then (some ((), μ)) else (Option.bind (ax_rd μ 70 48 ((24 : Int32) + l1)) (fun v1 => (Option.bind (ax_wr μ 70 48 l1 v1) (fun m2 => (Option.bind (ax_rd m2 71 48 ((24 : Int32) + l1)) (fun v3 => (Option.bind (ax_wr m2 71 48 l1 v3) (fun m4 => (Option.bind (ax_rd m4 72 48 ((24 : Int32) + l1)) (fun v5 => (Option.bind (ax_wr m4 72 48 l1 v5) (fun m6 => (Option.bind (ax_rd m6 73 48 ((24 : Int32) + l1)) (fun v7 => (Option.bind (ax_wr m6 73 48 l1 v7) (fun m8 => (r186 (l1 + (1 : Int32)) m8))))))))))))))))))
theorem pX9_takeText_B186 {x : ax_X} {G : ax_G} (hG : ax_ok G) (r186 : Int32 → ax_M → Option (Unit × ax_M)) (hr186 : ∀ (a1 : Int32) (μ : ax_M), ax_Rf mX9_takeText 1 x (ax_Z ax_jV x G) G 0 0 186 [some (.ref 57), some (.int a1)] [] μ (r186 a1 μ)) (l1 : Int32) (μ : ax_M) : ax_Rf mX9_takeText 1 x (ax_Z ax_jV x G) G 0 0 186 [some (.ref 57), some (.int l1)] [] μ (fX9_takeText_B186 r186 l1 μ) := by
  unfold fX9_takeText_B186
  refine rf_iload_n (n := 187) 1 dX9_takeText_186 rfl rfl rfl ?_
  refine rf_bipush (n := 189) (24 : Int32) dX9_takeText_187 ccbipush_24 rfl ?_
  refine rf_icmp_ge (tg := 258) (n := 192) dX9_takeText_189 rfl rfl (fun c9 => ?_) (fun c9 => ?_)
  · exact rf_retV rfl dX9_takeText_258
  · refine rf_aload_n (n := 193) 0 dX9_takeText_192 rfl rfl rfl ?_
    refine rf_getR (n := 196) rr_57_14 kk_70 hG dX9_takeText_193 flX9_47 ki_9_14 sS_57 kk_57 rfl ?_
    refine rf_iload_n (n := 197) 1 dX9_takeText_196 rfl rfl rfl ?_
    refine rf_aload_n (n := 198) 0 dX9_takeText_197 rfl rfl rfl ?_
    refine rf_getR (n := 201) rr_57_14 kk_70 hG dX9_takeText_198 flX9_47 ki_9_14 sS_57 kk_57 rfl ?_
    refine rf_bipush (n := 203) (24 : Int32) dX9_takeText_201 ccbipush_24 rfl ?_
    refine rf_iload_n (n := 204) 1 dX9_takeText_203 rfl rfl rfl ?_
    refine rf_iadd (n := 205) dX9_takeText_204 rfl ?_
    refine rf_iald (n := 206) hG dX9_takeText_205 sS_70 kk_70 rfl (fun v1 => ?_)
    refine rf_iast (n := 207) hG dX9_takeText_206 sS_70 kk_70 rfl (fun m2 => ?_)
    refine rf_aload_n (n := 208) 0 dX9_takeText_207 rfl rfl rfl ?_
    refine rf_getR (n := 211) rr_57_15 kk_71 hG dX9_takeText_208 flX9_50 ki_9_15 sS_57 kk_57 rfl ?_
    refine rf_iload_n (n := 212) 1 dX9_takeText_211 rfl rfl rfl ?_
    refine rf_aload_n (n := 213) 0 dX9_takeText_212 rfl rfl rfl ?_
    refine rf_getR (n := 216) rr_57_15 kk_71 hG dX9_takeText_213 flX9_50 ki_9_15 sS_57 kk_57 rfl ?_
    refine rf_bipush (n := 218) (24 : Int32) dX9_takeText_216 ccbipush_24 rfl ?_
    refine rf_iload_n (n := 219) 1 dX9_takeText_218 rfl rfl rfl ?_
    refine rf_iadd (n := 220) dX9_takeText_219 rfl ?_
    refine rf_iald (n := 221) hG dX9_takeText_220 sS_71 kk_71 rfl (fun v3 => ?_)
    refine rf_iast (n := 222) hG dX9_takeText_221 sS_71 kk_71 rfl (fun m4 => ?_)
    refine rf_aload_n (n := 223) 0 dX9_takeText_222 rfl rfl rfl ?_
    refine rf_getR (n := 226) rr_57_16 kk_72 hG dX9_takeText_223 flX9_53 ki_9_16 sS_57 kk_57 rfl ?_
    refine rf_iload_n (n := 227) 1 dX9_takeText_226 rfl rfl rfl ?_
    refine rf_aload_n (n := 228) 0 dX9_takeText_227 rfl rfl rfl ?_
    refine rf_getR (n := 231) rr_57_16 kk_72 hG dX9_takeText_228 flX9_53 ki_9_16 sS_57 kk_57 rfl ?_
    refine rf_bipush (n := 233) (24 : Int32) dX9_takeText_231 ccbipush_24 rfl ?_
    refine rf_iload_n (n := 234) 1 dX9_takeText_233 rfl rfl rfl ?_
    refine rf_iadd (n := 235) dX9_takeText_234 rfl ?_
    refine rf_iald (n := 236) hG dX9_takeText_235 sS_72 kk_72 rfl (fun v5 => ?_)
    refine rf_iast (n := 237) hG dX9_takeText_236 sS_72 kk_72 rfl (fun m6 => ?_)
    refine rf_aload_n (n := 238) 0 dX9_takeText_237 rfl rfl rfl ?_
    refine rf_getR (n := 241) rr_57_17 kk_73 hG dX9_takeText_238 flX9_56 ki_9_17 sS_57 kk_57 rfl ?_
    refine rf_iload_n (n := 242) 1 dX9_takeText_241 rfl rfl rfl ?_
    refine rf_aload_n (n := 243) 0 dX9_takeText_242 rfl rfl rfl ?_
    refine rf_getR (n := 246) rr_57_17 kk_73 hG dX9_takeText_243 flX9_56 ki_9_17 sS_57 kk_57 rfl ?_
    refine rf_bipush (n := 248) (24 : Int32) dX9_takeText_246 ccbipush_24 rfl ?_
    refine rf_iload_n (n := 249) 1 dX9_takeText_248 rfl rfl rfl ?_
    refine rf_iadd (n := 250) dX9_takeText_249 rfl ?_
    refine rf_iald (n := 251) hG dX9_takeText_250 sS_73 kk_73 rfl (fun v7 => ?_)
    refine rf_iast (n := 252) hG dX9_takeText_251 sS_73 kk_73 rfl (fun m8 => ?_)
    refine rf_iinc (lc2 := [some (.ref 57), some (.int (l1 + (1 : Int32)))]) (n := 255) (w := (1 : Int32)) 1 dX9_takeText_252 rfl rfl rfl (Nat.le_of_ble_eq_true rfl) rfl rfl ?_
    refine rf_goto (tg := 186) dX9_takeText_255 rfl ?_
    exact hr186 _ _
theorem pX9_takeText_L186 {x : ax_X} {G : ax_G} (hG : ax_ok G) (n : Nat) (a1 : Int32) (μ : ax_M) : ax_Rf mX9_takeText 1 x (ax_Z ax_jV x G) G 0 0 186 [some (.ref 57), some (.int a1)] [] μ (ax_lp1 (fX9_takeText_B186) n a1 μ) :=
  rf_lp1 (P := fun a1 μ t => ax_Rf mX9_takeText 1 x (ax_Z ax_jV x G) G 0 0 186 [some (.ref 57), some (.int a1)] [] μ t) (fun _ _ => rf_none) (fun rc hrc a1 μ => pX9_takeText_B186 hG rc hrc a1 μ) n a1 μ
def fX9_takeText_B82 (r82 : Int32 → ax_M → Option (Unit × ax_M)) (l1 : Int32) (μ : ax_M) : Option (Unit × ax_M) :=
  (if (10 : Int32) ≤ l1 then (ax_lp1 (fX9_takeText_B186) ax_FU (0 : Int32) μ) else (Option.bind (ax_rd μ 64 20 ((10 : Int32) + l1)) (fun v10 => (Option.bind (ax_wr μ 64 20 l1 v10) (fun m11 => (Option.bind (ax_rd m11 65 20 ((10 : Int32) + l1)) (fun v12 => (Option.bind (ax_wr m11 65 20 l1 v12) (fun m13 => (Option.bind (ax_rd m13 66 20 ((10 : Int32) + l1)) (fun v14 => (Option.bind (ax_wr m13 66 20 l1 v14) (fun m15 => (Option.bind (ax_rd m15 67 20 ((10 : Int32) + l1)) (fun v16 => (Option.bind (ax_wr m15 67 20 l1 v16) (fun m17 => (Option.bind (ax_rd m17 68 20 ((10 : Int32) + l1)) (fun v18 => (Option.bind (ax_wr m17 68 20 l1 v18) (fun m19 => (Option.bind (ax_rd m19 69 20 ((10 : Int32) + l1)) (fun v20 => (Option.bind (ax_wz m19 69 20 l1 v20) (fun m21 => (r82 (l1 + (1 : Int32)) m21))))))))))))))))))))))))))
theorem pX9_takeText_B82 {x : ax_X} {G : ax_G} (hG : ax_ok G) (r82 : Int32 → ax_M → Option (Unit × ax_M)) (hr82 : ∀ (a1 : Int32) (μ : ax_M), ax_Rf mX9_takeText 1 x (ax_Z ax_jV x G) G 0 0 82 [some (.ref 57), some (.int a1)] [] μ (r82 a1 μ)) (l1 : Int32) (μ : ax_M) : ax_Rf mX9_takeText 1 x (ax_Z ax_jV x G) G 0 0 82 [some (.ref 57), some (.int l1)] [] μ (fX9_takeText_B82 r82 l1 μ) := by
  unfold fX9_takeText_B82
  refine rf_iload_n (n := 83) 1 dX9_takeText_82 rfl rfl rfl ?_
  refine rf_bipush (n := 85) (10 : Int32) dX9_takeText_83 ccbipush_10 rfl ?_
  refine rf_icmp_ge (tg := 184) (n := 88) dX9_takeText_85 rfl rfl (fun c22 => ?_) (fun c22 => ?_)
  · refine rf_iconst (n := 185) (0 : Int32) dX9_takeText_184 cciconst_0 rfl ?_
    refine rf_istore_n (lc2 := [some (.ref 57), some (.int (0 : Int32))]) (n := 186) 1 dX9_takeText_185 rfl rfl (Nat.le_of_ble_eq_true rfl) rfl rfl ?_
    exact pX9_takeText_L186 hG _ _ _
  · refine rf_aload_n (n := 89) 0 dX9_takeText_88 rfl rfl rfl ?_
    refine rf_getR (n := 92) rr_57_8 kk_64 hG dX9_takeText_89 flX9_29 ki_9_8 sS_57 kk_57 rfl ?_
    refine rf_iload_n (n := 93) 1 dX9_takeText_92 rfl rfl rfl ?_
    refine rf_aload_n (n := 94) 0 dX9_takeText_93 rfl rfl rfl ?_
    refine rf_getR (n := 97) rr_57_8 kk_64 hG dX9_takeText_94 flX9_29 ki_9_8 sS_57 kk_57 rfl ?_
    refine rf_bipush (n := 99) (10 : Int32) dX9_takeText_97 ccbipush_10 rfl ?_
    refine rf_iload_n (n := 100) 1 dX9_takeText_99 rfl rfl rfl ?_
    refine rf_iadd (n := 101) dX9_takeText_100 rfl ?_
    refine rf_iald (n := 102) hG dX9_takeText_101 sS_64 kk_64 rfl (fun v10 => ?_)
    refine rf_iast (n := 103) hG dX9_takeText_102 sS_64 kk_64 rfl (fun m11 => ?_)
    refine rf_aload_n (n := 104) 0 dX9_takeText_103 rfl rfl rfl ?_
    refine rf_getR (n := 107) rr_57_9 kk_65 hG dX9_takeText_104 flX9_32 ki_9_9 sS_57 kk_57 rfl ?_
    refine rf_iload_n (n := 108) 1 dX9_takeText_107 rfl rfl rfl ?_
    refine rf_aload_n (n := 109) 0 dX9_takeText_108 rfl rfl rfl ?_
    refine rf_getR (n := 112) rr_57_9 kk_65 hG dX9_takeText_109 flX9_32 ki_9_9 sS_57 kk_57 rfl ?_
    refine rf_bipush (n := 114) (10 : Int32) dX9_takeText_112 ccbipush_10 rfl ?_
    refine rf_iload_n (n := 115) 1 dX9_takeText_114 rfl rfl rfl ?_
    refine rf_iadd (n := 116) dX9_takeText_115 rfl ?_
    refine rf_iald (n := 117) hG dX9_takeText_116 sS_65 kk_65 rfl (fun v12 => ?_)
    refine rf_iast (n := 118) hG dX9_takeText_117 sS_65 kk_65 rfl (fun m13 => ?_)
    refine rf_aload_n (n := 119) 0 dX9_takeText_118 rfl rfl rfl ?_
    refine rf_getR (n := 122) rr_57_10 kk_66 hG dX9_takeText_119 flX9_35 ki_9_10 sS_57 kk_57 rfl ?_
    refine rf_iload_n (n := 123) 1 dX9_takeText_122 rfl rfl rfl ?_
    refine rf_aload_n (n := 124) 0 dX9_takeText_123 rfl rfl rfl ?_
    refine rf_getR (n := 127) rr_57_10 kk_66 hG dX9_takeText_124 flX9_35 ki_9_10 sS_57 kk_57 rfl ?_
    refine rf_bipush (n := 129) (10 : Int32) dX9_takeText_127 ccbipush_10 rfl ?_
    refine rf_iload_n (n := 130) 1 dX9_takeText_129 rfl rfl rfl ?_
    refine rf_iadd (n := 131) dX9_takeText_130 rfl ?_
    refine rf_iald (n := 132) hG dX9_takeText_131 sS_66 kk_66 rfl (fun v14 => ?_)
    refine rf_iast (n := 133) hG dX9_takeText_132 sS_66 kk_66 rfl (fun m15 => ?_)
    refine rf_aload_n (n := 134) 0 dX9_takeText_133 rfl rfl rfl ?_
    refine rf_getR (n := 137) rr_57_11 kk_67 hG dX9_takeText_134 flX9_38 ki_9_11 sS_57 kk_57 rfl ?_
    refine rf_iload_n (n := 138) 1 dX9_takeText_137 rfl rfl rfl ?_
    refine rf_aload_n (n := 139) 0 dX9_takeText_138 rfl rfl rfl ?_
    refine rf_getR (n := 142) rr_57_11 kk_67 hG dX9_takeText_139 flX9_38 ki_9_11 sS_57 kk_57 rfl ?_
    refine rf_bipush (n := 144) (10 : Int32) dX9_takeText_142 ccbipush_10 rfl ?_
    refine rf_iload_n (n := 145) 1 dX9_takeText_144 rfl rfl rfl ?_
    refine rf_iadd (n := 146) dX9_takeText_145 rfl ?_
    refine rf_iald (n := 147) hG dX9_takeText_146 sS_67 kk_67 rfl (fun v16 => ?_)
    refine rf_iast (n := 148) hG dX9_takeText_147 sS_67 kk_67 rfl (fun m17 => ?_)
    refine rf_aload_n (n := 149) 0 dX9_takeText_148 rfl rfl rfl ?_
    refine rf_getR (n := 152) rr_57_12 kk_68 hG dX9_takeText_149 flX9_41 ki_9_12 sS_57 kk_57 rfl ?_
    refine rf_iload_n (n := 153) 1 dX9_takeText_152 rfl rfl rfl ?_
    refine rf_aload_n (n := 154) 0 dX9_takeText_153 rfl rfl rfl ?_
    refine rf_getR (n := 157) rr_57_12 kk_68 hG dX9_takeText_154 flX9_41 ki_9_12 sS_57 kk_57 rfl ?_
    refine rf_bipush (n := 159) (10 : Int32) dX9_takeText_157 ccbipush_10 rfl ?_
    refine rf_iload_n (n := 160) 1 dX9_takeText_159 rfl rfl rfl ?_
    refine rf_iadd (n := 161) dX9_takeText_160 rfl ?_
    refine rf_iald (n := 162) hG dX9_takeText_161 sS_68 kk_68 rfl (fun v18 => ?_)
    refine rf_iast (n := 163) hG dX9_takeText_162 sS_68 kk_68 rfl (fun m19 => ?_)
    refine rf_aload_n (n := 164) 0 dX9_takeText_163 rfl rfl rfl ?_
    refine rf_getR (n := 167) rr_57_13 kk_69 hG dX9_takeText_164 flX9_44 ki_9_13 sS_57 kk_57 rfl ?_
    refine rf_iload_n (n := 168) 1 dX9_takeText_167 rfl rfl rfl ?_
    refine rf_aload_n (n := 169) 0 dX9_takeText_168 rfl rfl rfl ?_
    refine rf_getR (n := 172) rr_57_13 kk_69 hG dX9_takeText_169 flX9_44 ki_9_13 sS_57 kk_57 rfl ?_
    refine rf_bipush (n := 174) (10 : Int32) dX9_takeText_172 ccbipush_10 rfl ?_
    refine rf_iload_n (n := 175) 1 dX9_takeText_174 rfl rfl rfl ?_
    refine rf_iadd (n := 176) dX9_takeText_175 rfl ?_
    refine rf_zald (n := 177) hG dX9_takeText_176 sS_69 kk_69 rfl (fun v20 => ?_)
    refine rf_zast (n := 178) hG dX9_takeText_177 sS_69 kk_69 rfl (fun m21 => ?_)
    refine rf_iinc (lc2 := [some (.ref 57), some (.int (l1 + (1 : Int32)))]) (n := 181) (w := (1 : Int32)) 1 dX9_takeText_178 rfl rfl rfl (Nat.le_of_ble_eq_true rfl) rfl rfl ?_
    refine rf_goto (tg := 82) dX9_takeText_181 rfl ?_
    exact hr82 _ _
theorem pX9_takeText_L82 {x : ax_X} {G : ax_G} (hG : ax_ok G) (n : Nat) (a1 : Int32) (μ : ax_M) : ax_Rf mX9_takeText 1 x (ax_Z ax_jV x G) G 0 0 82 [some (.ref 57), some (.int a1)] [] μ (ax_lp1 (fX9_takeText_B82) n a1 μ) :=
  rf_lp1 (P := fun a1 μ t => ax_Rf mX9_takeText 1 x (ax_Z ax_jV x G) G 0 0 82 [some (.ref 57), some (.int a1)] [] μ t) (fun _ _ => rf_none) (fun rc hrc a1 μ => pX9_takeText_B82 hG rc hrc a1 μ) n a1 μ
def fX9_takeText_B27 (r27 : Int32 → ax_M → Option (Unit × ax_M)) (l1 : Int32) (μ : ax_M) : Option (Unit × ax_M) :=
  (if (4 : Int32) ≤ l1 then (ax_lp1 (fX9_takeText_B82) ax_FU (0 : Int32) μ) else (Option.bind (ax_rd μ 61 8 ((4 : Int32) + l1)) (fun v23 => (Option.bind (ax_wr μ 61 8 l1 v23) (fun m24 => (Option.bind (ax_rd m24 62 8 ((4 : Int32) + l1)) (fun v25 => (Option.bind (ax_wr m24 62 8 l1 v25) (fun m26 => (Option.bind (ax_rd m26 63 8 ((4 : Int32) + l1)) (fun v27 => (Option.bind (ax_wr m26 63 8 l1 v27) (fun m28 => (r27 (l1 + (1 : Int32)) m28))))))))))))))
theorem pX9_takeText_B27 {x : ax_X} {G : ax_G} (hG : ax_ok G) (r27 : Int32 → ax_M → Option (Unit × ax_M)) (hr27 : ∀ (a1 : Int32) (μ : ax_M), ax_Rf mX9_takeText 1 x (ax_Z ax_jV x G) G 0 0 27 [some (.ref 57), some (.int a1)] [] μ (r27 a1 μ)) (l1 : Int32) (μ : ax_M) : ax_Rf mX9_takeText 1 x (ax_Z ax_jV x G) G 0 0 27 [some (.ref 57), some (.int l1)] [] μ (fX9_takeText_B27 r27 l1 μ) := by
  unfold fX9_takeText_B27
  refine rf_iload_n (n := 28) 1 dX9_takeText_27 rfl rfl rfl ?_
  refine rf_iconst (n := 29) (4 : Int32) dX9_takeText_28 cciconst_4 rfl ?_
  refine rf_icmp_ge (tg := 80) (n := 32) dX9_takeText_29 rfl rfl (fun c29 => ?_) (fun c29 => ?_)
  · refine rf_iconst (n := 81) (0 : Int32) dX9_takeText_80 cciconst_0 rfl ?_
    refine rf_istore_n (lc2 := [some (.ref 57), some (.int (0 : Int32))]) (n := 82) 1 dX9_takeText_81 rfl rfl (Nat.le_of_ble_eq_true rfl) rfl rfl ?_
    exact pX9_takeText_L82 hG _ _ _
  · refine rf_aload_n (n := 33) 0 dX9_takeText_32 rfl rfl rfl ?_
    refine rf_getR (n := 36) rr_57_5 kk_61 hG dX9_takeText_33 flX9_20 ki_9_5 sS_57 kk_57 rfl ?_
    refine rf_iload_n (n := 37) 1 dX9_takeText_36 rfl rfl rfl ?_
    refine rf_aload_n (n := 38) 0 dX9_takeText_37 rfl rfl rfl ?_
    refine rf_getR (n := 41) rr_57_5 kk_61 hG dX9_takeText_38 flX9_20 ki_9_5 sS_57 kk_57 rfl ?_
    refine rf_iconst (n := 42) (4 : Int32) dX9_takeText_41 cciconst_4 rfl ?_
    refine rf_iload_n (n := 43) 1 dX9_takeText_42 rfl rfl rfl ?_
    refine rf_iadd (n := 44) dX9_takeText_43 rfl ?_
    refine rf_iald (n := 45) hG dX9_takeText_44 sS_61 kk_61 rfl (fun v23 => ?_)
    refine rf_iast (n := 46) hG dX9_takeText_45 sS_61 kk_61 rfl (fun m24 => ?_)
    refine rf_aload_n (n := 47) 0 dX9_takeText_46 rfl rfl rfl ?_
    refine rf_getR (n := 50) rr_57_6 kk_62 hG dX9_takeText_47 flX9_23 ki_9_6 sS_57 kk_57 rfl ?_
    refine rf_iload_n (n := 51) 1 dX9_takeText_50 rfl rfl rfl ?_
    refine rf_aload_n (n := 52) 0 dX9_takeText_51 rfl rfl rfl ?_
    refine rf_getR (n := 55) rr_57_6 kk_62 hG dX9_takeText_52 flX9_23 ki_9_6 sS_57 kk_57 rfl ?_
    refine rf_iconst (n := 56) (4 : Int32) dX9_takeText_55 cciconst_4 rfl ?_
    refine rf_iload_n (n := 57) 1 dX9_takeText_56 rfl rfl rfl ?_
    refine rf_iadd (n := 58) dX9_takeText_57 rfl ?_
    refine rf_iald (n := 59) hG dX9_takeText_58 sS_62 kk_62 rfl (fun v25 => ?_)
    refine rf_iast (n := 60) hG dX9_takeText_59 sS_62 kk_62 rfl (fun m26 => ?_)
    refine rf_aload_n (n := 61) 0 dX9_takeText_60 rfl rfl rfl ?_
    refine rf_getR (n := 64) rr_57_7 kk_63 hG dX9_takeText_61 flX9_26 ki_9_7 sS_57 kk_57 rfl ?_
    refine rf_iload_n (n := 65) 1 dX9_takeText_64 rfl rfl rfl ?_
    refine rf_aload_n (n := 66) 0 dX9_takeText_65 rfl rfl rfl ?_
    refine rf_getR (n := 69) rr_57_7 kk_63 hG dX9_takeText_66 flX9_26 ki_9_7 sS_57 kk_57 rfl ?_
    refine rf_iconst (n := 70) (4 : Int32) dX9_takeText_69 cciconst_4 rfl ?_
    refine rf_iload_n (n := 71) 1 dX9_takeText_70 rfl rfl rfl ?_
    refine rf_iadd (n := 72) dX9_takeText_71 rfl ?_
    refine rf_iald (n := 73) hG dX9_takeText_72 sS_63 kk_63 rfl (fun v27 => ?_)
    refine rf_iast (n := 74) hG dX9_takeText_73 sS_63 kk_63 rfl (fun m28 => ?_)
    refine rf_iinc (lc2 := [some (.ref 57), some (.int (l1 + (1 : Int32)))]) (n := 77) (w := (1 : Int32)) 1 dX9_takeText_74 rfl rfl rfl (Nat.le_of_ble_eq_true rfl) rfl rfl ?_
    refine rf_goto (tg := 27) dX9_takeText_77 rfl ?_
    exact hr27 _ _
theorem pX9_takeText_L27 {x : ax_X} {G : ax_G} (hG : ax_ok G) (n : Nat) (a1 : Int32) (μ : ax_M) : ax_Rf mX9_takeText 1 x (ax_Z ax_jV x G) G 0 0 27 [some (.ref 57), some (.int a1)] [] μ (ax_lp1 (fX9_takeText_B27) n a1 μ) :=
  rf_lp1 (P := fun a1 μ t => ax_Rf mX9_takeText 1 x (ax_Z ax_jV x G) G 0 0 27 [some (.ref 57), some (.int a1)] [] μ t) (fun _ _ => rf_none) (fun rc hrc a1 μ => pX9_takeText_B27 hG rc hrc a1 μ) n a1 μ
def fX9_takeText_B2 (r2 : Int32 → ax_M → Option (Unit × ax_M)) (l1 : Int32) (μ : ax_M) : Option (Unit × ax_M) :=
  (if (6 : Int32) ≤ l1 then (ax_lp1 (fX9_takeText_B27) ax_FU (0 : Int32) μ) else (ax_bd (fX9_reading l1 μ) (fun v30 m31 => (Option.bind (ax_wr m31 59 12 l1 v30) (fun m32 => (r2 (l1 + (1 : Int32)) m32))))))
theorem pX9_takeText_B2 {x : ax_X} {G : ax_G} (hG : ax_ok G) (r2 : Int32 → ax_M → Option (Unit × ax_M)) (hr2 : ∀ (a1 : Int32) (μ : ax_M), ax_Rf mX9_takeText 1 x (ax_Z ax_jV x G) G 0 0 2 [some (.ref 57), some (.int a1)] [] μ (r2 a1 μ)) (l1 : Int32) (μ : ax_M) : ax_Rf mX9_takeText 1 x (ax_Z ax_jV x G) G 0 0 2 [some (.ref 57), some (.int l1)] [] μ (fX9_takeText_B2 r2 l1 μ) := by
  unfold fX9_takeText_B2
  refine rf_iload_n (n := 3) 1 dX9_takeText_2 rfl rfl rfl ?_
  refine rf_bipush (n := 5) (6 : Int32) dX9_takeText_3 ccbipush_6 rfl ?_
  refine rf_icmp_ge (tg := 25) (n := 8) dX9_takeText_5 rfl rfl (fun c33 => ?_) (fun c33 => ?_)
  · refine rf_iconst (n := 26) (0 : Int32) dX9_takeText_25 cciconst_0 rfl ?_
    refine rf_istore_n (lc2 := [some (.ref 57), some (.int (0 : Int32))]) (n := 27) 1 dX9_takeText_26 rfl rfl (Nat.le_of_ble_eq_true rfl) rfl rfl ?_
    exact pX9_takeText_L27 hG _ _ _
  · refine rf_aload_n (n := 9) 0 dX9_takeText_8 rfl rfl rfl ?_
    refine rf_getR (n := 12) rr_57_3 kk_59 hG dX9_takeText_9 flX9_13 ki_9_3 sS_57 kk_57 rfl ?_
    refine rf_iload_n (n := 13) 1 dX9_takeText_12 rfl rfl rfl ?_
    refine rf_aload_n (n := 14) 0 dX9_takeText_13 rfl rfl rfl ?_
    refine rf_iload_n (n := 15) 1 dX9_takeText_14 rfl rfl rfl ?_
    refine rf_cV1I (n := 18) hG (okX9_reading _ _) lVX9_181 hhX9_reading kk_57 sS_57 ⟨_, rfl, rfl⟩ dX9_takeText_15 rfl (Nat.le_of_ble_eq_true rfl) (Nat.le_of_ble_eq_true rfl) (fun v30 m31 => ?_)
    refine rf_iast (n := 19) hG dX9_takeText_18 sS_59 kk_59 rfl (fun m32 => ?_)
    refine rf_iinc (lc2 := [some (.ref 57), some (.int (l1 + (1 : Int32)))]) (n := 22) (w := (1 : Int32)) 1 dX9_takeText_19 rfl rfl rfl (Nat.le_of_ble_eq_true rfl) rfl rfl ?_
    refine rf_goto (tg := 2) dX9_takeText_22 rfl ?_
    exact hr2 _ _
theorem pX9_takeText_L2 {x : ax_X} {G : ax_G} (hG : ax_ok G) (n : Nat) (a1 : Int32) (μ : ax_M) : ax_Rf mX9_takeText 1 x (ax_Z ax_jV x G) G 0 0 2 [some (.ref 57), some (.int a1)] [] μ (ax_lp1 (fX9_takeText_B2) n a1 μ) :=
  rf_lp1 (P := fun a1 μ t => ax_Rf mX9_takeText 1 x (ax_Z ax_jV x G) G 0 0 2 [some (.ref 57), some (.int a1)] [] μ t) (fun _ _ => rf_none) (fun rc hrc a1 μ => pX9_takeText_B2 hG rc hrc a1 μ) n a1 μ
def fX9_takeText (μ : ax_M) : Option (Unit × ax_M) :=
  (ax_lp1 (fX9_takeText_B2) ax_FU (0 : Int32) μ)
theorem okX9_takeText (μ : ax_M) : ax_Ok mX9_takeText 1 ax_jV [.ref 57] μ (fX9_takeText μ) := by
  refine ax_start (lc := [some (.ref 57), none]) 1 (by decide +kernel) rfl (Nat.le_of_ble_eq_true rfl) (fun x G hG => ?_)
  unfold fX9_takeText
  refine rf_iconst (n := 1) (0 : Int32) dX9_takeText_0 cciconst_0 rfl ?_
  refine rf_istore_n (lc2 := [some (.ref 57), some (.int (0 : Int32))]) (n := 2) 1 dX9_takeText_1 rfl rfl (Nat.le_of_ble_eq_true rfl) rfl rfl ?_
  exact pX9_takeText_L2 hG _ _ _
def fX9_phases (μ : ax_M) : Option (Int32 × ax_M) :=
  (Option.bind (ax_rd μ 59 12 (1 : Int32)) (fun v1 => (some (v1, μ))))
theorem okX9_phases (μ : ax_M) : ax_Ok mX9_phases 0 ax_jI [.ref 57] μ (fX9_phases μ) := by
  refine ax_start (lc := [some (.ref 57)]) 0 (by decide +kernel) rfl (Nat.le_of_ble_eq_true rfl) (fun x G hG => ?_)
  unfold fX9_phases
  refine rf_aload_n (n := 1) 0 dX9_phases_0 rfl rfl rfl ?_
  refine rf_getR (n := 4) rr_57_3 kk_59 hG dX9_phases_1 flX9_13 ki_9_3 sS_57 kk_57 rfl ?_
  refine rf_iconst (n := 5) (1 : Int32) dX9_phases_4 cciconst_1 rfl ?_
  refine rf_iald (n := 6) hG dX9_phases_5 sS_59 kk_59 rfl (fun v1 => ?_)
  exact rf_retI rfl dX9_phases_6
def fX9_cells (μ : ax_M) : Option (Int32 × ax_M) :=
  (Option.bind (ax_rd μ 59 12 (2 : Int32)) (fun v1 => (some (v1, μ))))
theorem okX9_cells (μ : ax_M) : ax_Ok mX9_cells 0 ax_jI [.ref 57] μ (fX9_cells μ) := by
  refine ax_start (lc := [some (.ref 57)]) 0 (by decide +kernel) rfl (Nat.le_of_ble_eq_true rfl) (fun x G hG => ?_)
  unfold fX9_cells
  refine rf_aload_n (n := 1) 0 dX9_cells_0 rfl rfl rfl ?_
  refine rf_getR (n := 4) rr_57_3 kk_59 hG dX9_cells_1 flX9_13 ki_9_3 sS_57 kk_57 rfl ?_
  refine rf_iconst (n := 5) (2 : Int32) dX9_cells_4 cciconst_2 rfl ?_
  refine rf_iald (n := 6) hG dX9_cells_5 sS_59 kk_59 rfl (fun v1 => ?_)
  exact rf_retI rfl dX9_cells_6
def fX9_paths (μ : ax_M) : Option (Int32 × ax_M) :=
  (Option.bind (ax_rd μ 59 12 (3 : Int32)) (fun v1 => (some (v1, μ))))
theorem okX9_paths (μ : ax_M) : ax_Ok mX9_paths 0 ax_jI [.ref 57] μ (fX9_paths μ) := by
  refine ax_start (lc := [some (.ref 57)]) 0 (by decide +kernel) rfl (Nat.le_of_ble_eq_true rfl) (fun x G hG => ?_)
  unfold fX9_paths
  refine rf_aload_n (n := 1) 0 dX9_paths_0 rfl rfl rfl ?_
  refine rf_getR (n := 4) rr_57_3 kk_59 hG dX9_paths_1 flX9_13 ki_9_3 sS_57 kk_57 rfl ?_
  refine rf_iconst (n := 5) (3 : Int32) dX9_paths_4 cciconst_3 rfl ?_
  refine rf_iald (n := 6) hG dX9_paths_5 sS_59 kk_59 rfl (fun v1 => ?_)
  exact rf_retI rfl dX9_paths_6
def fX9_begins_B131 (r131 : Int32 → ax_M → Option (Unit × ax_M)) (l1 : Int32) (μ : ax_M) : Option (Unit × ax_M) :=
  (ax_bd (fX9_paths μ) (fun v9 m10 => (if v9 ≤ l1 then (some ((), m10)) else (Option.bind (ax_rd m10 72 48 l1) (fun v11 => (Option.bind (ax_wr m10 74 68 ((19 : Int32) + l1) v11) (fun m12 => (Option.bind (ax_rd m12 73 48 l1) (fun v13 => (Option.bind (ax_wr m12 74 68 ((43 : Int32) + l1) v13) (fun m14 => (r131 (l1 + (1 : Int32)) m14))))))))))))
theorem pX9_begins_B131 {x : ax_X} {G : ax_G} (hG : ax_ok G) (r131 : Int32 → ax_M → Option (Unit × ax_M)) (hr131 : ∀ (a1 : Int32) (μ : ax_M), ax_Rf mX9_begins 1 x (ax_Z ax_jV x G) G 0 0 131 [some (.ref 57), some (.int a1)] [] μ (r131 a1 μ)) (l1 : Int32) (μ : ax_M) : ax_Rf mX9_begins 1 x (ax_Z ax_jV x G) G 0 0 131 [some (.ref 57), some (.int l1)] [] μ (fX9_begins_B131 r131 l1 μ) := by
  unfold fX9_begins_B131
  refine rf_iload_n (n := 132) 1 dX9_begins_131 rfl rfl rfl ?_
  refine rf_aload_n (n := 133) 0 dX9_begins_132 rfl rfl rfl ?_
  refine rf_cV0I (n := 136) hG (okX9_paths _) lVX9_236 hhX9_paths kk_57 sS_57 ⟨_, rfl, rfl⟩ dX9_begins_133 rfl (Nat.le_of_ble_eq_true rfl) (Nat.le_of_ble_eq_true rfl) (fun v9 m10 => ?_)
  refine rf_icmp_ge (tg := 175) (n := 139) dX9_begins_136 rfl rfl (fun c15 => ?_) (fun c15 => ?_)
  · exact rf_retV rfl dX9_begins_175
  · refine rf_aload_n (n := 140) 0 dX9_begins_139 rfl rfl rfl ?_
    refine rf_getR (n := 143) rr_57_28 kk_74 hG dX9_begins_140 flX9_63 ki_9_28 sS_57 kk_57 rfl ?_
    refine rf_bipush (n := 145) (19 : Int32) dX9_begins_143 ccbipush_19 rfl ?_
    refine rf_iload_n (n := 146) 1 dX9_begins_145 rfl rfl rfl ?_
    refine rf_iadd (n := 147) dX9_begins_146 rfl ?_
    refine rf_aload_n (n := 148) 0 dX9_begins_147 rfl rfl rfl ?_
    refine rf_getR (n := 151) rr_57_16 kk_72 hG dX9_begins_148 flX9_53 ki_9_16 sS_57 kk_57 rfl ?_
    refine rf_iload_n (n := 152) 1 dX9_begins_151 rfl rfl rfl ?_
    refine rf_iald (n := 153) hG dX9_begins_152 sS_72 kk_72 rfl (fun v11 => ?_)
    refine rf_iast (n := 154) hG dX9_begins_153 sS_74 kk_74 rfl (fun m12 => ?_)
    refine rf_aload_n (n := 155) 0 dX9_begins_154 rfl rfl rfl ?_
    refine rf_getR (n := 158) rr_57_28 kk_74 hG dX9_begins_155 flX9_63 ki_9_28 sS_57 kk_57 rfl ?_
    refine rf_bipush (n := 160) (43 : Int32) dX9_begins_158 ccbipush_43 rfl ?_
    refine rf_iload_n (n := 161) 1 dX9_begins_160 rfl rfl rfl ?_
    refine rf_iadd (n := 162) dX9_begins_161 rfl ?_
    refine rf_aload_n (n := 163) 0 dX9_begins_162 rfl rfl rfl ?_
    refine rf_getR (n := 166) rr_57_17 kk_73 hG dX9_begins_163 flX9_56 ki_9_17 sS_57 kk_57 rfl ?_
    refine rf_iload_n (n := 167) 1 dX9_begins_166 rfl rfl rfl ?_
    refine rf_iald (n := 168) hG dX9_begins_167 sS_73 kk_73 rfl (fun v13 => ?_)
    refine rf_iast (n := 169) hG dX9_begins_168 sS_74 kk_74 rfl (fun m14 => ?_)
    refine rf_iinc (lc2 := [some (.ref 57), some (.int (l1 + (1 : Int32)))]) (n := 172) (w := (1 : Int32)) 1 dX9_begins_169 rfl rfl rfl (Nat.le_of_ble_eq_true rfl) rfl rfl ?_
    refine rf_goto (tg := 131) dX9_begins_172 rfl ?_
    exact hr131 _ _
theorem pX9_begins_L131 {x : ax_X} {G : ax_G} (hG : ax_ok G) (n : Nat) (a1 : Int32) (μ : ax_M) : ax_Rf mX9_begins 1 x (ax_Z ax_jV x G) G 0 0 131 [some (.ref 57), some (.int a1)] [] μ (ax_lp1 (fX9_begins_B131) n a1 μ) :=
  rf_lp1 (P := fun a1 μ t => ax_Rf mX9_begins 1 x (ax_Z ax_jV x G) G 0 0 131 [some (.ref 57), some (.int a1)] [] μ t) (fun _ _ => rf_none) (fun rc hrc a1 μ => pX9_begins_B131 hG rc hrc a1 μ) n a1 μ
def fX9_begins_K122 (l1 : Int32) (s1 : Int32) (s2 : Int32) (r92 : Int32 → ax_M → Option (Unit × ax_M)) (μ : ax_M) : Option (Unit × ax_M) :=
  (Option.bind (ax_wr μ 74 68 s1 s2) (fun m17 => (r92 (l1 + (1 : Int32)) m17)))
theorem pX9_begins_K122 {x : ax_X} {G : ax_G} (hG : ax_ok G) (l1 : Int32) (s1 : Int32) (s2 : Int32) (r92 : Int32 → ax_M → Option (Unit × ax_M)) (hr92 : ∀ (a1 : Int32) (μ : ax_M), ax_Rf mX9_begins 1 x (ax_Z ax_jV x G) G 0 0 92 [some (.ref 57), some (.int a1)] [] μ (r92 a1 μ)) (μ : ax_M) : ax_Rf mX9_begins 1 x (ax_Z ax_jV x G) G 0 0 122 [some (.ref 57), some (.int l1)] [.int s2, .int s1, .ref 74] μ (fX9_begins_K122 l1 s1 s2 r92 μ) := by
  unfold fX9_begins_K122
  refine rf_iast (n := 123) hG dX9_begins_122 sS_74 kk_74 rfl (fun m17 => ?_)
  refine rf_iinc (lc2 := [some (.ref 57), some (.int (l1 + (1 : Int32)))]) (n := 126) (w := (1 : Int32)) 1 dX9_begins_123 rfl rfl rfl (Nat.le_of_ble_eq_true rfl) rfl rfl ?_
  refine rf_goto (tg := 92) dX9_begins_126 rfl ?_
  exact hr92 _ _
def fX9_begins_B92 (r92 : Int32 → ax_M → Option (Unit × ax_M)) (l1 : Int32) (μ : ax_M) : Option (Unit × ax_M) :=
  (ax_bd (fX9_cells μ) (fun v7 m8 => (if v7 ≤ l1 then (ax_lp1 (fX9_begins_B131) ax_FU (0 : Int32) m8) else (Option.bind (ax_rd m8 69 20 l1) (fun v16 => (if v16 = 0 then (fX9_begins_K122 l1 ((9 : Int32) + l1) (0 : Int32) r92 m8) else (fX9_begins_K122 l1 ((9 : Int32) + l1) (1 : Int32) r92 m8)))))))
theorem pX9_begins_B92 {x : ax_X} {G : ax_G} (hG : ax_ok G) (r92 : Int32 → ax_M → Option (Unit × ax_M)) (hr92 : ∀ (a1 : Int32) (μ : ax_M), ax_Rf mX9_begins 1 x (ax_Z ax_jV x G) G 0 0 92 [some (.ref 57), some (.int a1)] [] μ (r92 a1 μ)) (l1 : Int32) (μ : ax_M) : ax_Rf mX9_begins 1 x (ax_Z ax_jV x G) G 0 0 92 [some (.ref 57), some (.int l1)] [] μ (fX9_begins_B92 r92 l1 μ) := by
  unfold fX9_begins_B92
  refine rf_iload_n (n := 93) 1 dX9_begins_92 rfl rfl rfl ?_
  refine rf_aload_n (n := 94) 0 dX9_begins_93 rfl rfl rfl ?_
  refine rf_cV0I (n := 97) hG (okX9_cells _) lVX9_233 hhX9_cells kk_57 sS_57 ⟨_, rfl, rfl⟩ dX9_begins_94 rfl (Nat.le_of_ble_eq_true rfl) (Nat.le_of_ble_eq_true rfl) (fun v7 m8 => ?_)
  refine rf_icmp_ge (tg := 129) (n := 100) dX9_begins_97 rfl rfl (fun c19 => ?_) (fun c19 => ?_)
  · refine rf_iconst (n := 130) (0 : Int32) dX9_begins_129 cciconst_0 rfl ?_
    refine rf_istore_n (lc2 := [some (.ref 57), some (.int (0 : Int32))]) (n := 131) 1 dX9_begins_130 rfl rfl (Nat.le_of_ble_eq_true rfl) rfl rfl ?_
    exact pX9_begins_L131 hG _ _ _
  · refine rf_aload_n (n := 101) 0 dX9_begins_100 rfl rfl rfl ?_
    refine rf_getR (n := 104) rr_57_28 kk_74 hG dX9_begins_101 flX9_63 ki_9_28 sS_57 kk_57 rfl ?_
    refine rf_bipush (n := 106) (9 : Int32) dX9_begins_104 ccbipush_9 rfl ?_
    refine rf_iload_n (n := 107) 1 dX9_begins_106 rfl rfl rfl ?_
    refine rf_iadd (n := 108) dX9_begins_107 rfl ?_
    refine rf_aload_n (n := 109) 0 dX9_begins_108 rfl rfl rfl ?_
    refine rf_getR (n := 112) rr_57_13 kk_69 hG dX9_begins_109 flX9_44 ki_9_13 sS_57 kk_57 rfl ?_
    refine rf_iload_n (n := 113) 1 dX9_begins_112 rfl rfl rfl ?_
    refine rf_zald (n := 114) hG dX9_begins_113 sS_69 kk_69 rfl (fun v16 => ?_)
    refine rf_if_eq (tg := 121) (n := 117) dX9_begins_114 rfl rfl (fun c18 => ?_) (fun c18 => ?_)
    · refine rf_iconst (n := 122) (0 : Int32) dX9_begins_121 cciconst_0 rfl ?_
      exact pX9_begins_K122 hG _ _ _ r92 hr92 _
    · refine rf_iconst (n := 118) (1 : Int32) dX9_begins_117 cciconst_1 rfl ?_
      refine rf_goto (tg := 122) dX9_begins_118 rfl ?_
      exact pX9_begins_K122 hG _ _ _ r92 hr92 _
theorem pX9_begins_L92 {x : ax_X} {G : ax_G} (hG : ax_ok G) (n : Nat) (a1 : Int32) (μ : ax_M) : ax_Rf mX9_begins 1 x (ax_Z ax_jV x G) G 0 0 92 [some (.ref 57), some (.int a1)] [] μ (ax_lp1 (fX9_begins_B92) n a1 μ) :=
  rf_lp1 (P := fun a1 μ t => ax_Rf mX9_begins 1 x (ax_Z ax_jV x G) G 0 0 92 [some (.ref 57), some (.int a1)] [] μ t) (fun _ _ => rf_none) (fun rc hrc a1 μ => pX9_begins_B92 hG rc hrc a1 μ) n a1 μ
def fX9_begins_B48 (r48 : Int32 → ax_M → Option (Unit × ax_M)) (l1 : Int32) (μ : ax_M) : Option (Unit × ax_M) :=
  (ax_bd (fX9_phases μ) (fun v5 m6 => (if v5 ≤ l1 then (ax_lp1 (fX9_begins_B92) ax_FU (0 : Int32) m6) else (Option.bind (ax_rd m6 62 8 l1) (fun v20 => (Option.bind (ax_wr m6 74 68 ((1 : Int32) + l1) v20) (fun m21 => (Option.bind (ax_rd m21 63 8 l1) (fun v22 => (Option.bind (ax_wr m21 74 68 ((5 : Int32) + l1) v22) (fun m23 => (r48 (l1 + (1 : Int32)) m23))))))))))))
theorem pX9_begins_B48 {x : ax_X} {G : ax_G} (hG : ax_ok G) (r48 : Int32 → ax_M → Option (Unit × ax_M)) (hr48 : ∀ (a1 : Int32) (μ : ax_M), ax_Rf mX9_begins 1 x (ax_Z ax_jV x G) G 0 0 48 [some (.ref 57), some (.int a1)] [] μ (r48 a1 μ)) (l1 : Int32) (μ : ax_M) : ax_Rf mX9_begins 1 x (ax_Z ax_jV x G) G 0 0 48 [some (.ref 57), some (.int l1)] [] μ (fX9_begins_B48 r48 l1 μ) := by
  unfold fX9_begins_B48
  refine rf_iload_n (n := 49) 1 dX9_begins_48 rfl rfl rfl ?_
  refine rf_aload_n (n := 50) 0 dX9_begins_49 rfl rfl rfl ?_
  refine rf_cV0I (n := 53) hG (okX9_phases _) lVX9_230 hhX9_phases kk_57 sS_57 ⟨_, rfl, rfl⟩ dX9_begins_50 rfl (Nat.le_of_ble_eq_true rfl) (Nat.le_of_ble_eq_true rfl) (fun v5 m6 => ?_)
  refine rf_icmp_ge (tg := 90) (n := 56) dX9_begins_53 rfl rfl (fun c24 => ?_) (fun c24 => ?_)
  · refine rf_iconst (n := 91) (0 : Int32) dX9_begins_90 cciconst_0 rfl ?_
    refine rf_istore_n (lc2 := [some (.ref 57), some (.int (0 : Int32))]) (n := 92) 1 dX9_begins_91 rfl rfl (Nat.le_of_ble_eq_true rfl) rfl rfl ?_
    exact pX9_begins_L92 hG _ _ _
  · refine rf_aload_n (n := 57) 0 dX9_begins_56 rfl rfl rfl ?_
    refine rf_getR (n := 60) rr_57_28 kk_74 hG dX9_begins_57 flX9_63 ki_9_28 sS_57 kk_57 rfl ?_
    refine rf_iconst (n := 61) (1 : Int32) dX9_begins_60 cciconst_1 rfl ?_
    refine rf_iload_n (n := 62) 1 dX9_begins_61 rfl rfl rfl ?_
    refine rf_iadd (n := 63) dX9_begins_62 rfl ?_
    refine rf_aload_n (n := 64) 0 dX9_begins_63 rfl rfl rfl ?_
    refine rf_getR (n := 67) rr_57_6 kk_62 hG dX9_begins_64 flX9_23 ki_9_6 sS_57 kk_57 rfl ?_
    refine rf_iload_n (n := 68) 1 dX9_begins_67 rfl rfl rfl ?_
    refine rf_iald (n := 69) hG dX9_begins_68 sS_62 kk_62 rfl (fun v20 => ?_)
    refine rf_iast (n := 70) hG dX9_begins_69 sS_74 kk_74 rfl (fun m21 => ?_)
    refine rf_aload_n (n := 71) 0 dX9_begins_70 rfl rfl rfl ?_
    refine rf_getR (n := 74) rr_57_28 kk_74 hG dX9_begins_71 flX9_63 ki_9_28 sS_57 kk_57 rfl ?_
    refine rf_iconst (n := 75) (5 : Int32) dX9_begins_74 cciconst_5 rfl ?_
    refine rf_iload_n (n := 76) 1 dX9_begins_75 rfl rfl rfl ?_
    refine rf_iadd (n := 77) dX9_begins_76 rfl ?_
    refine rf_aload_n (n := 78) 0 dX9_begins_77 rfl rfl rfl ?_
    refine rf_getR (n := 81) rr_57_7 kk_63 hG dX9_begins_78 flX9_26 ki_9_7 sS_57 kk_57 rfl ?_
    refine rf_iload_n (n := 82) 1 dX9_begins_81 rfl rfl rfl ?_
    refine rf_iald (n := 83) hG dX9_begins_82 sS_63 kk_63 rfl (fun v22 => ?_)
    refine rf_iast (n := 84) hG dX9_begins_83 sS_74 kk_74 rfl (fun m23 => ?_)
    refine rf_iinc (lc2 := [some (.ref 57), some (.int (l1 + (1 : Int32)))]) (n := 87) (w := (1 : Int32)) 1 dX9_begins_84 rfl rfl rfl (Nat.le_of_ble_eq_true rfl) rfl rfl ?_
    refine rf_goto (tg := 48) dX9_begins_87 rfl ?_
    exact hr48 _ _
theorem pX9_begins_L48 {x : ax_X} {G : ax_G} (hG : ax_ok G) (n : Nat) (a1 : Int32) (μ : ax_M) : ax_Rf mX9_begins 1 x (ax_Z ax_jV x G) G 0 0 48 [some (.ref 57), some (.int a1)] [] μ (ax_lp1 (fX9_begins_B48) n a1 μ) :=
  rf_lp1 (P := fun a1 μ t => ax_Rf mX9_begins 1 x (ax_Z ax_jV x G) G 0 0 48 [some (.ref 57), some (.int a1)] [] μ t) (fun _ _ => rf_none) (fun rc hrc a1 μ => pX9_begins_B48 hG rc hrc a1 μ) n a1 μ
def fX9_begins_B2 (r2 : Int32 → ax_M → Option (Unit × ax_M)) (l1 : Int32) (μ : ax_M) : Option (Unit × ax_M) :=
  (if (68 : Int32) ≤ l1 then (Option.bind (ax_rd μ 59 12 (0 : Int32)) (fun v1 => (Option.bind (ax_wr μ 74 68 (0 : Int32) v1) (fun m2 => (Option.bind (ax_rd m2 59 12 (5 : Int32)) (fun v3 => (Option.bind (ax_wr m2 74 68 (67 : Int32) v3) (fun m4 => (ax_lp1 (fX9_begins_B48) ax_FU (0 : Int32) m4))))))))) else (Option.bind (ax_wr μ 74 68 l1 (0 : Int32)) (fun m25 => (r2 (l1 + (1 : Int32)) m25))))
theorem pX9_begins_B2 {x : ax_X} {G : ax_G} (hG : ax_ok G) (r2 : Int32 → ax_M → Option (Unit × ax_M)) (hr2 : ∀ (a1 : Int32) (μ : ax_M), ax_Rf mX9_begins 1 x (ax_Z ax_jV x G) G 0 0 2 [some (.ref 57), some (.int a1)] [] μ (r2 a1 μ)) (l1 : Int32) (μ : ax_M) : ax_Rf mX9_begins 1 x (ax_Z ax_jV x G) G 0 0 2 [some (.ref 57), some (.int l1)] [] μ (fX9_begins_B2 r2 l1 μ) := by
  unfold fX9_begins_B2
  refine rf_iload_n (n := 3) 1 dX9_begins_2 rfl rfl rfl ?_
  refine rf_bipush (n := 5) (68 : Int32) dX9_begins_3 ccbipush_68 rfl ?_
  refine rf_icmp_ge (tg := 21) (n := 8) dX9_begins_5 rfl rfl (fun c26 => ?_) (fun c26 => ?_)
  · refine rf_aload_n (n := 22) 0 dX9_begins_21 rfl rfl rfl ?_
    refine rf_getR (n := 25) rr_57_28 kk_74 hG dX9_begins_22 flX9_63 ki_9_28 sS_57 kk_57 rfl ?_
    refine rf_iconst (n := 26) (0 : Int32) dX9_begins_25 cciconst_0 rfl ?_
    refine rf_aload_n (n := 27) 0 dX9_begins_26 rfl rfl rfl ?_
    refine rf_getR (n := 30) rr_57_3 kk_59 hG dX9_begins_27 flX9_13 ki_9_3 sS_57 kk_57 rfl ?_
    refine rf_iconst (n := 31) (0 : Int32) dX9_begins_30 cciconst_0 rfl ?_
    refine rf_iald (n := 32) hG dX9_begins_31 sS_59 kk_59 rfl (fun v1 => ?_)
    refine rf_iast (n := 33) hG dX9_begins_32 sS_74 kk_74 rfl (fun m2 => ?_)
    refine rf_aload_n (n := 34) 0 dX9_begins_33 rfl rfl rfl ?_
    refine rf_getR (n := 37) rr_57_28 kk_74 hG dX9_begins_34 flX9_63 ki_9_28 sS_57 kk_57 rfl ?_
    refine rf_bipush (n := 39) (67 : Int32) dX9_begins_37 ccbipush_67 rfl ?_
    refine rf_aload_n (n := 40) 0 dX9_begins_39 rfl rfl rfl ?_
    refine rf_getR (n := 43) rr_57_3 kk_59 hG dX9_begins_40 flX9_13 ki_9_3 sS_57 kk_57 rfl ?_
    refine rf_iconst (n := 44) (5 : Int32) dX9_begins_43 cciconst_5 rfl ?_
    refine rf_iald (n := 45) hG dX9_begins_44 sS_59 kk_59 rfl (fun v3 => ?_)
    refine rf_iast (n := 46) hG dX9_begins_45 sS_74 kk_74 rfl (fun m4 => ?_)
    refine rf_iconst (n := 47) (0 : Int32) dX9_begins_46 cciconst_0 rfl ?_
    refine rf_istore_n (lc2 := [some (.ref 57), some (.int (0 : Int32))]) (n := 48) 1 dX9_begins_47 rfl rfl (Nat.le_of_ble_eq_true rfl) rfl rfl ?_
    exact pX9_begins_L48 hG _ _ _
  · refine rf_aload_n (n := 9) 0 dX9_begins_8 rfl rfl rfl ?_
    refine rf_getR (n := 12) rr_57_28 kk_74 hG dX9_begins_9 flX9_63 ki_9_28 sS_57 kk_57 rfl ?_
    refine rf_iload_n (n := 13) 1 dX9_begins_12 rfl rfl rfl ?_
    refine rf_iconst (n := 14) (0 : Int32) dX9_begins_13 cciconst_0 rfl ?_
    refine rf_iast (n := 15) hG dX9_begins_14 sS_74 kk_74 rfl (fun m25 => ?_)
    refine rf_iinc (lc2 := [some (.ref 57), some (.int (l1 + (1 : Int32)))]) (n := 18) (w := (1 : Int32)) 1 dX9_begins_15 rfl rfl rfl (Nat.le_of_ble_eq_true rfl) rfl rfl ?_
    refine rf_goto (tg := 2) dX9_begins_18 rfl ?_
    exact hr2 _ _
theorem pX9_begins_L2 {x : ax_X} {G : ax_G} (hG : ax_ok G) (n : Nat) (a1 : Int32) (μ : ax_M) : ax_Rf mX9_begins 1 x (ax_Z ax_jV x G) G 0 0 2 [some (.ref 57), some (.int a1)] [] μ (ax_lp1 (fX9_begins_B2) n a1 μ) :=
  rf_lp1 (P := fun a1 μ t => ax_Rf mX9_begins 1 x (ax_Z ax_jV x G) G 0 0 2 [some (.ref 57), some (.int a1)] [] μ t) (fun _ _ => rf_none) (fun rc hrc a1 μ => pX9_begins_B2 hG rc hrc a1 μ) n a1 μ
def fX9_begins (μ : ax_M) : Option (Unit × ax_M) :=
  (ax_lp1 (fX9_begins_B2) ax_FU (0 : Int32) μ)
theorem okX9_begins (μ : ax_M) : ax_Ok mX9_begins 1 ax_jV [.ref 57] μ (fX9_begins μ) := by
  refine ax_start (lc := [some (.ref 57), none]) 1 (by decide +kernel) rfl (Nat.le_of_ble_eq_true rfl) (fun x G hG => ?_)
  unfold fX9_begins
  refine rf_iconst (n := 1) (0 : Int32) dX9_begins_0 cciconst_0 rfl ?_
  refine rf_istore_n (lc2 := [some (.ref 57), some (.int (0 : Int32))]) (n := 2) 1 dX9_begins_1 rfl rfl (Nat.le_of_ble_eq_true rfl) rfl rfl ?_
  exact pX9_begins_L2 hG _ _ _
def fX9_text_K17 (μ : ax_M) : Option (Int32 × ax_M) :=
  (some ((-2 : Int32), μ))
theorem pX9_text_K17 {x : ax_X} {G : ax_G} (hG : ax_ok G) (μ : ax_M) : ax_Rf mX9_text 11 x (ax_Z ax_jI x G) G 0 0 17 [none, none] [] μ (fX9_text_K17 μ) := by
  unfold fX9_text_K17
  refine rf_bipush (n := 19) (-2 : Int32) dX9_text_17 ccbipush_m2 rfl ?_
  exact rf_retI rfl dX9_text_19
def fX9_text_K54 (s1 : Int32) (μ : ax_M) : Option (Int32 × ax_M) :=
  (ax_let (ax_wi μ 57 27 s1) (fun m6 => (if (m6.1 57 24) = 0 then (ax_bd (fX9_takeText m6) (fun _ m8 => (ax_bd (fX9_begins m8) (fun _ m10 => (ax_let (ax_wi m10 57 30 (0 : Int32)) (fun m11 => (ax_let (ax_wi m11 57 31 (0 : Int32)) (fun m12 => (some ((m12.1 57 18), m12)))))))))) else (some ((-1 : Int32), m6)))))
theorem pX9_text_K54 {x : ax_X} {G : ax_G} (hG : ax_ok G) (s1 : Int32) (μ : ax_M) : ax_Rf mX9_text 11 x (ax_Z ax_jI x G) G 0 0 54 [some (.ref 57), none] [.int s1, .ref 57] μ (fX9_text_K54 s1 μ) := by
  unfold fX9_text_K54
  refine rf_pfI (n := 57) hG rfl dX9_text_54 flX9_59 ki_9_27 nf_9_27 sS_57 kk_57 rfl (fun m6 => ?_)
  refine rf_aload_n (n := 58) 0 dX9_text_57 rfl rfl rfl ?_
  refine rf_getI (n := 61) hG dX9_text_58 flX9_153 ki_9_24 sS_57 kk_57 rfl ?_
  refine rf_if_eq (tg := 66) (n := 64) dX9_text_61 rfl rfl (fun c13 => ?_) (fun c13 => ?_)
  · refine rf_aload_n (n := 67) 0 dX9_text_66 rfl rfl rfl ?_
    refine rf_cV0V (n := 70) hG (okX9_takeText _) lVX9_97 hhX9_takeText kk_57 sS_57 ⟨_, rfl, rfl⟩ dX9_text_67 rfl (Nat.le_of_ble_eq_true rfl) (Nat.le_of_ble_eq_true rfl) (fun _ m8 => ?_)
    refine rf_aload_n (n := 71) 0 dX9_text_70 rfl rfl rfl ?_
    refine rf_cV0V (n := 74) hG (okX9_begins _) lVX9_100 hhX9_begins kk_57 sS_57 ⟨_, rfl, rfl⟩ dX9_text_71 rfl (Nat.le_of_ble_eq_true rfl) (Nat.le_of_ble_eq_true rfl) (fun _ m10 => ?_)
    refine rf_aload_n (n := 75) 0 dX9_text_74 rfl rfl rfl ?_
    refine rf_iconst (n := 76) (0 : Int32) dX9_text_75 cciconst_0 rfl ?_
    refine rf_pfI (n := 79) hG rfl dX9_text_76 flX9_223 ki_9_30 nf_9_30 sS_57 kk_57 rfl (fun m11 => ?_)
    refine rf_aload_n (n := 80) 0 dX9_text_79 rfl rfl rfl ?_
    refine rf_iconst (n := 81) (0 : Int32) dX9_text_80 cciconst_0 rfl ?_
    refine rf_pfZ (n := 84) hG rfl (Or.inl rfl) dX9_text_81 flX9_226 ki_9_31 nf_9_31 sS_57 kk_57 rfl (fun m12 => ?_)
    refine rf_aload_n (n := 85) 0 dX9_text_84 rfl rfl rfl ?_
    refine rf_getI (n := 88) hG dX9_text_85 flX9_211 ki_9_18 sS_57 kk_57 rfl ?_
    exact rf_retI rfl dX9_text_88
  · refine rf_iconst (n := 65) (-1 : Int32) dX9_text_64 cciconst_m1 rfl ?_
    exact rf_retI rfl dX9_text_65
def fX9_text (p1 : Int32) (μ : ax_M) : Option (Int32 × ax_M) :=
  (ax_let (ax_wi μ 57 0 (0 : Int32)) (fun m1 => (if p1 < 0 then (fX9_text_K17 m1) else (if p1 ≤ (m1.1 57 2) then (ax_bd (fX9_readText p1 m1) (fun _ m3 => (ax_let (ax_wi m3 57 2 (0 : Int32)) (fun m4 => (ax_let (ax_wi m4 57 26 (m4.1 57 24)) (fun m5 => (if (m5.1 57 24) = 0 then (fX9_text_K54 (-1 : Int32) m5) else (fX9_text_K54 (m5.1 57 25) m5)))))))) else (fX9_text_K17 m1)))))
theorem okX9_text (p1 : Int32) (μ : ax_M) : ax_Ok mX9_text 11 ax_jI [.ref 57, .int p1] μ (fX9_text p1 μ) := by
  refine ax_start (lc := [some (.ref 57), some (.int p1)]) 0 (by decide +kernel) rfl (Nat.le_of_ble_eq_true rfl) (fun x G hG => ?_)
  unfold fX9_text
  refine rf_aload_n (n := 1) 0 dX9_text_0 rfl rfl rfl ?_
  refine rf_iconst (n := 2) (0 : Int32) dX9_text_1 cciconst_0 rfl ?_
  refine rf_pfI (n := 5) hG rfl dX9_text_2 flX9_103 ki_9_0 nf_9_0 sS_57 kk_57 rfl (fun m1 => ?_)
  refine rf_iload_n (n := 6) 1 dX9_text_5 rfl rfl rfl ?_
  refine rf_if_lt (tg := 17) (n := 9) dX9_text_6 rfl rfl (fun c16 => ?_) (fun c16 => ?_)
  · refine rf_mask (lc2 := [none, none]) [false, false] rfl ?_
    exact pX9_text_K17 hG _
  · refine rf_iload_n (n := 10) 1 dX9_text_9 rfl rfl rfl ?_
    refine rf_aload_n (n := 11) 0 dX9_text_10 rfl rfl rfl ?_
    refine rf_getI (n := 14) hG dX9_text_11 flX9_106 ki_9_2 sS_57 kk_57 rfl ?_
    refine rf_icmp_le (tg := 20) (n := 17) dX9_text_14 rfl rfl (fun c15 => ?_) (fun c15 => ?_)
    · refine rf_aload_n (n := 21) 0 dX9_text_20 rfl rfl rfl ?_
      refine rf_iload_n (n := 22) 1 dX9_text_21 rfl rfl rfl ?_
      refine rf_cV1V (n := 25) hG (okX9_readText _ _) lVX9_217 hhX9_readText kk_57 sS_57 ⟨_, rfl, rfl⟩ dX9_text_22 rfl (Nat.le_of_ble_eq_true rfl) (Nat.le_of_ble_eq_true rfl) (fun _ m3 => ?_)
      refine rf_aload_n (n := 26) 0 dX9_text_25 rfl rfl rfl ?_
      refine rf_iconst (n := 27) (0 : Int32) dX9_text_26 cciconst_0 rfl ?_
      refine rf_pfI (n := 30) hG rfl dX9_text_27 flX9_106 ki_9_2 nf_9_2 sS_57 kk_57 rfl (fun m4 => ?_)
      refine rf_aload_n (n := 31) 0 dX9_text_30 rfl rfl rfl ?_
      refine rf_aload_n (n := 32) 0 dX9_text_31 rfl rfl rfl ?_
      refine rf_getI (n := 35) hG dX9_text_32 flX9_153 ki_9_24 sS_57 kk_57 rfl ?_
      refine rf_pfI (n := 38) hG rfl dX9_text_35 flX9_220 ki_9_26 nf_9_26 sS_57 kk_57 rfl (fun m5 => ?_)
      refine rf_aload_n (n := 39) 0 dX9_text_38 rfl rfl rfl ?_
      refine rf_aload_n (n := 40) 0 dX9_text_39 rfl rfl rfl ?_
      refine rf_getI (n := 43) hG dX9_text_40 flX9_153 ki_9_24 sS_57 kk_57 rfl ?_
      refine rf_if_ne (tg := 50) (n := 46) dX9_text_43 rfl rfl (fun c14 => ?_) (fun c14 => ?_)
      · refine rf_aload_n (n := 51) 0 dX9_text_50 rfl rfl rfl ?_
        refine rf_getI (n := 54) hG dX9_text_51 flX9_156 ki_9_25 sS_57 kk_57 rfl ?_
        refine rf_mask (lc2 := [some (.ref 57), none]) [true, false] rfl ?_
        exact pX9_text_K54 hG _ _
      · refine rf_iconst (n := 47) (-1 : Int32) dX9_text_46 cciconst_m1 rfl ?_
        refine rf_goto (tg := 54) dX9_text_47 rfl ?_
        refine rf_mask (lc2 := [some (.ref 57), none]) [true, false] rfl ?_
        exact pX9_text_K54 hG _ _
    · refine rf_mask (lc2 := [none, none]) [false, false] rfl ?_
      exact pX9_text_K17 hG _
def fX8_fault_K28 (s0 : Int32) (μ : ax_M) : Option (Int32 × ax_M) :=
  (some (s0, μ))
theorem pX8_fault_K28 {x : ax_X} {G : ax_G} (hG : ax_ok G) (s0 : Int32) (μ : ax_M) : ax_Rf mX8_fault 0 x (ax_Z ax_jI x G) G 0 0 28 [none, none] [.int s0] μ (fX8_fault_K28 s0 μ) := by
  unfold fX8_fault_K28
  exact rf_retI rfl dX8_fault_28
def fX8_fault (p1 : Int32) (μ : ax_M) : Option (Int32 × ax_M) :=
  (if p1 = 0 then (some ((μ.1 15 2), μ)) else (if p1 = (1 : Int32) then (fX8_fault_K28 (μ.1 15 3) μ) else (fX8_fault_K28 (-1 : Int32) μ)))
theorem okX8_fault (p1 : Int32) (μ : ax_M) : ax_Ok mX8_fault 0 ax_jI [.ref 0, .int p1] μ (fX8_fault p1 μ) := by
  refine ax_start (lc := [some (.ref 0), some (.int p1)]) 0 (by decide +kernel) rfl (Nat.le_of_ble_eq_true rfl) (fun x G hG => ?_)
  unfold fX8_fault
  refine rf_iload_n (n := 1) 1 dX8_fault_0 rfl rfl rfl ?_
  refine rf_if_ne (tg := 12) (n := 4) dX8_fault_1 rfl rfl (fun c2 => ?_) (fun c2 => ?_)
  · refine rf_iload_n (n := 13) 1 dX8_fault_12 rfl rfl rfl ?_
    refine rf_iconst (n := 14) (1 : Int32) dX8_fault_13 cciconst_1 rfl ?_
    refine rf_icmp_ne (tg := 27) (n := 17) dX8_fault_14 rfl rfl (fun c1 => ?_) (fun c1 => ?_)
    · refine rf_iconst (n := 28) (-1 : Int32) dX8_fault_27 cciconst_m1 rfl ?_
      refine rf_mask (lc2 := [none, none]) [false, false] rfl ?_
      exact pX8_fault_K28 hG _ _
    · refine rf_aload_n (n := 18) 0 dX8_fault_17 rfl rfl rfl ?_
      refine rf_getR (n := 21) rr_0_3 kk_15 hG dX8_fault_18 flX8_25 ki_8_3 sS_0 kk_0 rfl ?_
      refine rf_getI (n := 24) hG dX8_fault_21 flX8_102 ki_3_3 sS_15 kk_15 rfl ?_
      refine rf_goto (tg := 28) dX8_fault_24 rfl ?_
      refine rf_mask (lc2 := [none, none]) [false, false] rfl ?_
      exact pX8_fault_K28 hG _ _
  · refine rf_aload_n (n := 5) 0 dX8_fault_4 rfl rfl rfl ?_
    refine rf_getR (n := 8) rr_0_3 kk_15 hG dX8_fault_5 flX8_25 ki_8_3 sS_0 kk_0 rfl ?_
    refine rf_getI (n := 11) hG dX8_fault_8 flX8_99 ki_3_2 sS_15 kk_15 rfl ?_
    exact rf_retI rfl dX8_fault_11
def fX9_fault_K29 (s0 : Int32) (μ : ax_M) : Option (Int32 × ax_M) :=
  (some (s0, μ))
theorem pX9_fault_K29 {x : ax_X} {G : ax_G} (hG : ax_ok G) (s0 : Int32) (μ : ax_M) : ax_Rf mX9_fault 0 x (ax_Z ax_jI x G) G 0 0 29 [none, none] [.int s0] μ (fX9_fault_K29 s0 μ) := by
  unfold fX9_fault_K29
  exact rf_retI rfl dX9_fault_29
def fX9_fault (p1 : Int32) (μ : ax_M) : Option (Int32 × ax_M) :=
  (ax_let (ax_wi μ 57 0 (0 : Int32)) (fun m1 => (if p1 = 0 then (fX9_fault_K29 (m1.1 57 26) m1) else (if p1 = (1 : Int32) then (fX9_fault_K29 (m1.1 57 27) m1) else (fX9_fault_K29 (-1 : Int32) m1)))))
theorem okX9_fault (p1 : Int32) (μ : ax_M) : ax_Ok mX9_fault 0 ax_jI [.ref 57, .int p1] μ (fX9_fault p1 μ) := by
  refine ax_start (lc := [some (.ref 57), some (.int p1)]) 0 (by decide +kernel) rfl (Nat.le_of_ble_eq_true rfl) (fun x G hG => ?_)
  unfold fX9_fault
  refine rf_aload_n (n := 1) 0 dX9_fault_0 rfl rfl rfl ?_
  refine rf_iconst (n := 2) (0 : Int32) dX9_fault_1 cciconst_0 rfl ?_
  refine rf_pfI (n := 5) hG rfl dX9_fault_2 flX9_103 ki_9_0 nf_9_0 sS_57 kk_57 rfl (fun m1 => ?_)
  refine rf_iload_n (n := 6) 1 dX9_fault_5 rfl rfl rfl ?_
  refine rf_if_ne (tg := 16) (n := 9) dX9_fault_6 rfl rfl (fun c3 => ?_) (fun c3 => ?_)
  · refine rf_iload_n (n := 17) 1 dX9_fault_16 rfl rfl rfl ?_
    refine rf_iconst (n := 18) (1 : Int32) dX9_fault_17 cciconst_1 rfl ?_
    refine rf_icmp_ne (tg := 28) (n := 21) dX9_fault_18 rfl rfl (fun c2 => ?_) (fun c2 => ?_)
    · refine rf_iconst (n := 29) (-1 : Int32) dX9_fault_28 cciconst_m1 rfl ?_
      refine rf_mask (lc2 := [none, none]) [false, false] rfl ?_
      exact pX9_fault_K29 hG _ _
    · refine rf_aload_n (n := 22) 0 dX9_fault_21 rfl rfl rfl ?_
      refine rf_getI (n := 25) hG dX9_fault_22 flX9_59 ki_9_27 sS_57 kk_57 rfl ?_
      refine rf_goto (tg := 29) dX9_fault_25 rfl ?_
      refine rf_mask (lc2 := [none, none]) [false, false] rfl ?_
      exact pX9_fault_K29 hG _ _
  · refine rf_aload_n (n := 10) 0 dX9_fault_9 rfl rfl rfl ?_
    refine rf_getI (n := 13) hG dX9_fault_10 flX9_220 ki_9_26 sS_57 kk_57 rfl ?_
    refine rf_goto (tg := 29) dX9_fault_13 rfl ?_
    refine rf_mask (lc2 := [none, none]) [false, false] rfl ?_
    exact pX9_fault_K29 hG _ _
def fX8_find_2_B2 (l1 : Int32) (l2 : Int32) (r2 : Int32 → ax_M → Option (Int32 × ax_M)) (l3 : Int32) (μ : ax_M) : Option (Int32 × ax_M) :=
  (if l1 ≤ l3 then (some ((-1 : Int32), μ)) else (Option.bind (ax_rd μ 6 10 l3) (fun v1 => (if v1 = l2 then (some (l3, μ)) else (r2 (l3 + (1 : Int32)) μ)))))
theorem pX8_find_2_B2 {x : ax_X} {G : ax_G} (hG : ax_ok G) (l1 : Int32) (l2 : Int32) (r2 : Int32 → ax_M → Option (Int32 × ax_M)) (hr2 : ∀ (a3 : Int32) (μ : ax_M), ax_Rf mX8_find 0 x (ax_Z ax_jI x G) G 0 0 2 [some (.ref 6), some (.int l1), some (.int l2), some (.int a3)] [] μ (r2 a3 μ)) (l3 : Int32) (μ : ax_M) : ax_Rf mX8_find 0 x (ax_Z ax_jI x G) G 0 0 2 [some (.ref 6), some (.int l1), some (.int l2), some (.int l3)] [] μ (fX8_find_2_B2 l1 l2 r2 l3 μ) := by
  unfold fX8_find_2_B2
  refine rf_iload_n (n := 3) 3 dX8_find_2 rfl rfl rfl ?_
  refine rf_iload_n (n := 4) 1 dX8_find_3 rfl rfl rfl ?_
  refine rf_icmp_ge (tg := 22) (n := 7) dX8_find_4 rfl rfl (fun c3 => ?_) (fun c3 => ?_)
  · refine rf_iconst (n := 23) (-1 : Int32) dX8_find_22 cciconst_m1 rfl ?_
    exact rf_retI rfl dX8_find_23
  · refine rf_aload_n (n := 8) 0 dX8_find_7 rfl rfl rfl ?_
    refine rf_iload_n (n := 9) 3 dX8_find_8 rfl rfl rfl ?_
    refine rf_iald (n := 10) hG dX8_find_9 sS_6 kk_6 rfl (fun v1 => ?_)
    refine rf_iload_n (n := 11) 2 dX8_find_10 rfl rfl rfl ?_
    refine rf_icmp_ne (tg := 16) (n := 14) dX8_find_11 rfl rfl (fun c2 => ?_) (fun c2 => ?_)
    · refine rf_iinc (lc2 := [some (.ref 6), some (.int l1), some (.int l2), some (.int (l3 + (1 : Int32)))]) (n := 19) (w := (1 : Int32)) 3 dX8_find_16 rfl rfl rfl (Nat.le_of_ble_eq_true rfl) rfl rfl ?_
      refine rf_goto (tg := 2) dX8_find_19 rfl ?_
      exact hr2 _ _
    · refine rf_iload_n (n := 15) 3 dX8_find_14 rfl rfl rfl ?_
      exact rf_retI rfl dX8_find_15
theorem pX8_find_2_L2 {x : ax_X} {G : ax_G} (hG : ax_ok G) (l1 : Int32) (l2 : Int32) (n : Nat) (a3 : Int32) (μ : ax_M) : ax_Rf mX8_find 0 x (ax_Z ax_jI x G) G 0 0 2 [some (.ref 6), some (.int l1), some (.int l2), some (.int a3)] [] μ (ax_lp1 (fX8_find_2_B2 l1 l2) n a3 μ) :=
  rf_lp1 (P := fun a3 μ t => ax_Rf mX8_find 0 x (ax_Z ax_jI x G) G 0 0 2 [some (.ref 6), some (.int l1), some (.int l2), some (.int a3)] [] μ t) (fun _ _ => rf_none) (fun rc hrc a3 μ => pX8_find_2_B2 hG l1 l2 rc hrc a3 μ) n a3 μ
def fX8_find_2 (p1 : Int32) (p2 : Int32) (μ : ax_M) : Option (Int32 × ax_M) :=
  (ax_lp1 (fX8_find_2_B2 p1 p2) ax_FU (0 : Int32) μ)
theorem okX8_find_2 (p1 : Int32) (p2 : Int32) (μ : ax_M) : ax_Ok mX8_find 0 ax_jI [.ref 6, .int p1, .int p2] μ (fX8_find_2 p1 p2 μ) := by
  refine ax_start (lc := [some (.ref 6), some (.int p1), some (.int p2), none]) 1 (by decide +kernel) rfl (Nat.le_of_ble_eq_true rfl) (fun x G hG => ?_)
  unfold fX8_find_2
  refine rf_iconst (n := 1) (0 : Int32) dX8_find_0 cciconst_0 rfl ?_
  refine rf_istore_n (lc2 := [some (.ref 6), some (.int p1), some (.int p2), some (.int (0 : Int32))]) (n := 2) 3 dX8_find_1 rfl rfl (Nat.le_of_ble_eq_true rfl) rfl rfl ?_
  exact pX8_find_2_L2 hG _ _ _ _ _
def fX8_find_3_B2 (l1 : Int32) (l2 : Int32) (r2 : Int32 → ax_M → Option (Int32 × ax_M)) (l3 : Int32) (μ : ax_M) : Option (Int32 × ax_M) :=
  (if l1 ≤ l3 then (some ((-1 : Int32), μ)) else (Option.bind (ax_rd μ 3 4 l3) (fun v1 => (if v1 = l2 then (some (l3, μ)) else (r2 (l3 + (1 : Int32)) μ)))))
theorem pX8_find_3_B2 {x : ax_X} {G : ax_G} (hG : ax_ok G) (l1 : Int32) (l2 : Int32) (r2 : Int32 → ax_M → Option (Int32 × ax_M)) (hr2 : ∀ (a3 : Int32) (μ : ax_M), ax_Rf mX8_find 0 x (ax_Z ax_jI x G) G 0 0 2 [some (.ref 3), some (.int l1), some (.int l2), some (.int a3)] [] μ (r2 a3 μ)) (l3 : Int32) (μ : ax_M) : ax_Rf mX8_find 0 x (ax_Z ax_jI x G) G 0 0 2 [some (.ref 3), some (.int l1), some (.int l2), some (.int l3)] [] μ (fX8_find_3_B2 l1 l2 r2 l3 μ) := by
  unfold fX8_find_3_B2
  refine rf_iload_n (n := 3) 3 dX8_find_2 rfl rfl rfl ?_
  refine rf_iload_n (n := 4) 1 dX8_find_3 rfl rfl rfl ?_
  refine rf_icmp_ge (tg := 22) (n := 7) dX8_find_4 rfl rfl (fun c3 => ?_) (fun c3 => ?_)
  · refine rf_iconst (n := 23) (-1 : Int32) dX8_find_22 cciconst_m1 rfl ?_
    exact rf_retI rfl dX8_find_23
  · refine rf_aload_n (n := 8) 0 dX8_find_7 rfl rfl rfl ?_
    refine rf_iload_n (n := 9) 3 dX8_find_8 rfl rfl rfl ?_
    refine rf_iald (n := 10) hG dX8_find_9 sS_3 kk_3 rfl (fun v1 => ?_)
    refine rf_iload_n (n := 11) 2 dX8_find_10 rfl rfl rfl ?_
    refine rf_icmp_ne (tg := 16) (n := 14) dX8_find_11 rfl rfl (fun c2 => ?_) (fun c2 => ?_)
    · refine rf_iinc (lc2 := [some (.ref 3), some (.int l1), some (.int l2), some (.int (l3 + (1 : Int32)))]) (n := 19) (w := (1 : Int32)) 3 dX8_find_16 rfl rfl rfl (Nat.le_of_ble_eq_true rfl) rfl rfl ?_
      refine rf_goto (tg := 2) dX8_find_19 rfl ?_
      exact hr2 _ _
    · refine rf_iload_n (n := 15) 3 dX8_find_14 rfl rfl rfl ?_
      exact rf_retI rfl dX8_find_15
theorem pX8_find_3_L2 {x : ax_X} {G : ax_G} (hG : ax_ok G) (l1 : Int32) (l2 : Int32) (n : Nat) (a3 : Int32) (μ : ax_M) : ax_Rf mX8_find 0 x (ax_Z ax_jI x G) G 0 0 2 [some (.ref 3), some (.int l1), some (.int l2), some (.int a3)] [] μ (ax_lp1 (fX8_find_3_B2 l1 l2) n a3 μ) :=
  rf_lp1 (P := fun a3 μ t => ax_Rf mX8_find 0 x (ax_Z ax_jI x G) G 0 0 2 [some (.ref 3), some (.int l1), some (.int l2), some (.int a3)] [] μ t) (fun _ _ => rf_none) (fun rc hrc a3 μ => pX8_find_3_B2 hG l1 l2 rc hrc a3 μ) n a3 μ
def fX8_find_3 (p1 : Int32) (p2 : Int32) (μ : ax_M) : Option (Int32 × ax_M) :=
  (ax_lp1 (fX8_find_3_B2 p1 p2) ax_FU (0 : Int32) μ)
theorem okX8_find_3 (p1 : Int32) (p2 : Int32) (μ : ax_M) : ax_Ok mX8_find 0 ax_jI [.ref 3, .int p1, .int p2] μ (fX8_find_3 p1 p2 μ) := by
  refine ax_start (lc := [some (.ref 3), some (.int p1), some (.int p2), none]) 1 (by decide +kernel) rfl (Nat.le_of_ble_eq_true rfl) (fun x G hG => ?_)
  unfold fX8_find_3
  refine rf_iconst (n := 1) (0 : Int32) dX8_find_0 cciconst_0 rfl ?_
  refine rf_istore_n (lc2 := [some (.ref 3), some (.int p1), some (.int p2), some (.int (0 : Int32))]) (n := 2) 3 dX8_find_1 rfl rfl (Nat.le_of_ble_eq_true rfl) rfl rfl ?_
  exact pX8_find_3_L2 hG _ _ _ _ _
def fX8_named_K50 (s0 : Int32) (μ : ax_M) : Option (Int32 × ax_M) :=
  (some (s0, μ))
theorem pX8_named_K50 {x : ax_X} {G : ax_G} (hG : ax_ok G) (s0 : Int32) (μ : ax_M) : ax_Rf mX8_named 1 x (ax_Z ax_jI x G) G 0 0 50 [none, none, none] [.int s0] μ (fX8_named_K50 s0 μ) := by
  unfold fX8_named_K50
  exact rf_retI rfl dX8_named_50
def fX8_named (p1 : Int32) (p2 : Int32) (μ : ax_M) : Option (Int32 × ax_M) :=
  (if p1 = 0 then (ax_bd (fX8_find_3 (μ.1 2 12) p2 μ) (fun v4 m5 => (some (v4, m5)))) else (if p1 = (1 : Int32) then (ax_bd (fX8_find_2 (μ.1 2 13) p2 μ) (fun v1 m2 => (fX8_named_K50 v1 m2))) else (fX8_named_K50 (-1 : Int32) μ)))
theorem okX8_named (p1 : Int32) (p2 : Int32) (μ : ax_M) : ax_Ok mX8_named 1 ax_jI [.ref 0, .int p1, .int p2] μ (fX8_named p1 p2 μ) := by
  refine ax_start (lc := [some (.ref 0), some (.int p1), some (.int p2)]) 0 (by decide +kernel) rfl (Nat.le_of_ble_eq_true rfl) (fun x G hG => ?_)
  unfold fX8_named
  refine rf_iload_n (n := 1) 1 dX8_named_0 rfl rfl rfl ?_
  refine rf_if_ne (tg := 23) (n := 4) dX8_named_1 rfl rfl (fun c6 => ?_) (fun c6 => ?_)
  · refine rf_iload_n (n := 24) 1 dX8_named_23 rfl rfl rfl ?_
    refine rf_iconst (n := 25) (1 : Int32) dX8_named_24 cciconst_1 rfl ?_
    refine rf_icmp_ne (tg := 49) (n := 28) dX8_named_25 rfl rfl (fun c3 => ?_) (fun c3 => ?_)
    · refine rf_iconst (n := 50) (-1 : Int32) dX8_named_49 cciconst_m1 rfl ?_
      refine rf_mask (lc2 := [none, none, none]) [false, false, false] rfl ?_
      exact pX8_named_K50 hG _ _
    · refine rf_aload_n (n := 29) 0 dX8_named_28 rfl rfl rfl ?_
      refine rf_getR (n := 32) rr_0_2 kk_2 hG dX8_named_29 flX8_16 ki_8_2 sS_0 kk_0 rfl ?_
      refine rf_getR (n := 35) rr_2_3 kk_6 hG dX8_named_32 flX8_115 ki_1_3 sS_2 kk_2 rfl ?_
      refine rf_aload_n (n := 36) 0 dX8_named_35 rfl rfl rfl ?_
      refine rf_getR (n := 39) rr_0_2 kk_2 hG dX8_named_36 flX8_16 ki_8_2 sS_0 kk_0 rfl ?_
      refine rf_getI (n := 42) hG dX8_named_39 flX8_118 ki_1_13 sS_2 kk_2 rfl ?_
      refine rf_iload_n (n := 43) 2 dX8_named_42 rfl rfl rfl ?_
      refine rf_cS3I (n := 46) hG (okX8_find_2 _ _ _) lSX8_111 hhX8_find dX8_named_43 rfl (Nat.le_of_ble_eq_true rfl) (Nat.le_of_ble_eq_true rfl) (fun v1 m2 => ?_)
      refine rf_goto (tg := 50) dX8_named_46 rfl ?_
      refine rf_mask (lc2 := [none, none, none]) [false, false, false] rfl ?_
      exact pX8_named_K50 hG _ _
  · refine rf_aload_n (n := 5) 0 dX8_named_4 rfl rfl rfl ?_
    refine rf_getR (n := 8) rr_0_2 kk_2 hG dX8_named_5 flX8_16 ki_8_2 sS_0 kk_0 rfl ?_
    refine rf_getR (n := 11) rr_2_0 kk_3 hG dX8_named_8 flX8_105 ki_1_0 sS_2 kk_2 rfl ?_
    refine rf_aload_n (n := 12) 0 dX8_named_11 rfl rfl rfl ?_
    refine rf_getR (n := 15) rr_0_2 kk_2 hG dX8_named_12 flX8_16 ki_8_2 sS_0 kk_0 rfl ?_
    refine rf_getI (n := 18) hG dX8_named_15 flX8_108 ki_1_12 sS_2 kk_2 rfl ?_
    refine rf_iload_n (n := 19) 2 dX8_named_18 rfl rfl rfl ?_
    refine rf_cS3I (n := 22) hG (okX8_find_3 _ _ _) lSX8_111 hhX8_find dX8_named_19 rfl (Nat.le_of_ble_eq_true rfl) (Nat.le_of_ble_eq_true rfl) (fun v4 m5 => ?_)
    exact rf_retI rfl dX8_named_22
def fX9_named_K47 (s0 : Int32) (μ : ax_M) : Option (Int32 × ax_M) :=
  (some (s0, μ))
theorem pX9_named_K47 {x : ax_X} {G : ax_G} (hG : ax_ok G) (s0 : Int32) (μ : ax_M) : ax_Rf mX9_named 1 x (ax_Z ax_jI x G) G 0 0 47 [none, none, none] [.int s0] μ (fX9_named_K47 s0 μ) := by
  unfold fX9_named_K47
  exact rf_retI rfl dX9_named_47
def fX9_named (p1 : Int32) (p2 : Int32) (μ : ax_M) : Option (Int32 × ax_M) :=
  (ax_let (ax_wi μ 57 0 (0 : Int32)) (fun m1 => (if p1 = 0 then (ax_bd (fX9_phases m1) (fun v7 m8 => (ax_bd (fX9_foundIn_1 (0 : Int32) v7 p2 m8) (fun v9 m10 => (fX9_named_K47 v9 m10))))) else (if p1 = (1 : Int32) then (ax_bd (fX9_cells m1) (fun v2 m3 => (ax_bd (fX9_foundIn (0 : Int32) v2 p2 m3) (fun v4 m5 => (fX9_named_K47 v4 m5))))) else (fX9_named_K47 (-1 : Int32) m1)))))
theorem okX9_named (p1 : Int32) (p2 : Int32) (μ : ax_M) : ax_Ok mX9_named 1 ax_jI [.ref 57, .int p1, .int p2] μ (fX9_named p1 p2 μ) := by
  refine ax_start (lc := [some (.ref 57), some (.int p1), some (.int p2)]) 0 (by decide +kernel) rfl (Nat.le_of_ble_eq_true rfl) (fun x G hG => ?_)
  unfold fX9_named
  refine rf_aload_n (n := 1) 0 dX9_named_0 rfl rfl rfl ?_
  refine rf_iconst (n := 2) (0 : Int32) dX9_named_1 cciconst_0 rfl ?_
  refine rf_pfI (n := 5) hG rfl dX9_named_2 flX9_103 ki_9_0 nf_9_0 sS_57 kk_57 rfl (fun m1 => ?_)
  refine rf_iload_n (n := 6) 1 dX9_named_5 rfl rfl rfl ?_
  refine rf_if_ne (tg := 25) (n := 9) dX9_named_6 rfl rfl (fun c11 => ?_) (fun c11 => ?_)
  · refine rf_iload_n (n := 26) 1 dX9_named_25 rfl rfl rfl ?_
    refine rf_iconst (n := 27) (1 : Int32) dX9_named_26 cciconst_1 rfl ?_
    refine rf_icmp_ne (tg := 46) (n := 30) dX9_named_27 rfl rfl (fun c6 => ?_) (fun c6 => ?_)
    · refine rf_iconst (n := 47) (-1 : Int32) dX9_named_46 cciconst_m1 rfl ?_
      refine rf_mask (lc2 := [none, none, none]) [false, false, false] rfl ?_
      exact pX9_named_K47 hG _ _
    · refine rf_aload_n (n := 31) 0 dX9_named_30 rfl rfl rfl ?_
      refine rf_getR (n := 34) rr_57_8 kk_64 hG dX9_named_31 flX9_29 ki_9_8 sS_57 kk_57 rfl ?_
      refine rf_iconst (n := 35) (0 : Int32) dX9_named_34 cciconst_0 rfl ?_
      refine rf_aload_n (n := 36) 0 dX9_named_35 rfl rfl rfl ?_
      refine rf_cV0I (n := 39) hG (okX9_cells _) lVX9_233 hhX9_cells kk_57 sS_57 ⟨_, rfl, rfl⟩ dX9_named_36 rfl (Nat.le_of_ble_eq_true rfl) (Nat.le_of_ble_eq_true rfl) (fun v2 m3 => ?_)
      refine rf_iload_n (n := 40) 2 dX9_named_39 rfl rfl rfl ?_
      refine rf_cS4I (n := 43) hG (okX9_foundIn _ _ _ _) lSX9_177 hhX9_foundIn dX9_named_40 rfl (Nat.le_of_ble_eq_true rfl) (Nat.le_of_ble_eq_true rfl) (fun v4 m5 => ?_)
      refine rf_goto (tg := 47) dX9_named_43 rfl ?_
      refine rf_mask (lc2 := [none, none, none]) [false, false, false] rfl ?_
      exact pX9_named_K47 hG _ _
  · refine rf_aload_n (n := 10) 0 dX9_named_9 rfl rfl rfl ?_
    refine rf_getR (n := 13) rr_57_5 kk_61 hG dX9_named_10 flX9_20 ki_9_5 sS_57 kk_57 rfl ?_
    refine rf_iconst (n := 14) (0 : Int32) dX9_named_13 cciconst_0 rfl ?_
    refine rf_aload_n (n := 15) 0 dX9_named_14 rfl rfl rfl ?_
    refine rf_cV0I (n := 18) hG (okX9_phases _) lVX9_230 hhX9_phases kk_57 sS_57 ⟨_, rfl, rfl⟩ dX9_named_15 rfl (Nat.le_of_ble_eq_true rfl) (Nat.le_of_ble_eq_true rfl) (fun v7 m8 => ?_)
    refine rf_iload_n (n := 19) 2 dX9_named_18 rfl rfl rfl ?_
    refine rf_cS4I (n := 22) hG (okX9_foundIn_1 _ _ _ _) lSX9_177 hhX9_foundIn dX9_named_19 rfl (Nat.le_of_ble_eq_true rfl) (Nat.le_of_ble_eq_true rfl) (fun v9 m10 => ?_)
    refine rf_goto (tg := 47) dX9_named_22 rfl ?_
    refine rf_mask (lc2 := [none, none, none]) [false, false, false] rfl ?_
    exact pX9_named_K47 hG _ _
def fX1_writeTo (p2 : Int32) (μ : ax_M) : Option (Unit × ax_M) :=
  (Option.bind (ax_wr μ 30 1180 p2 (μ.1 2 16)) (fun m1 => (Option.bind (ax_wr m1 30 1180 (p2 + (1 : Int32)) (m1.1 2 17)) (fun m2 => (Option.bind (ax_wr m2 30 1180 (p2 + (2 : Int32)) (m2.1 2 15)) (fun m3 => (ax_let (p2 + (3 : Int32)) (fun v4 => (Option.bind (ax_cp m3 4 4 (0 : Int32) 30 1180 v4 (4 : Int32)) (fun m5 => (Option.bind (ax_cp m5 5 4 (0 : Int32) 30 1180 (v4 + (4 : Int32)) (4 : Int32)) (fun m6 => (Option.bind (ax_cp m6 13 24 (0 : Int32) 30 1180 (v4 + (8 : Int32)) (24 : Int32)) (fun m7 => (Option.bind (ax_cp m7 14 24 (0 : Int32) 30 1180 ((v4 + (8 : Int32)) + (24 : Int32)) (24 : Int32)) (fun m8 => (some ((), m8))))))))))))))))))
theorem okX1_writeTo (p2 : Int32) (μ : ax_M) : ax_Ok mX1_writeTo 1 ax_jV [.ref 2, .ref 30, .int p2] μ (fX1_writeTo p2 μ) := by
  refine ax_start (lc := [some (.ref 2), some (.ref 30), some (.int p2), none]) 1 (by decide +kernel) rfl (Nat.le_of_ble_eq_true rfl) (fun x G hG => ?_)
  unfold fX1_writeTo
  refine rf_aload_n (n := 1) 1 dX1_writeTo_0 rfl rfl rfl ?_
  refine rf_iload_n (n := 2) 2 dX1_writeTo_1 rfl rfl rfl ?_
  refine rf_aload_n (n := 3) 0 dX1_writeTo_2 rfl rfl rfl ?_
  refine rf_getI (n := 6) hG dX1_writeTo_3 flX1_48 ki_1_16 sS_2 kk_2 rfl ?_
  refine rf_iast (n := 7) hG dX1_writeTo_6 sS_30 kk_30 rfl (fun m1 => ?_)
  refine rf_aload_n (n := 8) 1 dX1_writeTo_7 rfl rfl rfl ?_
  refine rf_iload_n (n := 9) 2 dX1_writeTo_8 rfl rfl rfl ?_
  refine rf_iconst (n := 10) (1 : Int32) dX1_writeTo_9 cciconst_1 rfl ?_
  refine rf_iadd (n := 11) dX1_writeTo_10 rfl ?_
  refine rf_aload_n (n := 12) 0 dX1_writeTo_11 rfl rfl rfl ?_
  refine rf_getI (n := 15) hG dX1_writeTo_12 flX1_64 ki_1_17 sS_2 kk_2 rfl ?_
  refine rf_iast (n := 16) hG dX1_writeTo_15 sS_30 kk_30 rfl (fun m2 => ?_)
  refine rf_aload_n (n := 17) 1 dX1_writeTo_16 rfl rfl rfl ?_
  refine rf_iload_n (n := 18) 2 dX1_writeTo_17 rfl rfl rfl ?_
  refine rf_iconst (n := 19) (2 : Int32) dX1_writeTo_18 cciconst_2 rfl ?_
  refine rf_iadd (n := 20) dX1_writeTo_19 rfl ?_
  refine rf_aload_n (n := 21) 0 dX1_writeTo_20 rfl rfl rfl ?_
  refine rf_getI (n := 24) hG dX1_writeTo_21 flX1_61 ki_1_15 sS_2 kk_2 rfl ?_
  refine rf_iast (n := 25) hG dX1_writeTo_24 sS_30 kk_30 rfl (fun m3 => ?_)
  refine rf_iload_n (n := 26) 2 dX1_writeTo_25 rfl rfl rfl ?_
  refine rf_iconst (n := 27) (3 : Int32) dX1_writeTo_26 cciconst_3 rfl ?_
  refine rf_iadd (n := 28) dX1_writeTo_27 rfl ?_
  refine rf_letI (fun v4 => ?_)
  refine rf_istore_n (lc2 := [some (.ref 2), some (.ref 30), some (.int p2), some (.int v4)]) (n := 29) 3 dX1_writeTo_28 rfl rfl (Nat.le_of_ble_eq_true rfl) rfl rfl ?_
  refine rf_aload_n (n := 30) 0 dX1_writeTo_29 rfl rfl rfl ?_
  refine rf_getR (n := 33) rr_2_1 kk_4 hG dX1_writeTo_30 flX1_15 ki_1_1 sS_2 kk_2 rfl ?_
  refine rf_iconst (n := 34) (0 : Int32) dX1_writeTo_33 cciconst_0 rfl ?_
  refine rf_aload_n (n := 35) 1 dX1_writeTo_34 rfl rfl rfl ?_
  refine rf_iload_n (n := 36) 3 dX1_writeTo_35 rfl rfl rfl ?_
  refine rf_iconst (n := 37) (4 : Int32) dX1_writeTo_36 cciconst_4 rfl ?_
  refine rf_copy (n := 40) hG dX1_writeTo_37 cpX1_70 ax_cpw (Nat.le_of_ble_eq_true rfl) (Nat.le_of_ble_eq_true rfl) sS_4 sS_30 kk_4 kk_30 rfl (fun m5 => ?_)
  refine rf_aload_n (n := 41) 0 dX1_writeTo_40 rfl rfl rfl ?_
  refine rf_getR (n := 44) rr_2_2 kk_5 hG dX1_writeTo_41 flX1_18 ki_1_2 sS_2 kk_2 rfl ?_
  refine rf_iconst (n := 45) (0 : Int32) dX1_writeTo_44 cciconst_0 rfl ?_
  refine rf_aload_n (n := 46) 1 dX1_writeTo_45 rfl rfl rfl ?_
  refine rf_iload_n (n := 47) 3 dX1_writeTo_46 rfl rfl rfl ?_
  refine rf_iconst (n := 48) (4 : Int32) dX1_writeTo_47 cciconst_4 rfl ?_
  refine rf_iadd (n := 49) dX1_writeTo_48 rfl ?_
  refine rf_iconst (n := 50) (4 : Int32) dX1_writeTo_49 cciconst_4 rfl ?_
  refine rf_copy (n := 53) hG dX1_writeTo_50 cpX1_70 ax_cpw (Nat.le_of_ble_eq_true rfl) (Nat.le_of_ble_eq_true rfl) sS_5 sS_30 kk_5 kk_30 rfl (fun m6 => ?_)
  refine rf_iinc (lc2 := [some (.ref 2), some (.ref 30), some (.int p2), some (.int (v4 + (8 : Int32)))]) (n := 56) (w := (8 : Int32)) 3 dX1_writeTo_53 rfl rfl rfl (Nat.le_of_ble_eq_true rfl) rfl rfl ?_
  refine rf_aload_n (n := 57) 0 dX1_writeTo_56 rfl rfl rfl ?_
  refine rf_getR (n := 60) rr_2_10 kk_13 hG dX1_writeTo_57 flX1_42 ki_1_10 sS_2 kk_2 rfl ?_
  refine rf_iconst (n := 61) (0 : Int32) dX1_writeTo_60 cciconst_0 rfl ?_
  refine rf_aload_n (n := 62) 1 dX1_writeTo_61 rfl rfl rfl ?_
  refine rf_iload_n (n := 63) 3 dX1_writeTo_62 rfl rfl rfl ?_
  refine rf_bipush (n := 65) (24 : Int32) dX1_writeTo_63 ccbipush_24 rfl ?_
  refine rf_copy (n := 68) hG dX1_writeTo_65 cpX1_70 ax_cpw (Nat.le_of_ble_eq_true rfl) (Nat.le_of_ble_eq_true rfl) sS_13 sS_30 kk_13 kk_30 rfl (fun m7 => ?_)
  refine rf_aload_n (n := 69) 0 dX1_writeTo_68 rfl rfl rfl ?_
  refine rf_getR (n := 72) rr_2_11 kk_14 hG dX1_writeTo_69 flX1_45 ki_1_11 sS_2 kk_2 rfl ?_
  refine rf_iconst (n := 73) (0 : Int32) dX1_writeTo_72 cciconst_0 rfl ?_
  refine rf_aload_n (n := 74) 1 dX1_writeTo_73 rfl rfl rfl ?_
  refine rf_iload_n (n := 75) 3 dX1_writeTo_74 rfl rfl rfl ?_
  refine rf_bipush (n := 77) (24 : Int32) dX1_writeTo_75 ccbipush_24 rfl ?_
  refine rf_iadd (n := 78) dX1_writeTo_77 rfl ?_
  refine rf_bipush (n := 80) (24 : Int32) dX1_writeTo_78 ccbipush_24 rfl ?_
  refine rf_copy (n := 83) hG dX1_writeTo_80 cpX1_70 ax_cpw (Nat.le_of_ble_eq_true rfl) (Nat.le_of_ble_eq_true rfl) sS_14 sS_30 kk_14 kk_30 rfl (fun m8 => ?_)
  exact rf_retV rfl dX1_writeTo_83
def fX2_push (μ : ax_M) : Option (Unit × ax_M) :=
  (ax_bd (fX1_writeTo ((μ.1 29 2) * (59 : Int32)) μ) (fun _ m2 => (Option.bind (ax_rm ((m2.1 29 2) + (1 : Int32)) (20 : Int32)) (fun v3 => (ax_let (ax_wi m2 29 2 v3) (fun m4 => (ax_let (ax_wi m4 29 3 (ax_mn ((m4.1 29 3) + (1 : Int32)) (20 : Int32))) (fun m5 => (some ((), m5))))))))))
theorem okX2_push (μ : ax_M) : ax_Ok mX2_push 2 ax_jV [.ref 29, .ref 2] μ (fX2_push μ) := by
  refine ax_start (lc := [some (.ref 29), some (.ref 2)]) 0 (by decide +kernel) rfl (Nat.le_of_ble_eq_true rfl) (fun x G hG => ?_)
  unfold fX2_push
  refine rf_aload_n (n := 1) 1 dX2_push_0 rfl rfl rfl ?_
  refine rf_aload_n (n := 2) 0 dX2_push_1 rfl rfl rfl ?_
  refine rf_getR (n := 5) rr_29_0 kk_30 hG dX2_push_2 flX2_11 ki_2_0 sS_29 kk_29 rfl ?_
  refine rf_aload_n (n := 6) 0 dX2_push_5 rfl rfl rfl ?_
  refine rf_getI (n := 9) hG dX2_push_6 flX2_18 ki_2_2 sS_29 kk_29 rfl ?_
  refine rf_bipush (n := 11) (59 : Int32) dX2_push_9 ccbipush_59 rfl ?_
  refine rf_imul (n := 12) dX2_push_11 rfl ?_
  refine rf_cV2V (n := 15) hG (okX1_writeTo _ _) lVX2_22 hhX1_writeTo kk_2 sS_2 ⟨_, rfl, rfl⟩ dX2_push_12 rfl (Nat.le_of_ble_eq_true rfl) (Nat.le_of_ble_eq_true rfl) (fun _ m2 => ?_)
  refine rf_aload_n (n := 16) 0 dX2_push_15 rfl rfl rfl ?_
  refine rf_aload_n (n := 17) 0 dX2_push_16 rfl rfl rfl ?_
  refine rf_getI (n := 20) hG dX2_push_17 flX2_18 ki_2_2 sS_29 kk_29 rfl ?_
  refine rf_iconst (n := 21) (1 : Int32) dX2_push_20 cciconst_1 rfl ?_
  refine rf_iadd (n := 22) dX2_push_21 rfl ?_
  refine rf_bipush (n := 24) (20 : Int32) dX2_push_22 ccbipush_20 rfl ?_
  refine rf_irem (n := 25) dX2_push_24 rfl (fun v3 => ?_)
  refine rf_pfI (n := 28) hG rfl dX2_push_25 flX2_18 ki_2_2 nf_2_2 sS_29 kk_29 rfl (fun m4 => ?_)
  refine rf_aload_n (n := 29) 0 dX2_push_28 rfl rfl rfl ?_
  refine rf_aload_n (n := 30) 0 dX2_push_29 rfl rfl rfl ?_
  refine rf_getI (n := 33) hG dX2_push_30 flX2_26 ki_2_3 sS_29 kk_29 rfl ?_
  refine rf_iconst (n := 34) (1 : Int32) dX2_push_33 cciconst_1 rfl ?_
  refine rf_iadd (n := 35) dX2_push_34 rfl ?_
  refine rf_bipush (n := 37) (20 : Int32) dX2_push_35 ccbipush_20 rfl ?_
  refine rf_min (n := 40) dX2_push_37 mxX2_29 ax_minw (Nat.le_of_ble_eq_true rfl) (Nat.le_of_ble_eq_true rfl) rfl ?_
  refine rf_pfI (n := 43) hG rfl dX2_push_40 flX2_26 ki_2_3 nf_2_3 sS_29 kk_29 rfl (fun m5 => ?_)
  exact rf_retV rfl dX2_push_43
def fX8_beginChange (μ : ax_M) : Option (Unit × ax_M) :=
  (ax_bd (fX2_push μ) (fun _ m2 => (ax_bd (fX8_forgetAnswers m2) (fun _ m4 => (some ((), m4))))))
theorem okX8_beginChange (μ : ax_M) : ax_Ok mX8_beginChange 3 ax_jV [.ref 0] μ (fX8_beginChange μ) := by
  refine ax_start (lc := [some (.ref 0)]) 0 (by decide +kernel) rfl (Nat.le_of_ble_eq_true rfl) (fun x G hG => ?_)
  unfold fX8_beginChange
  refine rf_aload_n (n := 1) 0 dX8_beginChange_0 rfl rfl rfl ?_
  refine rf_getR (n := 4) rr_0_4 kk_29 hG dX8_beginChange_1 flX8_32 ki_8_4 sS_0 kk_0 rfl ?_
  refine rf_aload_n (n := 5) 0 dX8_beginChange_4 rfl rfl rfl ?_
  refine rf_getR (n := 8) rr_0_2 kk_2 hG dX8_beginChange_5 flX8_16 ki_8_2 sS_0 kk_0 rfl ?_
  refine rf_cV1V (n := 11) hG (okX2_push _) lVX8_125 hhX2_push kk_29 sS_29 ⟨_, rfl, rfl⟩ dX8_beginChange_8 rfl (Nat.le_of_ble_eq_true rfl) (Nat.le_of_ble_eq_true rfl) (fun _ m2 => ?_)
  refine rf_aload_n (n := 12) 0 dX8_beginChange_11 rfl rfl rfl ?_
  refine rf_cV0V (n := 15) hG (okX8_forgetAnswers _) lVX8_93 hhX8_forgetAnswers kk_0 sS_0 ⟨_, rfl, rfl⟩ dX8_beginChange_12 rfl (Nat.le_of_ble_eq_true rfl) (Nat.le_of_ble_eq_true rfl) (fun _ m4 => ?_)
  exact rf_retV rfl dX8_beginChange_15
def fX8_period_K12 (μ : ax_M) : Option (Int32 × ax_M) :=
  (some ((-1 : Int32), μ))
theorem pX8_period_K12 {x : ax_X} {G : ax_G} (hG : ax_ok G) (μ : ax_M) : ax_Rf mX8_period 4 x (ax_Z ax_jI x G) G 0 0 12 [none, none, none] [] μ (fX8_period_K12 μ) := by
  unfold fX8_period_K12
  refine rf_iconst (n := 13) (-1 : Int32) dX8_period_12 cciconst_m1 rfl ?_
  exact rf_retI rfl dX8_period_13
def fX8_period (p1 : Int32) (μ : ax_M) : Option (Int32 × ax_M) :=
  (if p1 < (1 : Int32) then (fX8_period_K12 μ) else (if p1 ≤ (9999 : Int32) then (ax_let (μ.1 2 16) (fun v1 => (ax_bd (fX8_beginChange μ) (fun _ m3 => (ax_let (ax_wi m3 2 16 p1) (fun m4 => (some (v1, m4)))))))) else (fX8_period_K12 μ)))
theorem okX8_period (p1 : Int32) (μ : ax_M) : ax_Ok mX8_period 4 ax_jI [.ref 0, .int p1] μ (fX8_period p1 μ) := by
  refine ax_start (lc := [some (.ref 0), some (.int p1), none]) 1 (by decide +kernel) rfl (Nat.le_of_ble_eq_true rfl) (fun x G hG => ?_)
  unfold fX8_period
  refine rf_iload_n (n := 1) 1 dX8_period_0 rfl rfl rfl ?_
  refine rf_iconst (n := 2) (1 : Int32) dX8_period_1 cciconst_1 rfl ?_
  refine rf_icmp_lt (tg := 12) (n := 5) dX8_period_2 rfl rfl (fun c6 => ?_) (fun c6 => ?_)
  · refine rf_mask (lc2 := [none, none, none]) [false, false, true] rfl ?_
    exact pX8_period_K12 hG _
  · refine rf_iload_n (n := 6) 1 dX8_period_5 rfl rfl rfl ?_
    refine rf_sipush (n := 9) (9999 : Int32) dX8_period_6 ccsipush_9999 rfl ?_
    refine rf_icmp_le (tg := 14) (n := 12) dX8_period_9 rfl rfl (fun c5 => ?_) (fun c5 => ?_)
    · refine rf_aload_n (n := 15) 0 dX8_period_14 rfl rfl rfl ?_
      refine rf_getR (n := 18) rr_0_2 kk_2 hG dX8_period_15 flX8_16 ki_8_2 sS_0 kk_0 rfl ?_
      refine rf_getI (n := 21) hG dX8_period_18 flX8_128 ki_1_16 sS_2 kk_2 rfl ?_
      refine rf_letI (fun v1 => ?_)
      refine rf_istore_n (lc2 := [some (.ref 0), some (.int p1), some (.int v1)]) (n := 22) 2 dX8_period_21 rfl rfl (Nat.le_of_ble_eq_true rfl) rfl rfl ?_
      refine rf_aload_n (n := 23) 0 dX8_period_22 rfl rfl rfl ?_
      refine rf_cV0V (n := 26) hG (okX8_beginChange _) lVX8_131 hhX8_beginChange kk_0 sS_0 ⟨_, rfl, rfl⟩ dX8_period_23 rfl (Nat.le_of_ble_eq_true rfl) (Nat.le_of_ble_eq_true rfl) (fun _ m3 => ?_)
      refine rf_aload_n (n := 27) 0 dX8_period_26 rfl rfl rfl ?_
      refine rf_getR (n := 30) rr_0_2 kk_2 hG dX8_period_27 flX8_16 ki_8_2 sS_0 kk_0 rfl ?_
      refine rf_iload_n (n := 31) 1 dX8_period_30 rfl rfl rfl ?_
      refine rf_pfI (n := 34) hG rfl dX8_period_31 flX8_128 ki_1_16 nf_1_16 sS_2 kk_2 rfl (fun m4 => ?_)
      refine rf_iload_n (n := 35) 2 dX8_period_34 rfl rfl rfl ?_
      exact rf_retI rfl dX8_period_35
    · refine rf_mask (lc2 := [none, none, none]) [false, false, true] rfl ?_
      exact pX8_period_K12 hG _
def fX9_lays_B2 (l1 : Int32) (r2 : Int32 → ax_M → Option (Unit × ax_M)) (l2 : Int32) (μ : ax_M) : Option (Unit × ax_M) :=
  (if (68 : Int32) ≤ l2 then (some ((), μ)) else (Option.bind (ax_rd μ 74 68 l2) (fun v1 => (Option.bind (ax_wr μ 75 1428 (((68 : Int32) * l1) + l2) v1) (fun m2 => (r2 (l2 + (1 : Int32)) m2))))))
theorem pX9_lays_B2 {x : ax_X} {G : ax_G} (hG : ax_ok G) (l1 : Int32) (r2 : Int32 → ax_M → Option (Unit × ax_M)) (hr2 : ∀ (a2 : Int32) (μ : ax_M), ax_Rf mX9_lays 0 x (ax_Z ax_jV x G) G 0 0 2 [some (.ref 57), some (.int l1), some (.int a2)] [] μ (r2 a2 μ)) (l2 : Int32) (μ : ax_M) : ax_Rf mX9_lays 0 x (ax_Z ax_jV x G) G 0 0 2 [some (.ref 57), some (.int l1), some (.int l2)] [] μ (fX9_lays_B2 l1 r2 l2 μ) := by
  unfold fX9_lays_B2
  refine rf_iload_n (n := 3) 2 dX9_lays_2 rfl rfl rfl ?_
  refine rf_bipush (n := 5) (68 : Int32) dX9_lays_3 ccbipush_68 rfl ?_
  refine rf_icmp_ge (tg := 31) (n := 8) dX9_lays_5 rfl rfl (fun c3 => ?_) (fun c3 => ?_)
  · exact rf_retV rfl dX9_lays_31
  · refine rf_aload_n (n := 9) 0 dX9_lays_8 rfl rfl rfl ?_
    refine rf_getR (n := 12) rr_57_29 kk_75 hG dX9_lays_9 flX9_66 ki_9_29 sS_57 kk_57 rfl ?_
    refine rf_bipush (n := 14) (68 : Int32) dX9_lays_12 ccbipush_68 rfl ?_
    refine rf_iload_n (n := 15) 1 dX9_lays_14 rfl rfl rfl ?_
    refine rf_imul (n := 16) dX9_lays_15 rfl ?_
    refine rf_iload_n (n := 17) 2 dX9_lays_16 rfl rfl rfl ?_
    refine rf_iadd (n := 18) dX9_lays_17 rfl ?_
    refine rf_aload_n (n := 19) 0 dX9_lays_18 rfl rfl rfl ?_
    refine rf_getR (n := 22) rr_57_28 kk_74 hG dX9_lays_19 flX9_63 ki_9_28 sS_57 kk_57 rfl ?_
    refine rf_iload_n (n := 23) 2 dX9_lays_22 rfl rfl rfl ?_
    refine rf_iald (n := 24) hG dX9_lays_23 sS_74 kk_74 rfl (fun v1 => ?_)
    refine rf_iast (n := 25) hG dX9_lays_24 sS_75 kk_75 rfl (fun m2 => ?_)
    refine rf_iinc (lc2 := [some (.ref 57), some (.int l1), some (.int (l2 + (1 : Int32)))]) (n := 28) (w := (1 : Int32)) 2 dX9_lays_25 rfl rfl rfl (Nat.le_of_ble_eq_true rfl) rfl rfl ?_
    refine rf_goto (tg := 2) dX9_lays_28 rfl ?_
    exact hr2 _ _
theorem pX9_lays_L2 {x : ax_X} {G : ax_G} (hG : ax_ok G) (l1 : Int32) (n : Nat) (a2 : Int32) (μ : ax_M) : ax_Rf mX9_lays 0 x (ax_Z ax_jV x G) G 0 0 2 [some (.ref 57), some (.int l1), some (.int a2)] [] μ (ax_lp1 (fX9_lays_B2 l1) n a2 μ) :=
  rf_lp1 (P := fun a2 μ t => ax_Rf mX9_lays 0 x (ax_Z ax_jV x G) G 0 0 2 [some (.ref 57), some (.int l1), some (.int a2)] [] μ t) (fun _ _ => rf_none) (fun rc hrc a2 μ => pX9_lays_B2 hG l1 rc hrc a2 μ) n a2 μ
def fX9_lays (p1 : Int32) (μ : ax_M) : Option (Unit × ax_M) :=
  (ax_lp1 (fX9_lays_B2 p1) ax_FU (0 : Int32) μ)
theorem okX9_lays (p1 : Int32) (μ : ax_M) : ax_Ok mX9_lays 0 ax_jV [.ref 57, .int p1] μ (fX9_lays p1 μ) := by
  refine ax_start (lc := [some (.ref 57), some (.int p1), none]) 1 (by decide +kernel) rfl (Nat.le_of_ble_eq_true rfl) (fun x G hG => ?_)
  unfold fX9_lays
  refine rf_iconst (n := 1) (0 : Int32) dX9_lays_0 cciconst_0 rfl ?_
  refine rf_istore_n (lc2 := [some (.ref 57), some (.int p1), some (.int (0 : Int32))]) (n := 2) 2 dX9_lays_1 rfl rfl (Nat.le_of_ble_eq_true rfl) rfl rfl ?_
  exact pX9_lays_L2 hG _ _ _ _
def fX9_remembers_K49 (μ : ax_M) : Option (Unit × ax_M) :=
  (ax_bd (fX9_lays (μ.1 57 30) μ) (fun _ m2 => (ax_let (ax_wi m2 57 30 ((m2.1 57 30) + (1 : Int32))) (fun m3 => (some ((), m3))))))
theorem pX9_remembers_K49 {x : ax_X} {G : ax_G} (hG : ax_ok G) (μ : ax_M) : ax_Rf mX9_remembers 1 x (ax_Z ax_jV x G) G 0 0 49 [some (.ref 57), none] [] μ (fX9_remembers_K49 μ) := by
  unfold fX9_remembers_K49
  refine rf_aload_n (n := 50) 0 dX9_remembers_49 rfl rfl rfl ?_
  refine rf_aload_n (n := 51) 0 dX9_remembers_50 rfl rfl rfl ?_
  refine rf_getI (n := 54) hG dX9_remembers_51 flX9_223 ki_9_30 sS_57 kk_57 rfl ?_
  refine rf_cV1V (n := 57) hG (okX9_lays _ _) lVX9_239 hhX9_lays kk_57 sS_57 ⟨_, rfl, rfl⟩ dX9_remembers_54 rfl (Nat.le_of_ble_eq_true rfl) (Nat.le_of_ble_eq_true rfl) (fun _ m2 => ?_)
  refine rf_aload_n (n := 58) 0 dX9_remembers_57 rfl rfl rfl ?_
  refine rf_dupR (n := 59) dX9_remembers_58 rfl ?_
  refine rf_getI (n := 62) hG dX9_remembers_59 flX9_223 ki_9_30 sS_57 kk_57 rfl ?_
  refine rf_iconst (n := 63) (1 : Int32) dX9_remembers_62 cciconst_1 rfl ?_
  refine rf_iadd (n := 64) dX9_remembers_63 rfl ?_
  refine rf_pfI (n := 67) hG rfl dX9_remembers_64 flX9_223 ki_9_30 nf_9_30 sS_57 kk_57 rfl (fun m3 => ?_)
  exact rf_retV rfl dX9_remembers_67
def fX9_remembers_B11 (r11 : Int32 → ax_M → Option (Unit × ax_M)) (l1 : Int32) (μ : ax_M) : Option (Unit × ax_M) :=
  (if (1292 : Int32) ≤ l1 then (ax_let (ax_wi μ 57 30 ((μ.1 57 30) - (1 : Int32))) (fun m4 => (fX9_remembers_K49 m4))) else (Option.bind (ax_rd μ 75 1428 ((68 : Int32) + l1)) (fun v5 => (Option.bind (ax_wr μ 75 1428 l1 v5) (fun m6 => (r11 (l1 + (1 : Int32)) m6))))))
theorem pX9_remembers_B11 {x : ax_X} {G : ax_G} (hG : ax_ok G) (r11 : Int32 → ax_M → Option (Unit × ax_M)) (hr11 : ∀ (a1 : Int32) (μ : ax_M), ax_Rf mX9_remembers 1 x (ax_Z ax_jV x G) G 0 0 11 [some (.ref 57), some (.int a1)] [] μ (r11 a1 μ)) (l1 : Int32) (μ : ax_M) : ax_Rf mX9_remembers 1 x (ax_Z ax_jV x G) G 0 0 11 [some (.ref 57), some (.int l1)] [] μ (fX9_remembers_B11 r11 l1 μ) := by
  unfold fX9_remembers_B11
  refine rf_iload_n (n := 12) 1 dX9_remembers_11 rfl rfl rfl ?_
  refine rf_sipush (n := 15) (1292 : Int32) dX9_remembers_12 ccsipush_1292 rfl ?_
  refine rf_icmp_ge (tg := 39) (n := 18) dX9_remembers_15 rfl rfl (fun c7 => ?_) (fun c7 => ?_)
  · refine rf_aload_n (n := 40) 0 dX9_remembers_39 rfl rfl rfl ?_
    refine rf_dupR (n := 41) dX9_remembers_40 rfl ?_
    refine rf_getI (n := 44) hG dX9_remembers_41 flX9_223 ki_9_30 sS_57 kk_57 rfl ?_
    refine rf_iconst (n := 45) (1 : Int32) dX9_remembers_44 cciconst_1 rfl ?_
    refine rf_isub (n := 46) dX9_remembers_45 rfl ?_
    refine rf_pfI (n := 49) hG rfl dX9_remembers_46 flX9_223 ki_9_30 nf_9_30 sS_57 kk_57 rfl (fun m4 => ?_)
    refine rf_mask (lc2 := [some (.ref 57), none]) [true, false] rfl ?_
    exact pX9_remembers_K49 hG _
  · refine rf_aload_n (n := 19) 0 dX9_remembers_18 rfl rfl rfl ?_
    refine rf_getR (n := 22) rr_57_29 kk_75 hG dX9_remembers_19 flX9_66 ki_9_29 sS_57 kk_57 rfl ?_
    refine rf_iload_n (n := 23) 1 dX9_remembers_22 rfl rfl rfl ?_
    refine rf_aload_n (n := 24) 0 dX9_remembers_23 rfl rfl rfl ?_
    refine rf_getR (n := 27) rr_57_29 kk_75 hG dX9_remembers_24 flX9_66 ki_9_29 sS_57 kk_57 rfl ?_
    refine rf_bipush (n := 29) (68 : Int32) dX9_remembers_27 ccbipush_68 rfl ?_
    refine rf_iload_n (n := 30) 1 dX9_remembers_29 rfl rfl rfl ?_
    refine rf_iadd (n := 31) dX9_remembers_30 rfl ?_
    refine rf_iald (n := 32) hG dX9_remembers_31 sS_75 kk_75 rfl (fun v5 => ?_)
    refine rf_iast (n := 33) hG dX9_remembers_32 sS_75 kk_75 rfl (fun m6 => ?_)
    refine rf_iinc (lc2 := [some (.ref 57), some (.int (l1 + (1 : Int32)))]) (n := 36) (w := (1 : Int32)) 1 dX9_remembers_33 rfl rfl rfl (Nat.le_of_ble_eq_true rfl) rfl rfl ?_
    refine rf_goto (tg := 11) dX9_remembers_36 rfl ?_
    exact hr11 _ _
theorem pX9_remembers_L11 {x : ax_X} {G : ax_G} (hG : ax_ok G) (n : Nat) (a1 : Int32) (μ : ax_M) : ax_Rf mX9_remembers 1 x (ax_Z ax_jV x G) G 0 0 11 [some (.ref 57), some (.int a1)] [] μ (ax_lp1 (fX9_remembers_B11) n a1 μ) :=
  rf_lp1 (P := fun a1 μ t => ax_Rf mX9_remembers 1 x (ax_Z ax_jV x G) G 0 0 11 [some (.ref 57), some (.int a1)] [] μ t) (fun _ _ => rf_none) (fun rc hrc a1 μ => pX9_remembers_B11 hG rc hrc a1 μ) n a1 μ
def fX9_remembers (μ : ax_M) : Option (Unit × ax_M) :=
  (if (μ.1 57 30) = (20 : Int32) then (ax_lp1 (fX9_remembers_B11) ax_FU (0 : Int32) μ) else (fX9_remembers_K49 μ))
theorem okX9_remembers (μ : ax_M) : ax_Ok mX9_remembers 1 ax_jV [.ref 57] μ (fX9_remembers μ) := by
  refine ax_start (lc := [some (.ref 57), none]) 1 (by decide +kernel) rfl (Nat.le_of_ble_eq_true rfl) (fun x G hG => ?_)
  unfold fX9_remembers
  refine rf_aload_n (n := 1) 0 dX9_remembers_0 rfl rfl rfl ?_
  refine rf_getI (n := 4) hG dX9_remembers_1 flX9_223 ki_9_30 sS_57 kk_57 rfl ?_
  refine rf_bipush (n := 6) (20 : Int32) dX9_remembers_4 ccbipush_20 rfl ?_
  refine rf_icmp_ne (tg := 49) (n := 9) dX9_remembers_6 rfl rfl (fun c8 => ?_) (fun c8 => ?_)
  · exact pX9_remembers_K49 hG _
  · refine rf_iconst (n := 10) (0 : Int32) dX9_remembers_9 cciconst_0 rfl ?_
    refine rf_istore_n (lc2 := [some (.ref 57), some (.int (0 : Int32))]) (n := 11) 1 dX9_remembers_10 rfl rfl (Nat.le_of_ble_eq_true rfl) rfl rfl ?_
    exact pX9_remembers_L11 hG _ _ _
def fX9_period_K17 (μ : ax_M) : Option (Int32 × ax_M) :=
  (some ((-1 : Int32), μ))
theorem pX9_period_K17 {x : ax_X} {G : ax_G} (hG : ax_ok G) (μ : ax_M) : ax_Rf mX9_period 2 x (ax_Z ax_jI x G) G 0 0 17 [none, none, none] [] μ (fX9_period_K17 μ) := by
  unfold fX9_period_K17
  refine rf_iconst (n := 18) (-1 : Int32) dX9_period_17 cciconst_m1 rfl ?_
  exact rf_retI rfl dX9_period_18
def fX9_period (p1 : Int32) (μ : ax_M) : Option (Int32 × ax_M) :=
  (ax_let (ax_wi μ 57 0 (0 : Int32)) (fun m1 => (if p1 < (1 : Int32) then (fX9_period_K17 m1) else (if p1 ≤ (9999 : Int32) then (Option.bind (ax_rd m1 74 68 (0 : Int32)) (fun v2 => (ax_bd (fX9_remembers m1) (fun _ m4 => (Option.bind (ax_wr m4 74 68 (0 : Int32) p1) (fun m5 => (some (v2, m5)))))))) else (fX9_period_K17 m1)))))
theorem okX9_period (p1 : Int32) (μ : ax_M) : ax_Ok mX9_period 2 ax_jI [.ref 57, .int p1] μ (fX9_period p1 μ) := by
  refine ax_start (lc := [some (.ref 57), some (.int p1), none]) 1 (by decide +kernel) rfl (Nat.le_of_ble_eq_true rfl) (fun x G hG => ?_)
  unfold fX9_period
  refine rf_aload_n (n := 1) 0 dX9_period_0 rfl rfl rfl ?_
  refine rf_iconst (n := 2) (0 : Int32) dX9_period_1 cciconst_0 rfl ?_
  refine rf_pfI (n := 5) hG rfl dX9_period_2 flX9_103 ki_9_0 nf_9_0 sS_57 kk_57 rfl (fun m1 => ?_)
  refine rf_iload_n (n := 6) 1 dX9_period_5 rfl rfl rfl ?_
  refine rf_iconst (n := 7) (1 : Int32) dX9_period_6 cciconst_1 rfl ?_
  refine rf_icmp_lt (tg := 17) (n := 10) dX9_period_7 rfl rfl (fun c7 => ?_) (fun c7 => ?_)
  · refine rf_mask (lc2 := [none, none, none]) [false, false, true] rfl ?_
    exact pX9_period_K17 hG _
  · refine rf_iload_n (n := 11) 1 dX9_period_10 rfl rfl rfl ?_
    refine rf_sipush (n := 14) (9999 : Int32) dX9_period_11 ccsipush_9999 rfl ?_
    refine rf_icmp_le (tg := 19) (n := 17) dX9_period_14 rfl rfl (fun c6 => ?_) (fun c6 => ?_)
    · refine rf_aload_n (n := 20) 0 dX9_period_19 rfl rfl rfl ?_
      refine rf_getR (n := 23) rr_57_28 kk_74 hG dX9_period_20 flX9_63 ki_9_28 sS_57 kk_57 rfl ?_
      refine rf_iconst (n := 24) (0 : Int32) dX9_period_23 cciconst_0 rfl ?_
      refine rf_iald (n := 25) hG dX9_period_24 sS_74 kk_74 rfl (fun v2 => ?_)
      refine rf_istore_n (lc2 := [some (.ref 57), some (.int p1), some (.int v2)]) (n := 26) 2 dX9_period_25 rfl rfl (Nat.le_of_ble_eq_true rfl) rfl rfl ?_
      refine rf_aload_n (n := 27) 0 dX9_period_26 rfl rfl rfl ?_
      refine rf_cV0V (n := 30) hG (okX9_remembers _) lVX9_245 hhX9_remembers kk_57 sS_57 ⟨_, rfl, rfl⟩ dX9_period_27 rfl (Nat.le_of_ble_eq_true rfl) (Nat.le_of_ble_eq_true rfl) (fun _ m4 => ?_)
      refine rf_aload_n (n := 31) 0 dX9_period_30 rfl rfl rfl ?_
      refine rf_getR (n := 34) rr_57_28 kk_74 hG dX9_period_31 flX9_63 ki_9_28 sS_57 kk_57 rfl ?_
      refine rf_iconst (n := 35) (0 : Int32) dX9_period_34 cciconst_0 rfl ?_
      refine rf_iload_n (n := 36) 1 dX9_period_35 rfl rfl rfl ?_
      refine rf_iast (n := 37) hG dX9_period_36 sS_74 kk_74 rfl (fun m5 => ?_)
      refine rf_iload_n (n := 38) 2 dX9_period_37 rfl rfl rfl ?_
      exact rf_retI rfl dX9_period_38
    · refine rf_mask (lc2 := [none, none, none]) [false, false, true] rfl ?_
      exact pX9_period_K17 hG _
def fX1_hasPhase_K17 (s0 : Int32) (μ : ax_M) : Option (Int32 × ax_M) :=
  (some (vp_nar .boolean s0, μ))
theorem pX1_hasPhase_K17 {x : ax_X} {G : ax_G} (hG : ax_ok G) (s0 : Int32) (μ : ax_M) : ax_Rf mX1_hasPhase 0 x (ax_Z ax_jI x G) G 0 0 17 [none, none] [.int s0] μ (fX1_hasPhase_K17 s0 μ) := by
  unfold fX1_hasPhase_K17
  exact rf_retZ rfl dX1_hasPhase_17
def fX1_hasPhase_K16 (μ : ax_M) : Option (Int32 × ax_M) :=
  (fX1_hasPhase_K17 (0 : Int32) μ)
theorem pX1_hasPhase_K16 {x : ax_X} {G : ax_G} (hG : ax_ok G) (μ : ax_M) : ax_Rf mX1_hasPhase 0 x (ax_Z ax_jI x G) G 0 0 16 [none, none] [] μ (fX1_hasPhase_K16 μ) := by
  unfold fX1_hasPhase_K16
  refine rf_iconst (n := 17) (0 : Int32) dX1_hasPhase_16 cciconst_0 rfl ?_
  exact pX1_hasPhase_K17 hG _ _
def fX1_hasPhase (p1 : Int32) (μ : ax_M) : Option (Int32 × ax_M) :=
  (if p1 < 0 then (fX1_hasPhase_K16 μ) else (if (μ.1 2 12) ≤ p1 then (fX1_hasPhase_K16 μ) else (fX1_hasPhase_K17 (1 : Int32) μ)))
theorem okX1_hasPhase (p1 : Int32) (μ : ax_M) : ax_Ok mX1_hasPhase 0 ax_jI [.ref 2, .int p1] μ (fX1_hasPhase p1 μ) := by
  refine ax_start (lc := [some (.ref 2), some (.int p1)]) 0 (by decide +kernel) rfl (Nat.le_of_ble_eq_true rfl) (fun x G hG => ?_)
  unfold fX1_hasPhase
  refine rf_iload_n (n := 1) 1 dX1_hasPhase_0 rfl rfl rfl ?_
  refine rf_if_lt (tg := 16) (n := 4) dX1_hasPhase_1 rfl rfl (fun c2 => ?_) (fun c2 => ?_)
  · refine rf_mask (lc2 := [none, none]) [false, false] rfl ?_
    exact pX1_hasPhase_K16 hG _
  · refine rf_iload_n (n := 5) 1 dX1_hasPhase_4 rfl rfl rfl ?_
    refine rf_aload_n (n := 6) 0 dX1_hasPhase_5 rfl rfl rfl ?_
    refine rf_getI (n := 9) hG dX1_hasPhase_6 flX1_52 ki_1_12 sS_2 kk_2 rfl ?_
    refine rf_icmp_ge (tg := 16) (n := 12) dX1_hasPhase_9 rfl rfl (fun c1 => ?_) (fun c1 => ?_)
    · refine rf_mask (lc2 := [none, none]) [false, false] rfl ?_
      exact pX1_hasPhase_K16 hG _
    · refine rf_iconst (n := 13) (1 : Int32) dX1_hasPhase_12 cciconst_1 rfl ?_
      refine rf_goto (tg := 17) dX1_hasPhase_13 rfl ?_
      refine rf_mask (lc2 := [none, none]) [false, false] rfl ?_
      exact pX1_hasPhase_K17 hG _ _
def fX8_phase_K32 (μ : ax_M) : Option (Int32 × ax_M) :=
  (some ((0 : Int32), μ))
theorem pX8_phase_K32 {x : ax_X} {G : ax_G} (hG : ax_ok G) (μ : ax_M) : ax_Rf mX8_phase 4 x (ax_Z ax_jI x G) G 0 0 32 [none, none, none, none] [] μ (fX8_phase_K32 μ) := by
  unfold fX8_phase_K32
  refine rf_iconst (n := 33) (0 : Int32) dX8_phase_32 cciconst_0 rfl ?_
  exact rf_retB rfl (Or.inl rfl) dX8_phase_33
def fX8_phase (p1 : Int32) (p2 : Int32) (p3 : Int32) (μ : ax_M) : Option (Int32 × ax_M) :=
  (ax_bd (fX1_hasPhase p1 μ) (fun v1 m2 => (if v1 = 0 then (fX8_phase_K32 m2) else (if p2 < 0 then (fX8_phase_K32 m2) else (if (64 : Int32) ≤ p2 then (fX8_phase_K32 m2) else (if p3 < (1 : Int32) then (fX8_phase_K32 m2) else (if p3 < (64 : Int32) then (ax_bd (fX8_beginChange m2) (fun _ m4 => (Option.bind (ax_wr m4 4 4 p1 p2) (fun m5 => (Option.bind (ax_wr m5 5 4 p1 p3) (fun m6 => (some ((1 : Int32), m6)))))))) else (fX8_phase_K32 m2))))))))
theorem okX8_phase (p1 : Int32) (p2 : Int32) (p3 : Int32) (μ : ax_M) : ax_Ok mX8_phase 4 ax_jI [.ref 0, .int p1, .int p2, .int p3] μ (fX8_phase p1 p2 p3 μ) := by
  refine ax_start (lc := [some (.ref 0), some (.int p1), some (.int p2), some (.int p3)]) 0 (by decide +kernel) rfl (Nat.le_of_ble_eq_true rfl) (fun x G hG => ?_)
  unfold fX8_phase
  refine rf_aload_n (n := 1) 0 dX8_phase_0 rfl rfl rfl ?_
  refine rf_getR (n := 4) rr_0_2 kk_2 hG dX8_phase_1 flX8_16 ki_8_2 sS_0 kk_0 rfl ?_
  refine rf_iload_n (n := 5) 1 dX8_phase_4 rfl rfl rfl ?_
  refine rf_cV1I (n := 8) hG (okX1_hasPhase _ _) lVX8_134 hhX1_hasPhase kk_2 sS_2 ⟨_, rfl, rfl⟩ dX8_phase_5 rfl (Nat.le_of_ble_eq_true rfl) (Nat.le_of_ble_eq_true rfl) (fun v1 m2 => ?_)
  refine rf_if_eq (tg := 32) (n := 11) dX8_phase_8 rfl rfl (fun c11 => ?_) (fun c11 => ?_)
  · refine rf_mask (lc2 := [none, none, none, none]) [false, false, false, false] rfl ?_
    exact pX8_phase_K32 hG _
  · refine rf_iload_n (n := 12) 2 dX8_phase_11 rfl rfl rfl ?_
    refine rf_if_lt (tg := 32) (n := 15) dX8_phase_12 rfl rfl (fun c10 => ?_) (fun c10 => ?_)
    · refine rf_mask (lc2 := [none, none, none, none]) [false, false, false, false] rfl ?_
      exact pX8_phase_K32 hG _
    · refine rf_iload_n (n := 16) 2 dX8_phase_15 rfl rfl rfl ?_
      refine rf_bipush (n := 18) (64 : Int32) dX8_phase_16 ccbipush_64 rfl ?_
      refine rf_icmp_ge (tg := 32) (n := 21) dX8_phase_18 rfl rfl (fun c9 => ?_) (fun c9 => ?_)
      · refine rf_mask (lc2 := [none, none, none, none]) [false, false, false, false] rfl ?_
        exact pX8_phase_K32 hG _
      · refine rf_iload_n (n := 22) 3 dX8_phase_21 rfl rfl rfl ?_
        refine rf_iconst (n := 23) (1 : Int32) dX8_phase_22 cciconst_1 rfl ?_
        refine rf_icmp_lt (tg := 32) (n := 26) dX8_phase_23 rfl rfl (fun c8 => ?_) (fun c8 => ?_)
        · refine rf_mask (lc2 := [none, none, none, none]) [false, false, false, false] rfl ?_
          exact pX8_phase_K32 hG _
        · refine rf_iload_n (n := 27) 3 dX8_phase_26 rfl rfl rfl ?_
          refine rf_bipush (n := 29) (64 : Int32) dX8_phase_27 ccbipush_64 rfl ?_
          refine rf_icmp_lt (tg := 34) (n := 32) dX8_phase_29 rfl rfl (fun c7 => ?_) (fun c7 => ?_)
          · refine rf_aload_n (n := 35) 0 dX8_phase_34 rfl rfl rfl ?_
            refine rf_cV0V (n := 38) hG (okX8_beginChange _) lVX8_131 hhX8_beginChange kk_0 sS_0 ⟨_, rfl, rfl⟩ dX8_phase_35 rfl (Nat.le_of_ble_eq_true rfl) (Nat.le_of_ble_eq_true rfl) (fun _ m4 => ?_)
            refine rf_aload_n (n := 39) 0 dX8_phase_38 rfl rfl rfl ?_
            refine rf_getR (n := 42) rr_0_2 kk_2 hG dX8_phase_39 flX8_16 ki_8_2 sS_0 kk_0 rfl ?_
            refine rf_getR (n := 45) rr_2_1 kk_4 hG dX8_phase_42 flX8_137 ki_1_1 sS_2 kk_2 rfl ?_
            refine rf_iload_n (n := 46) 1 dX8_phase_45 rfl rfl rfl ?_
            refine rf_iload_n (n := 47) 2 dX8_phase_46 rfl rfl rfl ?_
            refine rf_iast (n := 48) hG dX8_phase_47 sS_4 kk_4 rfl (fun m5 => ?_)
            refine rf_aload_n (n := 49) 0 dX8_phase_48 rfl rfl rfl ?_
            refine rf_getR (n := 52) rr_0_2 kk_2 hG dX8_phase_49 flX8_16 ki_8_2 sS_0 kk_0 rfl ?_
            refine rf_getR (n := 55) rr_2_2 kk_5 hG dX8_phase_52 flX8_140 ki_1_2 sS_2 kk_2 rfl ?_
            refine rf_iload_n (n := 56) 1 dX8_phase_55 rfl rfl rfl ?_
            refine rf_iload_n (n := 57) 3 dX8_phase_56 rfl rfl rfl ?_
            refine rf_iast (n := 58) hG dX8_phase_57 sS_5 kk_5 rfl (fun m6 => ?_)
            refine rf_iconst (n := 59) (1 : Int32) dX8_phase_58 cciconst_1 rfl ?_
            exact rf_retB rfl (Or.inr rfl) dX8_phase_59
          · refine rf_mask (lc2 := [none, none, none, none]) [false, false, false, false] rfl ?_
            exact pX8_phase_K32 hG _
def fX9_isPhase_K17 (s0 : Int32) (μ : ax_M) : Option (Int32 × ax_M) :=
  (some (vp_nar .boolean s0, μ))
theorem pX9_isPhase_K17 {x : ax_X} {G : ax_G} (hG : ax_ok G) (s0 : Int32) (μ : ax_M) : ax_Rf mX9_isPhase 1 x (ax_Z ax_jI x G) G 0 0 17 [none, none] [.int s0] μ (fX9_isPhase_K17 s0 μ) := by
  unfold fX9_isPhase_K17
  exact rf_retZ rfl dX9_isPhase_17
def fX9_isPhase_K16 (μ : ax_M) : Option (Int32 × ax_M) :=
  (fX9_isPhase_K17 (0 : Int32) μ)
theorem pX9_isPhase_K16 {x : ax_X} {G : ax_G} (hG : ax_ok G) (μ : ax_M) : ax_Rf mX9_isPhase 1 x (ax_Z ax_jI x G) G 0 0 16 [none, none] [] μ (fX9_isPhase_K16 μ) := by
  unfold fX9_isPhase_K16
  refine rf_iconst (n := 17) (0 : Int32) dX9_isPhase_16 cciconst_0 rfl ?_
  exact pX9_isPhase_K17 hG _ _
def fX9_isPhase (p1 : Int32) (μ : ax_M) : Option (Int32 × ax_M) :=
  (if p1 < 0 then (fX9_isPhase_K16 μ) else (ax_bd (fX9_phases μ) (fun v1 m2 => (if v1 ≤ p1 then (fX9_isPhase_K16 m2) else (fX9_isPhase_K17 (1 : Int32) m2)))))
theorem okX9_isPhase (p1 : Int32) (μ : ax_M) : ax_Ok mX9_isPhase 1 ax_jI [.ref 57, .int p1] μ (fX9_isPhase p1 μ) := by
  refine ax_start (lc := [some (.ref 57), some (.int p1)]) 0 (by decide +kernel) rfl (Nat.le_of_ble_eq_true rfl) (fun x G hG => ?_)
  unfold fX9_isPhase
  refine rf_iload_n (n := 1) 1 dX9_isPhase_0 rfl rfl rfl ?_
  refine rf_if_lt (tg := 16) (n := 4) dX9_isPhase_1 rfl rfl (fun c4 => ?_) (fun c4 => ?_)
  · refine rf_mask (lc2 := [none, none]) [false, false] rfl ?_
    exact pX9_isPhase_K16 hG _
  · refine rf_iload_n (n := 5) 1 dX9_isPhase_4 rfl rfl rfl ?_
    refine rf_aload_n (n := 6) 0 dX9_isPhase_5 rfl rfl rfl ?_
    refine rf_cV0I (n := 9) hG (okX9_phases _) lVX9_230 hhX9_phases kk_57 sS_57 ⟨_, rfl, rfl⟩ dX9_isPhase_6 rfl (Nat.le_of_ble_eq_true rfl) (Nat.le_of_ble_eq_true rfl) (fun v1 m2 => ?_)
    refine rf_icmp_ge (tg := 16) (n := 12) dX9_isPhase_9 rfl rfl (fun c3 => ?_) (fun c3 => ?_)
    · refine rf_mask (lc2 := [none, none]) [false, false] rfl ?_
      exact pX9_isPhase_K16 hG _
    · refine rf_iconst (n := 13) (1 : Int32) dX9_isPhase_12 cciconst_1 rfl ?_
      refine rf_goto (tg := 17) dX9_isPhase_13 rfl ?_
      refine rf_mask (lc2 := [none, none]) [false, false] rfl ?_
      exact pX9_isPhase_K17 hG _ _
def fX9_phase_K34 (μ : ax_M) : Option (Int32 × ax_M) :=
  (some ((0 : Int32), μ))
theorem pX9_phase_K34 {x : ax_X} {G : ax_G} (hG : ax_ok G) (μ : ax_M) : ax_Rf mX9_phase 2 x (ax_Z ax_jI x G) G 0 0 34 [none, none, none, none] [] μ (fX9_phase_K34 μ) := by
  unfold fX9_phase_K34
  refine rf_iconst (n := 35) (0 : Int32) dX9_phase_34 cciconst_0 rfl ?_
  exact rf_retB rfl (Or.inl rfl) dX9_phase_35
def fX9_phase (p1 : Int32) (p2 : Int32) (p3 : Int32) (μ : ax_M) : Option (Int32 × ax_M) :=
  (ax_let (ax_wi μ 57 0 (0 : Int32)) (fun m1 => (ax_bd (fX9_isPhase p1 m1) (fun v2 m3 => (if v2 = 0 then (fX9_phase_K34 m3) else (if p2 < 0 then (fX9_phase_K34 m3) else (if (63 : Int32) < p2 then (fX9_phase_K34 m3) else (if p3 < (1 : Int32) then (fX9_phase_K34 m3) else (if p3 ≤ (63 : Int32) then (ax_bd (fX9_remembers m3) (fun _ m5 => (Option.bind (ax_wr m5 74 68 ((1 : Int32) + p1) p2) (fun m6 => (Option.bind (ax_wr m6 74 68 ((5 : Int32) + p1) p3) (fun m7 => (some ((1 : Int32), m7)))))))) else (fX9_phase_K34 m3))))))))))
theorem okX9_phase (p1 : Int32) (p2 : Int32) (p3 : Int32) (μ : ax_M) : ax_Ok mX9_phase 2 ax_jI [.ref 57, .int p1, .int p2, .int p3] μ (fX9_phase p1 p2 p3 μ) := by
  refine ax_start (lc := [some (.ref 57), some (.int p1), some (.int p2), some (.int p3)]) 0 (by decide +kernel) rfl (Nat.le_of_ble_eq_true rfl) (fun x G hG => ?_)
  unfold fX9_phase
  refine rf_aload_n (n := 1) 0 dX9_phase_0 rfl rfl rfl ?_
  refine rf_iconst (n := 2) (0 : Int32) dX9_phase_1 cciconst_0 rfl ?_
  refine rf_pfI (n := 5) hG rfl dX9_phase_2 flX9_103 ki_9_0 nf_9_0 sS_57 kk_57 rfl (fun m1 => ?_)
  refine rf_aload_n (n := 6) 0 dX9_phase_5 rfl rfl rfl ?_
  refine rf_iload_n (n := 7) 1 dX9_phase_6 rfl rfl rfl ?_
  refine rf_cV1I (n := 10) hG (okX9_isPhase _ _) lVX9_262 hhX9_isPhase kk_57 sS_57 ⟨_, rfl, rfl⟩ dX9_phase_7 rfl (Nat.le_of_ble_eq_true rfl) (Nat.le_of_ble_eq_true rfl) (fun v2 m3 => ?_)
  refine rf_if_eq (tg := 34) (n := 13) dX9_phase_10 rfl rfl (fun c12 => ?_) (fun c12 => ?_)
  · refine rf_mask (lc2 := [none, none, none, none]) [false, false, false, false] rfl ?_
    exact pX9_phase_K34 hG _
  · refine rf_iload_n (n := 14) 2 dX9_phase_13 rfl rfl rfl ?_
    refine rf_if_lt (tg := 34) (n := 17) dX9_phase_14 rfl rfl (fun c11 => ?_) (fun c11 => ?_)
    · refine rf_mask (lc2 := [none, none, none, none]) [false, false, false, false] rfl ?_
      exact pX9_phase_K34 hG _
    · refine rf_iload_n (n := 18) 2 dX9_phase_17 rfl rfl rfl ?_
      refine rf_bipush (n := 20) (63 : Int32) dX9_phase_18 ccbipush_63 rfl ?_
      refine rf_icmp_gt (tg := 34) (n := 23) dX9_phase_20 rfl rfl (fun c10 => ?_) (fun c10 => ?_)
      · refine rf_mask (lc2 := [none, none, none, none]) [false, false, false, false] rfl ?_
        exact pX9_phase_K34 hG _
      · refine rf_iload_n (n := 24) 3 dX9_phase_23 rfl rfl rfl ?_
        refine rf_iconst (n := 25) (1 : Int32) dX9_phase_24 cciconst_1 rfl ?_
        refine rf_icmp_lt (tg := 34) (n := 28) dX9_phase_25 rfl rfl (fun c9 => ?_) (fun c9 => ?_)
        · refine rf_mask (lc2 := [none, none, none, none]) [false, false, false, false] rfl ?_
          exact pX9_phase_K34 hG _
        · refine rf_iload_n (n := 29) 3 dX9_phase_28 rfl rfl rfl ?_
          refine rf_bipush (n := 31) (63 : Int32) dX9_phase_29 ccbipush_63 rfl ?_
          refine rf_icmp_le (tg := 36) (n := 34) dX9_phase_31 rfl rfl (fun c8 => ?_) (fun c8 => ?_)
          · refine rf_aload_n (n := 37) 0 dX9_phase_36 rfl rfl rfl ?_
            refine rf_cV0V (n := 40) hG (okX9_remembers _) lVX9_245 hhX9_remembers kk_57 sS_57 ⟨_, rfl, rfl⟩ dX9_phase_37 rfl (Nat.le_of_ble_eq_true rfl) (Nat.le_of_ble_eq_true rfl) (fun _ m5 => ?_)
            refine rf_aload_n (n := 41) 0 dX9_phase_40 rfl rfl rfl ?_
            refine rf_getR (n := 44) rr_57_28 kk_74 hG dX9_phase_41 flX9_63 ki_9_28 sS_57 kk_57 rfl ?_
            refine rf_iconst (n := 45) (1 : Int32) dX9_phase_44 cciconst_1 rfl ?_
            refine rf_iload_n (n := 46) 1 dX9_phase_45 rfl rfl rfl ?_
            refine rf_iadd (n := 47) dX9_phase_46 rfl ?_
            refine rf_iload_n (n := 48) 2 dX9_phase_47 rfl rfl rfl ?_
            refine rf_iast (n := 49) hG dX9_phase_48 sS_74 kk_74 rfl (fun m6 => ?_)
            refine rf_aload_n (n := 50) 0 dX9_phase_49 rfl rfl rfl ?_
            refine rf_getR (n := 53) rr_57_28 kk_74 hG dX9_phase_50 flX9_63 ki_9_28 sS_57 kk_57 rfl ?_
            refine rf_iconst (n := 54) (5 : Int32) dX9_phase_53 cciconst_5 rfl ?_
            refine rf_iload_n (n := 55) 1 dX9_phase_54 rfl rfl rfl ?_
            refine rf_iadd (n := 56) dX9_phase_55 rfl ?_
            refine rf_iload_n (n := 57) 3 dX9_phase_56 rfl rfl rfl ?_
            refine rf_iast (n := 58) hG dX9_phase_57 sS_74 kk_74 rfl (fun m7 => ?_)
            refine rf_iconst (n := 59) (1 : Int32) dX9_phase_58 cciconst_1 rfl ?_
            exact rf_retB rfl (Or.inr rfl) dX9_phase_59
          · refine rf_mask (lc2 := [none, none, none, none]) [false, false, false, false] rfl ?_
            exact pX9_phase_K34 hG _
def fX1_hasPath_K17 (s0 : Int32) (μ : ax_M) : Option (Int32 × ax_M) :=
  (some (vp_nar .boolean s0, μ))
theorem pX1_hasPath_K17 {x : ax_X} {G : ax_G} (hG : ax_ok G) (s0 : Int32) (μ : ax_M) : ax_Rf mX1_hasPath 0 x (ax_Z ax_jI x G) G 0 0 17 [none, none] [.int s0] μ (fX1_hasPath_K17 s0 μ) := by
  unfold fX1_hasPath_K17
  exact rf_retZ rfl dX1_hasPath_17
def fX1_hasPath_K16 (μ : ax_M) : Option (Int32 × ax_M) :=
  (fX1_hasPath_K17 (0 : Int32) μ)
theorem pX1_hasPath_K16 {x : ax_X} {G : ax_G} (hG : ax_ok G) (μ : ax_M) : ax_Rf mX1_hasPath 0 x (ax_Z ax_jI x G) G 0 0 16 [none, none] [] μ (fX1_hasPath_K16 μ) := by
  unfold fX1_hasPath_K16
  refine rf_iconst (n := 17) (0 : Int32) dX1_hasPath_16 cciconst_0 rfl ?_
  exact pX1_hasPath_K17 hG _ _
def fX1_hasPath (p1 : Int32) (μ : ax_M) : Option (Int32 × ax_M) :=
  (if p1 < 0 then (fX1_hasPath_K16 μ) else (if (μ.1 2 14) ≤ p1 then (fX1_hasPath_K16 μ) else (fX1_hasPath_K17 (1 : Int32) μ)))
theorem okX1_hasPath (p1 : Int32) (μ : ax_M) : ax_Ok mX1_hasPath 0 ax_jI [.ref 2, .int p1] μ (fX1_hasPath p1 μ) := by
  refine ax_start (lc := [some (.ref 2), some (.int p1)]) 0 (by decide +kernel) rfl (Nat.le_of_ble_eq_true rfl) (fun x G hG => ?_)
  unfold fX1_hasPath
  refine rf_iload_n (n := 1) 1 dX1_hasPath_0 rfl rfl rfl ?_
  refine rf_if_lt (tg := 16) (n := 4) dX1_hasPath_1 rfl rfl (fun c2 => ?_) (fun c2 => ?_)
  · refine rf_mask (lc2 := [none, none]) [false, false] rfl ?_
    exact pX1_hasPath_K16 hG _
  · refine rf_iload_n (n := 5) 1 dX1_hasPath_4 rfl rfl rfl ?_
    refine rf_aload_n (n := 6) 0 dX1_hasPath_5 rfl rfl rfl ?_
    refine rf_getI (n := 9) hG dX1_hasPath_6 flX1_58 ki_1_14 sS_2 kk_2 rfl ?_
    refine rf_icmp_ge (tg := 16) (n := 12) dX1_hasPath_9 rfl rfl (fun c1 => ?_) (fun c1 => ?_)
    · refine rf_mask (lc2 := [none, none]) [false, false] rfl ?_
      exact pX1_hasPath_K16 hG _
    · refine rf_iconst (n := 13) (1 : Int32) dX1_hasPath_12 cciconst_1 rfl ?_
      refine rf_goto (tg := 17) dX1_hasPath_13 rfl ?_
      refine rf_mask (lc2 := [none, none]) [false, false] rfl ?_
      exact pX1_hasPath_K17 hG _ _
def fX8_delay_K27 (μ : ax_M) : Option (Int32 × ax_M) :=
  (some ((0 : Int32), μ))
theorem pX8_delay_K27 {x : ax_X} {G : ax_G} (hG : ax_ok G) (μ : ax_M) : ax_Rf mX8_delay 4 x (ax_Z ax_jI x G) G 0 0 27 [none, none, none, none] [] μ (fX8_delay_K27 μ) := by
  unfold fX8_delay_K27
  refine rf_iconst (n := 28) (0 : Int32) dX8_delay_27 cciconst_0 rfl ?_
  exact rf_retB rfl (Or.inl rfl) dX8_delay_28
def fX8_delay (p1 : Int32) (p2 : Int32) (p3 : Int32) (μ : ax_M) : Option (Int32 × ax_M) :=
  (ax_bd (fX1_hasPath p1 μ) (fun v1 m2 => (if v1 = 0 then (fX8_delay_K27 m2) else (if (999 : Int32) < p2 then (fX8_delay_K27 m2) else (if p3 < 0 then (fX8_delay_K27 m2) else (if p3 ≤ p2 then (ax_bd (fX8_beginChange m2) (fun _ m4 => (Option.bind (ax_wr m4 13 24 p1 p2) (fun m5 => (Option.bind (ax_wr m5 14 24 p1 p3) (fun m6 => (some ((1 : Int32), m6)))))))) else (fX8_delay_K27 m2)))))))
theorem okX8_delay (p1 : Int32) (p2 : Int32) (p3 : Int32) (μ : ax_M) : ax_Ok mX8_delay 4 ax_jI [.ref 0, .int p1, .int p2, .int p3] μ (fX8_delay p1 p2 p3 μ) := by
  refine ax_start (lc := [some (.ref 0), some (.int p1), some (.int p2), some (.int p3)]) 0 (by decide +kernel) rfl (Nat.le_of_ble_eq_true rfl) (fun x G hG => ?_)
  unfold fX8_delay
  refine rf_aload_n (n := 1) 0 dX8_delay_0 rfl rfl rfl ?_
  refine rf_getR (n := 4) rr_0_2 kk_2 hG dX8_delay_1 flX8_16 ki_8_2 sS_0 kk_0 rfl ?_
  refine rf_iload_n (n := 5) 1 dX8_delay_4 rfl rfl rfl ?_
  refine rf_cV1I (n := 8) hG (okX1_hasPath _ _) lVX8_143 hhX1_hasPath kk_2 sS_2 ⟨_, rfl, rfl⟩ dX8_delay_5 rfl (Nat.le_of_ble_eq_true rfl) (Nat.le_of_ble_eq_true rfl) (fun v1 m2 => ?_)
  refine rf_if_eq (tg := 27) (n := 11) dX8_delay_8 rfl rfl (fun c10 => ?_) (fun c10 => ?_)
  · refine rf_mask (lc2 := [none, none, none, none]) [false, false, false, false] rfl ?_
    exact pX8_delay_K27 hG _
  · refine rf_iload_n (n := 12) 2 dX8_delay_11 rfl rfl rfl ?_
    refine rf_sipush (n := 15) (999 : Int32) dX8_delay_12 ccsipush_999 rfl ?_
    refine rf_icmp_gt (tg := 27) (n := 18) dX8_delay_15 rfl rfl (fun c9 => ?_) (fun c9 => ?_)
    · refine rf_mask (lc2 := [none, none, none, none]) [false, false, false, false] rfl ?_
      exact pX8_delay_K27 hG _
    · refine rf_iload_n (n := 19) 3 dX8_delay_18 rfl rfl rfl ?_
      refine rf_if_lt (tg := 27) (n := 22) dX8_delay_19 rfl rfl (fun c8 => ?_) (fun c8 => ?_)
      · refine rf_mask (lc2 := [none, none, none, none]) [false, false, false, false] rfl ?_
        exact pX8_delay_K27 hG _
      · refine rf_iload_n (n := 23) 3 dX8_delay_22 rfl rfl rfl ?_
        refine rf_iload_n (n := 24) 2 dX8_delay_23 rfl rfl rfl ?_
        refine rf_icmp_le (tg := 29) (n := 27) dX8_delay_24 rfl rfl (fun c7 => ?_) (fun c7 => ?_)
        · refine rf_aload_n (n := 30) 0 dX8_delay_29 rfl rfl rfl ?_
          refine rf_cV0V (n := 33) hG (okX8_beginChange _) lVX8_131 hhX8_beginChange kk_0 sS_0 ⟨_, rfl, rfl⟩ dX8_delay_30 rfl (Nat.le_of_ble_eq_true rfl) (Nat.le_of_ble_eq_true rfl) (fun _ m4 => ?_)
          refine rf_aload_n (n := 34) 0 dX8_delay_33 rfl rfl rfl ?_
          refine rf_getR (n := 37) rr_0_2 kk_2 hG dX8_delay_34 flX8_16 ki_8_2 sS_0 kk_0 rfl ?_
          refine rf_getR (n := 40) rr_2_10 kk_13 hG dX8_delay_37 flX8_146 ki_1_10 sS_2 kk_2 rfl ?_
          refine rf_iload_n (n := 41) 1 dX8_delay_40 rfl rfl rfl ?_
          refine rf_iload_n (n := 42) 2 dX8_delay_41 rfl rfl rfl ?_
          refine rf_iast (n := 43) hG dX8_delay_42 sS_13 kk_13 rfl (fun m5 => ?_)
          refine rf_aload_n (n := 44) 0 dX8_delay_43 rfl rfl rfl ?_
          refine rf_getR (n := 47) rr_0_2 kk_2 hG dX8_delay_44 flX8_16 ki_8_2 sS_0 kk_0 rfl ?_
          refine rf_getR (n := 50) rr_2_11 kk_14 hG dX8_delay_47 flX8_149 ki_1_11 sS_2 kk_2 rfl ?_
          refine rf_iload_n (n := 51) 1 dX8_delay_50 rfl rfl rfl ?_
          refine rf_iload_n (n := 52) 3 dX8_delay_51 rfl rfl rfl ?_
          refine rf_iast (n := 53) hG dX8_delay_52 sS_14 kk_14 rfl (fun m6 => ?_)
          refine rf_iconst (n := 54) (1 : Int32) dX8_delay_53 cciconst_1 rfl ?_
          exact rf_retB rfl (Or.inr rfl) dX8_delay_54
        · refine rf_mask (lc2 := [none, none, none, none]) [false, false, false, false] rfl ?_
          exact pX8_delay_K27 hG _
def fX9_isPath_K17 (s0 : Int32) (μ : ax_M) : Option (Int32 × ax_M) :=
  (some (vp_nar .boolean s0, μ))
theorem pX9_isPath_K17 {x : ax_X} {G : ax_G} (hG : ax_ok G) (s0 : Int32) (μ : ax_M) : ax_Rf mX9_isPath 1 x (ax_Z ax_jI x G) G 0 0 17 [none, none] [.int s0] μ (fX9_isPath_K17 s0 μ) := by
  unfold fX9_isPath_K17
  exact rf_retZ rfl dX9_isPath_17
def fX9_isPath_K16 (μ : ax_M) : Option (Int32 × ax_M) :=
  (fX9_isPath_K17 (0 : Int32) μ)
theorem pX9_isPath_K16 {x : ax_X} {G : ax_G} (hG : ax_ok G) (μ : ax_M) : ax_Rf mX9_isPath 1 x (ax_Z ax_jI x G) G 0 0 16 [none, none] [] μ (fX9_isPath_K16 μ) := by
  unfold fX9_isPath_K16
  refine rf_iconst (n := 17) (0 : Int32) dX9_isPath_16 cciconst_0 rfl ?_
  exact pX9_isPath_K17 hG _ _
def fX9_isPath (p1 : Int32) (μ : ax_M) : Option (Int32 × ax_M) :=
  (if p1 < 0 then (fX9_isPath_K16 μ) else (ax_bd (fX9_paths μ) (fun v1 m2 => (if v1 ≤ p1 then (fX9_isPath_K16 m2) else (fX9_isPath_K17 (1 : Int32) m2)))))
theorem okX9_isPath (p1 : Int32) (μ : ax_M) : ax_Ok mX9_isPath 1 ax_jI [.ref 57, .int p1] μ (fX9_isPath p1 μ) := by
  refine ax_start (lc := [some (.ref 57), some (.int p1)]) 0 (by decide +kernel) rfl (Nat.le_of_ble_eq_true rfl) (fun x G hG => ?_)
  unfold fX9_isPath
  refine rf_iload_n (n := 1) 1 dX9_isPath_0 rfl rfl rfl ?_
  refine rf_if_lt (tg := 16) (n := 4) dX9_isPath_1 rfl rfl (fun c4 => ?_) (fun c4 => ?_)
  · refine rf_mask (lc2 := [none, none]) [false, false] rfl ?_
    exact pX9_isPath_K16 hG _
  · refine rf_iload_n (n := 5) 1 dX9_isPath_4 rfl rfl rfl ?_
    refine rf_aload_n (n := 6) 0 dX9_isPath_5 rfl rfl rfl ?_
    refine rf_cV0I (n := 9) hG (okX9_paths _) lVX9_236 hhX9_paths kk_57 sS_57 ⟨_, rfl, rfl⟩ dX9_isPath_6 rfl (Nat.le_of_ble_eq_true rfl) (Nat.le_of_ble_eq_true rfl) (fun v1 m2 => ?_)
    refine rf_icmp_ge (tg := 16) (n := 12) dX9_isPath_9 rfl rfl (fun c3 => ?_) (fun c3 => ?_)
    · refine rf_mask (lc2 := [none, none]) [false, false] rfl ?_
      exact pX9_isPath_K16 hG _
    · refine rf_iconst (n := 13) (1 : Int32) dX9_isPath_12 cciconst_1 rfl ?_
      refine rf_goto (tg := 17) dX9_isPath_13 rfl ?_
      refine rf_mask (lc2 := [none, none]) [false, false] rfl ?_
      exact pX9_isPath_K17 hG _ _
def fX9_delay_K33 (μ : ax_M) : Option (Int32 × ax_M) :=
  (some ((0 : Int32), μ))
theorem pX9_delay_K33 {x : ax_X} {G : ax_G} (hG : ax_ok G) (μ : ax_M) : ax_Rf mX9_delay 2 x (ax_Z ax_jI x G) G 0 0 33 [none, none, none, none] [] μ (fX9_delay_K33 μ) := by
  unfold fX9_delay_K33
  refine rf_iconst (n := 34) (0 : Int32) dX9_delay_33 cciconst_0 rfl ?_
  exact rf_retB rfl (Or.inl rfl) dX9_delay_34
def fX9_delay (p1 : Int32) (p2 : Int32) (p3 : Int32) (μ : ax_M) : Option (Int32 × ax_M) :=
  (ax_let (ax_wi μ 57 0 (0 : Int32)) (fun m1 => (ax_bd (fX9_isPath p1 m1) (fun v2 m3 => (if v2 = 0 then (fX9_delay_K33 m3) else (if p2 < 0 then (fX9_delay_K33 m3) else (if (999 : Int32) < p2 then (fX9_delay_K33 m3) else (if p3 < 0 then (fX9_delay_K33 m3) else (if p3 ≤ p2 then (ax_bd (fX9_remembers m3) (fun _ m5 => (Option.bind (ax_wr m5 74 68 ((19 : Int32) + p1) p2) (fun m6 => (Option.bind (ax_wr m6 74 68 ((43 : Int32) + p1) p3) (fun m7 => (some ((1 : Int32), m7)))))))) else (fX9_delay_K33 m3))))))))))
theorem okX9_delay (p1 : Int32) (p2 : Int32) (p3 : Int32) (μ : ax_M) : ax_Ok mX9_delay 2 ax_jI [.ref 57, .int p1, .int p2, .int p3] μ (fX9_delay p1 p2 p3 μ) := by
  refine ax_start (lc := [some (.ref 57), some (.int p1), some (.int p2), some (.int p3)]) 0 (by decide +kernel) rfl (Nat.le_of_ble_eq_true rfl) (fun x G hG => ?_)
  unfold fX9_delay
  refine rf_aload_n (n := 1) 0 dX9_delay_0 rfl rfl rfl ?_
  refine rf_iconst (n := 2) (0 : Int32) dX9_delay_1 cciconst_0 rfl ?_
  refine rf_pfI (n := 5) hG rfl dX9_delay_2 flX9_103 ki_9_0 nf_9_0 sS_57 kk_57 rfl (fun m1 => ?_)
  refine rf_aload_n (n := 6) 0 dX9_delay_5 rfl rfl rfl ?_
  refine rf_iload_n (n := 7) 1 dX9_delay_6 rfl rfl rfl ?_
  refine rf_cV1I (n := 10) hG (okX9_isPath _ _) lVX9_265 hhX9_isPath kk_57 sS_57 ⟨_, rfl, rfl⟩ dX9_delay_7 rfl (Nat.le_of_ble_eq_true rfl) (Nat.le_of_ble_eq_true rfl) (fun v2 m3 => ?_)
  refine rf_if_eq (tg := 33) (n := 13) dX9_delay_10 rfl rfl (fun c12 => ?_) (fun c12 => ?_)
  · refine rf_mask (lc2 := [none, none, none, none]) [false, false, false, false] rfl ?_
    exact pX9_delay_K33 hG _
  · refine rf_iload_n (n := 14) 2 dX9_delay_13 rfl rfl rfl ?_
    refine rf_if_lt (tg := 33) (n := 17) dX9_delay_14 rfl rfl (fun c11 => ?_) (fun c11 => ?_)
    · refine rf_mask (lc2 := [none, none, none, none]) [false, false, false, false] rfl ?_
      exact pX9_delay_K33 hG _
    · refine rf_iload_n (n := 18) 2 dX9_delay_17 rfl rfl rfl ?_
      refine rf_sipush (n := 21) (999 : Int32) dX9_delay_18 ccsipush_999 rfl ?_
      refine rf_icmp_gt (tg := 33) (n := 24) dX9_delay_21 rfl rfl (fun c10 => ?_) (fun c10 => ?_)
      · refine rf_mask (lc2 := [none, none, none, none]) [false, false, false, false] rfl ?_
        exact pX9_delay_K33 hG _
      · refine rf_iload_n (n := 25) 3 dX9_delay_24 rfl rfl rfl ?_
        refine rf_if_lt (tg := 33) (n := 28) dX9_delay_25 rfl rfl (fun c9 => ?_) (fun c9 => ?_)
        · refine rf_mask (lc2 := [none, none, none, none]) [false, false, false, false] rfl ?_
          exact pX9_delay_K33 hG _
        · refine rf_iload_n (n := 29) 3 dX9_delay_28 rfl rfl rfl ?_
          refine rf_iload_n (n := 30) 2 dX9_delay_29 rfl rfl rfl ?_
          refine rf_icmp_le (tg := 35) (n := 33) dX9_delay_30 rfl rfl (fun c8 => ?_) (fun c8 => ?_)
          · refine rf_aload_n (n := 36) 0 dX9_delay_35 rfl rfl rfl ?_
            refine rf_cV0V (n := 39) hG (okX9_remembers _) lVX9_245 hhX9_remembers kk_57 sS_57 ⟨_, rfl, rfl⟩ dX9_delay_36 rfl (Nat.le_of_ble_eq_true rfl) (Nat.le_of_ble_eq_true rfl) (fun _ m5 => ?_)
            refine rf_aload_n (n := 40) 0 dX9_delay_39 rfl rfl rfl ?_
            refine rf_getR (n := 43) rr_57_28 kk_74 hG dX9_delay_40 flX9_63 ki_9_28 sS_57 kk_57 rfl ?_
            refine rf_bipush (n := 45) (19 : Int32) dX9_delay_43 ccbipush_19 rfl ?_
            refine rf_iload_n (n := 46) 1 dX9_delay_45 rfl rfl rfl ?_
            refine rf_iadd (n := 47) dX9_delay_46 rfl ?_
            refine rf_iload_n (n := 48) 2 dX9_delay_47 rfl rfl rfl ?_
            refine rf_iast (n := 49) hG dX9_delay_48 sS_74 kk_74 rfl (fun m6 => ?_)
            refine rf_aload_n (n := 50) 0 dX9_delay_49 rfl rfl rfl ?_
            refine rf_getR (n := 53) rr_57_28 kk_74 hG dX9_delay_50 flX9_63 ki_9_28 sS_57 kk_57 rfl ?_
            refine rf_bipush (n := 55) (43 : Int32) dX9_delay_53 ccbipush_43 rfl ?_
            refine rf_iload_n (n := 56) 1 dX9_delay_55 rfl rfl rfl ?_
            refine rf_iadd (n := 57) dX9_delay_56 rfl ?_
            refine rf_iload_n (n := 58) 3 dX9_delay_57 rfl rfl rfl ?_
            refine rf_iast (n := 59) hG dX9_delay_58 sS_74 kk_74 rfl (fun m7 => ?_)
            refine rf_iconst (n := 60) (1 : Int32) dX9_delay_59 cciconst_1 rfl ?_
            exact rf_retB rfl (Or.inr rfl) dX9_delay_60
          · refine rf_mask (lc2 := [none, none, none, none]) [false, false, false, false] rfl ?_
            exact pX9_delay_K33 hG _
def fX1_hasCell_K17 (s0 : Int32) (μ : ax_M) : Option (Int32 × ax_M) :=
  (some (vp_nar .boolean s0, μ))
theorem pX1_hasCell_K17 {x : ax_X} {G : ax_G} (hG : ax_ok G) (s0 : Int32) (μ : ax_M) : ax_Rf mX1_hasCell 0 x (ax_Z ax_jI x G) G 0 0 17 [none, none] [.int s0] μ (fX1_hasCell_K17 s0 μ) := by
  unfold fX1_hasCell_K17
  exact rf_retZ rfl dX1_hasCell_17
def fX1_hasCell_K16 (μ : ax_M) : Option (Int32 × ax_M) :=
  (fX1_hasCell_K17 (0 : Int32) μ)
theorem pX1_hasCell_K16 {x : ax_X} {G : ax_G} (hG : ax_ok G) (μ : ax_M) : ax_Rf mX1_hasCell 0 x (ax_Z ax_jI x G) G 0 0 16 [none, none] [] μ (fX1_hasCell_K16 μ) := by
  unfold fX1_hasCell_K16
  refine rf_iconst (n := 17) (0 : Int32) dX1_hasCell_16 cciconst_0 rfl ?_
  exact pX1_hasCell_K17 hG _ _
def fX1_hasCell (p1 : Int32) (μ : ax_M) : Option (Int32 × ax_M) :=
  (if p1 < 0 then (fX1_hasCell_K16 μ) else (if (μ.1 2 13) ≤ p1 then (fX1_hasCell_K16 μ) else (fX1_hasCell_K17 (1 : Int32) μ)))
theorem okX1_hasCell (p1 : Int32) (μ : ax_M) : ax_Ok mX1_hasCell 0 ax_jI [.ref 2, .int p1] μ (fX1_hasCell p1 μ) := by
  refine ax_start (lc := [some (.ref 2), some (.int p1)]) 0 (by decide +kernel) rfl (Nat.le_of_ble_eq_true rfl) (fun x G hG => ?_)
  unfold fX1_hasCell
  refine rf_iload_n (n := 1) 1 dX1_hasCell_0 rfl rfl rfl ?_
  refine rf_if_lt (tg := 16) (n := 4) dX1_hasCell_1 rfl rfl (fun c2 => ?_) (fun c2 => ?_)
  · refine rf_mask (lc2 := [none, none]) [false, false] rfl ?_
    exact pX1_hasCell_K16 hG _
  · refine rf_iload_n (n := 5) 1 dX1_hasCell_4 rfl rfl rfl ?_
    refine rf_aload_n (n := 6) 0 dX1_hasCell_5 rfl rfl rfl ?_
    refine rf_getI (n := 9) hG dX1_hasCell_6 flX1_55 ki_1_13 sS_2 kk_2 rfl ?_
    refine rf_icmp_ge (tg := 16) (n := 12) dX1_hasCell_9 rfl rfl (fun c1 => ?_) (fun c1 => ?_)
    · refine rf_mask (lc2 := [none, none]) [false, false] rfl ?_
      exact pX1_hasCell_K16 hG _
    · refine rf_iconst (n := 13) (1 : Int32) dX1_hasCell_12 cciconst_1 rfl ?_
      refine rf_goto (tg := 17) dX1_hasCell_13 rfl ?_
      refine rf_mask (lc2 := [none, none]) [false, false] rfl ?_
      exact pX1_hasCell_K17 hG _ _
def fX1_isFlop_K16 (s0 : Int32) (μ : ax_M) : Option (Int32 × ax_M) :=
  (some (vp_nar .boolean s0, μ))
theorem pX1_isFlop_K16 {x : ax_X} {G : ax_G} (hG : ax_ok G) (s0 : Int32) (μ : ax_M) : ax_Rf mX1_isFlop 0 x (ax_Z ax_jI x G) G 0 0 16 [none, none] [.int s0] μ (fX1_isFlop_K16 s0 μ) := by
  unfold fX1_isFlop_K16
  exact rf_retZ rfl dX1_isFlop_16
def fX1_isFlop (p1 : Int32) (μ : ax_M) : Option (Int32 × ax_M) :=
  (if (((μ.1 2 15) >>> (p1 &&& 31)) &&& (1 : Int32)) = 0 then (fX1_isFlop_K16 (0 : Int32) μ) else (fX1_isFlop_K16 (1 : Int32) μ))
theorem okX1_isFlop (p1 : Int32) (μ : ax_M) : ax_Ok mX1_isFlop 0 ax_jI [.ref 2, .int p1] μ (fX1_isFlop p1 μ) := by
  refine ax_start (lc := [some (.ref 2), some (.int p1)]) 0 (by decide +kernel) rfl (Nat.le_of_ble_eq_true rfl) (fun x G hG => ?_)
  unfold fX1_isFlop
  refine rf_aload_n (n := 1) 0 dX1_isFlop_0 rfl rfl rfl ?_
  refine rf_getI (n := 4) hG dX1_isFlop_1 flX1_61 ki_1_15 sS_2 kk_2 rfl ?_
  refine rf_iload_n (n := 5) 1 dX1_isFlop_4 rfl rfl rfl ?_
  refine rf_ishr (n := 6) dX1_isFlop_5 rfl ?_
  refine rf_iconst (n := 7) (1 : Int32) dX1_isFlop_6 cciconst_1 rfl ?_
  refine rf_iand (n := 8) dX1_isFlop_7 rfl ?_
  refine rf_if_eq (tg := 15) (n := 11) dX1_isFlop_8 rfl rfl (fun c1 => ?_) (fun c1 => ?_)
  · refine rf_iconst (n := 16) (0 : Int32) dX1_isFlop_15 cciconst_0 rfl ?_
    refine rf_mask (lc2 := [none, none]) [false, false] rfl ?_
    exact pX1_isFlop_K16 hG _ _
  · refine rf_iconst (n := 12) (1 : Int32) dX1_isFlop_11 cciconst_1 rfl ?_
    refine rf_goto (tg := 16) dX1_isFlop_12 rfl ?_
    refine rf_mask (lc2 := [none, none]) [false, false] rfl ?_
    exact pX1_isFlop_K16 hG _ _
def fX8_flop_K48 (s0 : Int32) (μ : ax_M) : Option (Int32 × ax_M) :=
  (some (s0, μ))
theorem pX8_flop_K48 {x : ax_X} {G : ax_G} (hG : ax_ok G) (s0 : Int32) (μ : ax_M) : ax_Rf mX8_flop 4 x (ax_Z ax_jI x G) G 0 0 48 [none, none] [.int s0] μ (fX8_flop_K48 s0 μ) := by
  unfold fX8_flop_K48
  exact rf_retI rfl dX8_flop_48
def fX8_flop (p1 : Int32) (μ : ax_M) : Option (Int32 × ax_M) :=
  (ax_bd (fX1_hasCell p1 μ) (fun v1 m2 => (if v1 = 0 then (some ((-1 : Int32), m2)) else (ax_bd (fX8_beginChange m2) (fun _ m4 => (ax_let (ax_wi m4 2 15 ((m4.1 2 15) ^^^ ((1 : Int32) <<< (p1 &&& 31)))) (fun m5 => (ax_bd (fX1_isFlop p1 m5) (fun v6 m7 => (if v6 = 0 then (fX8_flop_K48 (0 : Int32) m7) else (fX8_flop_K48 (1 : Int32) m7)))))))))))
theorem okX8_flop (p1 : Int32) (μ : ax_M) : ax_Ok mX8_flop 4 ax_jI [.ref 0, .int p1] μ (fX8_flop p1 μ) := by
  refine ax_start (lc := [some (.ref 0), some (.int p1)]) 0 (by decide +kernel) rfl (Nat.le_of_ble_eq_true rfl) (fun x G hG => ?_)
  unfold fX8_flop
  refine rf_aload_n (n := 1) 0 dX8_flop_0 rfl rfl rfl ?_
  refine rf_getR (n := 4) rr_0_2 kk_2 hG dX8_flop_1 flX8_16 ki_8_2 sS_0 kk_0 rfl ?_
  refine rf_iload_n (n := 5) 1 dX8_flop_4 rfl rfl rfl ?_
  refine rf_cV1I (n := 8) hG (okX1_hasCell _ _) lVX8_152 hhX1_hasCell kk_2 sS_2 ⟨_, rfl, rfl⟩ dX8_flop_5 rfl (Nat.le_of_ble_eq_true rfl) (Nat.le_of_ble_eq_true rfl) (fun v1 m2 => ?_)
  refine rf_if_ne (tg := 13) (n := 11) dX8_flop_8 rfl rfl (fun c9 => ?_) (fun c9 => ?_)
  · refine rf_aload_n (n := 14) 0 dX8_flop_13 rfl rfl rfl ?_
    refine rf_cV0V (n := 17) hG (okX8_beginChange _) lVX8_131 hhX8_beginChange kk_0 sS_0 ⟨_, rfl, rfl⟩ dX8_flop_14 rfl (Nat.le_of_ble_eq_true rfl) (Nat.le_of_ble_eq_true rfl) (fun _ m4 => ?_)
    refine rf_aload_n (n := 18) 0 dX8_flop_17 rfl rfl rfl ?_
    refine rf_getR (n := 21) rr_0_2 kk_2 hG dX8_flop_18 flX8_16 ki_8_2 sS_0 kk_0 rfl ?_
    refine rf_dupR (n := 22) dX8_flop_21 rfl ?_
    refine rf_getI (n := 25) hG dX8_flop_22 flX8_155 ki_1_15 sS_2 kk_2 rfl ?_
    refine rf_iconst (n := 26) (1 : Int32) dX8_flop_25 cciconst_1 rfl ?_
    refine rf_iload_n (n := 27) 1 dX8_flop_26 rfl rfl rfl ?_
    refine rf_ishl (n := 28) dX8_flop_27 rfl ?_
    refine rf_ixor (n := 29) dX8_flop_28 rfl ?_
    refine rf_pfI (n := 32) hG rfl dX8_flop_29 flX8_155 ki_1_15 nf_1_15 sS_2 kk_2 rfl (fun m5 => ?_)
    refine rf_aload_n (n := 33) 0 dX8_flop_32 rfl rfl rfl ?_
    refine rf_getR (n := 36) rr_0_2 kk_2 hG dX8_flop_33 flX8_16 ki_8_2 sS_0 kk_0 rfl ?_
    refine rf_iload_n (n := 37) 1 dX8_flop_36 rfl rfl rfl ?_
    refine rf_cV1I (n := 40) hG (okX1_isFlop _ _) lVX8_158 hhX1_isFlop kk_2 sS_2 ⟨_, rfl, rfl⟩ dX8_flop_37 rfl (Nat.le_of_ble_eq_true rfl) (Nat.le_of_ble_eq_true rfl) (fun v6 m7 => ?_)
    refine rf_if_eq (tg := 47) (n := 43) dX8_flop_40 rfl rfl (fun c8 => ?_) (fun c8 => ?_)
    · refine rf_iconst (n := 48) (0 : Int32) dX8_flop_47 cciconst_0 rfl ?_
      refine rf_mask (lc2 := [none, none]) [false, false] rfl ?_
      exact pX8_flop_K48 hG _ _
    · refine rf_iconst (n := 44) (1 : Int32) dX8_flop_43 cciconst_1 rfl ?_
      refine rf_goto (tg := 48) dX8_flop_44 rfl ?_
      refine rf_mask (lc2 := [none, none]) [false, false] rfl ?_
      exact pX8_flop_K48 hG _ _
  · refine rf_iconst (n := 12) (-1 : Int32) dX8_flop_11 cciconst_m1 rfl ?_
    exact rf_retI rfl dX8_flop_12
def fX9_isCell_K17 (s0 : Int32) (μ : ax_M) : Option (Int32 × ax_M) :=
  (some (vp_nar .boolean s0, μ))
theorem pX9_isCell_K17 {x : ax_X} {G : ax_G} (hG : ax_ok G) (s0 : Int32) (μ : ax_M) : ax_Rf mX9_isCell 1 x (ax_Z ax_jI x G) G 0 0 17 [none, none] [.int s0] μ (fX9_isCell_K17 s0 μ) := by
  unfold fX9_isCell_K17
  exact rf_retZ rfl dX9_isCell_17
def fX9_isCell_K16 (μ : ax_M) : Option (Int32 × ax_M) :=
  (fX9_isCell_K17 (0 : Int32) μ)
theorem pX9_isCell_K16 {x : ax_X} {G : ax_G} (hG : ax_ok G) (μ : ax_M) : ax_Rf mX9_isCell 1 x (ax_Z ax_jI x G) G 0 0 16 [none, none] [] μ (fX9_isCell_K16 μ) := by
  unfold fX9_isCell_K16
  refine rf_iconst (n := 17) (0 : Int32) dX9_isCell_16 cciconst_0 rfl ?_
  exact pX9_isCell_K17 hG _ _
def fX9_isCell (p1 : Int32) (μ : ax_M) : Option (Int32 × ax_M) :=
  (if p1 < 0 then (fX9_isCell_K16 μ) else (ax_bd (fX9_cells μ) (fun v1 m2 => (if v1 ≤ p1 then (fX9_isCell_K16 m2) else (fX9_isCell_K17 (1 : Int32) m2)))))
theorem okX9_isCell (p1 : Int32) (μ : ax_M) : ax_Ok mX9_isCell 1 ax_jI [.ref 57, .int p1] μ (fX9_isCell p1 μ) := by
  refine ax_start (lc := [some (.ref 57), some (.int p1)]) 0 (by decide +kernel) rfl (Nat.le_of_ble_eq_true rfl) (fun x G hG => ?_)
  unfold fX9_isCell
  refine rf_iload_n (n := 1) 1 dX9_isCell_0 rfl rfl rfl ?_
  refine rf_if_lt (tg := 16) (n := 4) dX9_isCell_1 rfl rfl (fun c4 => ?_) (fun c4 => ?_)
  · refine rf_mask (lc2 := [none, none]) [false, false] rfl ?_
    exact pX9_isCell_K16 hG _
  · refine rf_iload_n (n := 5) 1 dX9_isCell_4 rfl rfl rfl ?_
    refine rf_aload_n (n := 6) 0 dX9_isCell_5 rfl rfl rfl ?_
    refine rf_cV0I (n := 9) hG (okX9_cells _) lVX9_233 hhX9_cells kk_57 sS_57 ⟨_, rfl, rfl⟩ dX9_isCell_6 rfl (Nat.le_of_ble_eq_true rfl) (Nat.le_of_ble_eq_true rfl) (fun v1 m2 => ?_)
    refine rf_icmp_ge (tg := 16) (n := 12) dX9_isCell_9 rfl rfl (fun c3 => ?_) (fun c3 => ?_)
    · refine rf_mask (lc2 := [none, none]) [false, false] rfl ?_
      exact pX9_isCell_K16 hG _
    · refine rf_iconst (n := 13) (1 : Int32) dX9_isCell_12 cciconst_1 rfl ?_
      refine rf_goto (tg := 17) dX9_isCell_13 rfl ?_
      refine rf_mask (lc2 := [none, none]) [false, false] rfl ?_
      exact pX9_isCell_K17 hG _ _
def fX9_flop (p1 : Int32) (μ : ax_M) : Option (Int32 × ax_M) :=
  (ax_let (ax_wi μ 57 0 (0 : Int32)) (fun m1 => (ax_bd (fX9_isCell p1 m1) (fun v2 m3 => (if v2 = 0 then (some ((-1 : Int32), m3)) else (ax_bd (fX9_remembers m3) (fun _ m5 => (Option.bind (ax_rd m5 74 68 ((9 : Int32) + p1)) (fun v6 => (Option.bind (ax_wr m5 74 68 ((9 : Int32) + p1) ((1 : Int32) - v6)) (fun m7 => (Option.bind (ax_rd m7 74 68 ((9 : Int32) + p1)) (fun v8 => (some (v8, m7)))))))))))))))
theorem okX9_flop (p1 : Int32) (μ : ax_M) : ax_Ok mX9_flop 2 ax_jI [.ref 57, .int p1] μ (fX9_flop p1 μ) := by
  refine ax_start (lc := [some (.ref 57), some (.int p1)]) 0 (by decide +kernel) rfl (Nat.le_of_ble_eq_true rfl) (fun x G hG => ?_)
  unfold fX9_flop
  refine rf_aload_n (n := 1) 0 dX9_flop_0 rfl rfl rfl ?_
  refine rf_iconst (n := 2) (0 : Int32) dX9_flop_1 cciconst_0 rfl ?_
  refine rf_pfI (n := 5) hG rfl dX9_flop_2 flX9_103 ki_9_0 nf_9_0 sS_57 kk_57 rfl (fun m1 => ?_)
  refine rf_aload_n (n := 6) 0 dX9_flop_5 rfl rfl rfl ?_
  refine rf_iload_n (n := 7) 1 dX9_flop_6 rfl rfl rfl ?_
  refine rf_cV1I (n := 10) hG (okX9_isCell _ _) lVX9_252 hhX9_isCell kk_57 sS_57 ⟨_, rfl, rfl⟩ dX9_flop_7 rfl (Nat.le_of_ble_eq_true rfl) (Nat.le_of_ble_eq_true rfl) (fun v2 m3 => ?_)
  refine rf_if_ne (tg := 15) (n := 13) dX9_flop_10 rfl rfl (fun c9 => ?_) (fun c9 => ?_)
  · refine rf_aload_n (n := 16) 0 dX9_flop_15 rfl rfl rfl ?_
    refine rf_cV0V (n := 19) hG (okX9_remembers _) lVX9_245 hhX9_remembers kk_57 sS_57 ⟨_, rfl, rfl⟩ dX9_flop_16 rfl (Nat.le_of_ble_eq_true rfl) (Nat.le_of_ble_eq_true rfl) (fun _ m5 => ?_)
    refine rf_aload_n (n := 20) 0 dX9_flop_19 rfl rfl rfl ?_
    refine rf_getR (n := 23) rr_57_28 kk_74 hG dX9_flop_20 flX9_63 ki_9_28 sS_57 kk_57 rfl ?_
    refine rf_bipush (n := 25) (9 : Int32) dX9_flop_23 ccbipush_9 rfl ?_
    refine rf_iload_n (n := 26) 1 dX9_flop_25 rfl rfl rfl ?_
    refine rf_iadd (n := 27) dX9_flop_26 rfl ?_
    refine rf_iconst (n := 28) (1 : Int32) dX9_flop_27 cciconst_1 rfl ?_
    refine rf_aload_n (n := 29) 0 dX9_flop_28 rfl rfl rfl ?_
    refine rf_getR (n := 32) rr_57_28 kk_74 hG dX9_flop_29 flX9_63 ki_9_28 sS_57 kk_57 rfl ?_
    refine rf_bipush (n := 34) (9 : Int32) dX9_flop_32 ccbipush_9 rfl ?_
    refine rf_iload_n (n := 35) 1 dX9_flop_34 rfl rfl rfl ?_
    refine rf_iadd (n := 36) dX9_flop_35 rfl ?_
    refine rf_iald (n := 37) hG dX9_flop_36 sS_74 kk_74 rfl (fun v6 => ?_)
    refine rf_isub (n := 38) dX9_flop_37 rfl ?_
    refine rf_iast (n := 39) hG dX9_flop_38 sS_74 kk_74 rfl (fun m7 => ?_)
    refine rf_aload_n (n := 40) 0 dX9_flop_39 rfl rfl rfl ?_
    refine rf_getR (n := 43) rr_57_28 kk_74 hG dX9_flop_40 flX9_63 ki_9_28 sS_57 kk_57 rfl ?_
    refine rf_bipush (n := 45) (9 : Int32) dX9_flop_43 ccbipush_9 rfl ?_
    refine rf_iload_n (n := 46) 1 dX9_flop_45 rfl rfl rfl ?_
    refine rf_iadd (n := 47) dX9_flop_46 rfl ?_
    refine rf_iald (n := 48) hG dX9_flop_47 sS_74 kk_74 rfl (fun v8 => ?_)
    exact rf_retI rfl dX9_flop_48
  · refine rf_iconst (n := 14) (-1 : Int32) dX9_flop_13 cciconst_m1 rfl ?_
    exact rf_retI rfl dX9_flop_14
def fX8_skew_K10 (μ : ax_M) : Option (Int32 × ax_M) :=
  (some ((-1 : Int32), μ))
theorem pX8_skew_K10 {x : ax_X} {G : ax_G} (hG : ax_ok G) (μ : ax_M) : ax_Rf mX8_skew 4 x (ax_Z ax_jI x G) G 0 0 10 [none, none, none] [] μ (fX8_skew_K10 μ) := by
  unfold fX8_skew_K10
  refine rf_iconst (n := 11) (-1 : Int32) dX8_skew_10 cciconst_m1 rfl ?_
  exact rf_retI rfl dX8_skew_11
def fX8_skew (p1 : Int32) (μ : ax_M) : Option (Int32 × ax_M) :=
  (if p1 < 0 then (fX8_skew_K10 μ) else (if p1 ≤ (99 : Int32) then (ax_let (μ.1 2 17) (fun v1 => (ax_bd (fX8_beginChange μ) (fun _ m3 => (ax_let (ax_wi m3 2 17 p1) (fun m4 => (some (v1, m4)))))))) else (fX8_skew_K10 μ)))
theorem okX8_skew (p1 : Int32) (μ : ax_M) : ax_Ok mX8_skew 4 ax_jI [.ref 0, .int p1] μ (fX8_skew p1 μ) := by
  refine ax_start (lc := [some (.ref 0), some (.int p1), none]) 1 (by decide +kernel) rfl (Nat.le_of_ble_eq_true rfl) (fun x G hG => ?_)
  unfold fX8_skew
  refine rf_iload_n (n := 1) 1 dX8_skew_0 rfl rfl rfl ?_
  refine rf_if_lt (tg := 10) (n := 4) dX8_skew_1 rfl rfl (fun c6 => ?_) (fun c6 => ?_)
  · refine rf_mask (lc2 := [none, none, none]) [false, false, true] rfl ?_
    exact pX8_skew_K10 hG _
  · refine rf_iload_n (n := 5) 1 dX8_skew_4 rfl rfl rfl ?_
    refine rf_bipush (n := 7) (99 : Int32) dX8_skew_5 ccbipush_99 rfl ?_
    refine rf_icmp_le (tg := 12) (n := 10) dX8_skew_7 rfl rfl (fun c5 => ?_) (fun c5 => ?_)
    · refine rf_aload_n (n := 13) 0 dX8_skew_12 rfl rfl rfl ?_
      refine rf_getR (n := 16) rr_0_2 kk_2 hG dX8_skew_13 flX8_16 ki_8_2 sS_0 kk_0 rfl ?_
      refine rf_getI (n := 19) hG dX8_skew_16 flX8_161 ki_1_17 sS_2 kk_2 rfl ?_
      refine rf_letI (fun v1 => ?_)
      refine rf_istore_n (lc2 := [some (.ref 0), some (.int p1), some (.int v1)]) (n := 20) 2 dX8_skew_19 rfl rfl (Nat.le_of_ble_eq_true rfl) rfl rfl ?_
      refine rf_aload_n (n := 21) 0 dX8_skew_20 rfl rfl rfl ?_
      refine rf_cV0V (n := 24) hG (okX8_beginChange _) lVX8_131 hhX8_beginChange kk_0 sS_0 ⟨_, rfl, rfl⟩ dX8_skew_21 rfl (Nat.le_of_ble_eq_true rfl) (Nat.le_of_ble_eq_true rfl) (fun _ m3 => ?_)
      refine rf_aload_n (n := 25) 0 dX8_skew_24 rfl rfl rfl ?_
      refine rf_getR (n := 28) rr_0_2 kk_2 hG dX8_skew_25 flX8_16 ki_8_2 sS_0 kk_0 rfl ?_
      refine rf_iload_n (n := 29) 1 dX8_skew_28 rfl rfl rfl ?_
      refine rf_pfI (n := 32) hG rfl dX8_skew_29 flX8_161 ki_1_17 nf_1_17 sS_2 kk_2 rfl (fun m4 => ?_)
      refine rf_iload_n (n := 33) 2 dX8_skew_32 rfl rfl rfl ?_
      exact rf_retI rfl dX8_skew_33
    · refine rf_mask (lc2 := [none, none, none]) [false, false, true] rfl ?_
      exact pX8_skew_K10 hG _
def fX9_skew_K15 (μ : ax_M) : Option (Int32 × ax_M) :=
  (some ((-1 : Int32), μ))
theorem pX9_skew_K15 {x : ax_X} {G : ax_G} (hG : ax_ok G) (μ : ax_M) : ax_Rf mX9_skew 2 x (ax_Z ax_jI x G) G 0 0 15 [none, none, none] [] μ (fX9_skew_K15 μ) := by
  unfold fX9_skew_K15
  refine rf_iconst (n := 16) (-1 : Int32) dX9_skew_15 cciconst_m1 rfl ?_
  exact rf_retI rfl dX9_skew_16
def fX9_skew (p1 : Int32) (μ : ax_M) : Option (Int32 × ax_M) :=
  (ax_let (ax_wi μ 57 0 (0 : Int32)) (fun m1 => (if p1 < 0 then (fX9_skew_K15 m1) else (if p1 ≤ (99 : Int32) then (Option.bind (ax_rd m1 74 68 (67 : Int32)) (fun v2 => (ax_bd (fX9_remembers m1) (fun _ m4 => (Option.bind (ax_wr m4 74 68 (67 : Int32) p1) (fun m5 => (some (v2, m5)))))))) else (fX9_skew_K15 m1)))))
theorem okX9_skew (p1 : Int32) (μ : ax_M) : ax_Ok mX9_skew 2 ax_jI [.ref 57, .int p1] μ (fX9_skew p1 μ) := by
  refine ax_start (lc := [some (.ref 57), some (.int p1), none]) 1 (by decide +kernel) rfl (Nat.le_of_ble_eq_true rfl) (fun x G hG => ?_)
  unfold fX9_skew
  refine rf_aload_n (n := 1) 0 dX9_skew_0 rfl rfl rfl ?_
  refine rf_iconst (n := 2) (0 : Int32) dX9_skew_1 cciconst_0 rfl ?_
  refine rf_pfI (n := 5) hG rfl dX9_skew_2 flX9_103 ki_9_0 nf_9_0 sS_57 kk_57 rfl (fun m1 => ?_)
  refine rf_iload_n (n := 6) 1 dX9_skew_5 rfl rfl rfl ?_
  refine rf_if_lt (tg := 15) (n := 9) dX9_skew_6 rfl rfl (fun c7 => ?_) (fun c7 => ?_)
  · refine rf_mask (lc2 := [none, none, none]) [false, false, true] rfl ?_
    exact pX9_skew_K15 hG _
  · refine rf_iload_n (n := 10) 1 dX9_skew_9 rfl rfl rfl ?_
    refine rf_bipush (n := 12) (99 : Int32) dX9_skew_10 ccbipush_99 rfl ?_
    refine rf_icmp_le (tg := 17) (n := 15) dX9_skew_12 rfl rfl (fun c6 => ?_) (fun c6 => ?_)
    · refine rf_aload_n (n := 18) 0 dX9_skew_17 rfl rfl rfl ?_
      refine rf_getR (n := 21) rr_57_28 kk_74 hG dX9_skew_18 flX9_63 ki_9_28 sS_57 kk_57 rfl ?_
      refine rf_bipush (n := 23) (67 : Int32) dX9_skew_21 ccbipush_67 rfl ?_
      refine rf_iald (n := 24) hG dX9_skew_23 sS_74 kk_74 rfl (fun v2 => ?_)
      refine rf_istore_n (lc2 := [some (.ref 57), some (.int p1), some (.int v2)]) (n := 25) 2 dX9_skew_24 rfl rfl (Nat.le_of_ble_eq_true rfl) rfl rfl ?_
      refine rf_aload_n (n := 26) 0 dX9_skew_25 rfl rfl rfl ?_
      refine rf_cV0V (n := 29) hG (okX9_remembers _) lVX9_245 hhX9_remembers kk_57 sS_57 ⟨_, rfl, rfl⟩ dX9_skew_26 rfl (Nat.le_of_ble_eq_true rfl) (Nat.le_of_ble_eq_true rfl) (fun _ m4 => ?_)
      refine rf_aload_n (n := 30) 0 dX9_skew_29 rfl rfl rfl ?_
      refine rf_getR (n := 33) rr_57_28 kk_74 hG dX9_skew_30 flX9_63 ki_9_28 sS_57 kk_57 rfl ?_
      refine rf_bipush (n := 35) (67 : Int32) dX9_skew_33 ccbipush_67 rfl ?_
      refine rf_iload_n (n := 36) 1 dX9_skew_35 rfl rfl rfl ?_
      refine rf_iast (n := 37) hG dX9_skew_36 sS_74 kk_74 rfl (fun m5 => ?_)
      refine rf_iload_n (n := 38) 2 dX9_skew_37 rfl rfl rfl ?_
      exact rf_retI rfl dX9_skew_38
    · refine rf_mask (lc2 := [none, none, none]) [false, false, true] rfl ?_
      exact pX9_skew_K15 hG _
