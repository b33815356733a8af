def fX8_putFour_B3 (l1 : Int32) (r3 : Int32 → ax_M → Option (Unit × ax_M)) (l2 : Int32) (μ : ax_M) : Option (Unit × ax_M) :=
  (if l2 < 0 then (some ((), μ)) else (Option.bind (ax_wr μ 1 700 (μ.1 0 1) ((ax_us l1 l2) &&& (255 : Int32))) (fun m1 => (ax_let (ax_wi m1 0 1 ((m1.1 0 1) + (1 : Int32))) (fun m2 => (r3 (l2 + (-8 : Int32)) m2))))))
theorem pX8_putFour_B3 {x : ax_X} {G : ax_G} (hG : ax_ok G) (l1 : Int32) (r3 : Int32 → ax_M → Option (Unit × ax_M)) (hr3 : ∀ (a2 : Int32) (μ : ax_M), ax_Rf mX8_putFour 0 x (ax_Z ax_jV x G) G 0 0 3 [some (.ref 0), some (.int l1), some (.int a2)] [] μ (r3 a2 μ)) (l2 : Int32) (μ : ax_M) : ax_Rf mX8_putFour 0 x (ax_Z ax_jV x G) G 0 0 3 [some (.ref 0), some (.int l1), some (.int l2)] [] μ (fX8_putFour_B3 l1 r3 l2 μ) := by
  unfold fX8_putFour_B3
  refine rf_iload_n (n := 4) 2 dX8_putFour_3 rfl rfl rfl ?_
  refine rf_if_lt (tg := 39) (n := 7) dX8_putFour_4 rfl rfl (fun c3 => ?_) (fun c3 => ?_)
  · exact rf_retV rfl dX8_putFour_39
  · refine rf_aload_n (n := 8) 0 dX8_putFour_7 rfl rfl rfl ?_
    refine rf_getR (n := 11) rr_0_0 kk_1 hG dX8_putFour_8 flX8_9 ki_8_0 sS_0 kk_0 rfl ?_
    refine rf_aload_n (n := 12) 0 dX8_putFour_11 rfl rfl rfl ?_
    refine rf_getI (n := 15) hG dX8_putFour_12 flX8_68 ki_8_1 sS_0 kk_0 rfl ?_
    refine rf_iload_n (n := 16) 1 dX8_putFour_15 rfl rfl rfl ?_
    refine rf_iload_n (n := 17) 2 dX8_putFour_16 rfl rfl rfl ?_
    refine rf_iushr (n := 18) dX8_putFour_17 rfl ?_
    refine rf_sipush (n := 21) (255 : Int32) dX8_putFour_18 ccsipush_255 rfl ?_
    refine rf_iand (n := 22) dX8_putFour_21 rfl ?_
    refine rf_iast (n := 23) hG dX8_putFour_22 sS_1 kk_1 rfl (fun m1 => ?_)
    refine rf_aload_n (n := 24) 0 dX8_putFour_23 rfl rfl rfl ?_
    refine rf_dupR (n := 25) dX8_putFour_24 rfl ?_
    refine rf_getI (n := 28) hG dX8_putFour_25 flX8_68 ki_8_1 sS_0 kk_0 rfl ?_
    refine rf_iconst (n := 29) (1 : Int32) dX8_putFour_28 cciconst_1 rfl ?_
    refine rf_iadd (n := 30) dX8_putFour_29 rfl ?_
    refine rf_pfI (n := 33) hG rfl dX8_putFour_30 flX8_68 ki_8_1 nf_8_1 sS_0 kk_0 rfl (fun m2 => ?_)
    refine rf_iinc (lc2 := [some (.ref 0), some (.int l1), some (.int (l2 + (-8 : Int32)))]) (n := 36) (w := (-8 : Int32)) 2 dX8_putFour_33 rfl rfl rfl (Nat.le_of_ble_eq_true rfl) rfl rfl ?_
    refine rf_goto (tg := 3) dX8_putFour_36 rfl ?_
    exact hr3 _ _
theorem pX8_putFour_L3 {x : ax_X} {G : ax_G} (hG : ax_ok G) (l1 : Int32) (n : Nat) (a2 : Int32) (μ : ax_M) : ax_Rf mX8_putFour 0 x (ax_Z ax_jV x G) G 0 0 3 [some (.ref 0), some (.int l1), some (.int a2)] [] μ (ax_lp1 (fX8_putFour_B3 l1) n a2 μ) :=
  rf_lp1 (P := fun a2 μ t => ax_Rf mX8_putFour 0 x (ax_Z ax_jV x G) G 0 0 3 [some (.ref 0), some (.int l1), some (.int a2)] [] μ t) (fun _ _ => rf_none) (fun rc hrc a2 μ => pX8_putFour_B3 hG l1 rc hrc a2 μ) n a2 μ
def fX8_putFour (p1 : Int32) (μ : ax_M) : Option (Unit × ax_M) :=
  (ax_lp1 (fX8_putFour_B3 p1) ax_FU (24 : Int32) μ)
theorem okX8_putFour (p1 : Int32) (μ : ax_M) : ax_Ok mX8_putFour 0 ax_jV [.ref 0, .int p1] μ (fX8_putFour p1 μ) := by
  refine ax_start (lc := [some (.ref 0), some (.int p1), none]) 1 (by decide) rfl (Nat.le_of_ble_eq_true rfl) (fun x G hG => ?_)
  unfold fX8_putFour
  refine rf_bipush (n := 2) (24 : Int32) dX8_putFour_0 ccbipush_24 rfl ?_
  refine rf_istore_n (lc2 := [some (.ref 0), some (.int p1), some (.int (24 : Int32))]) (n := 3) 2 dX8_putFour_2 rfl rfl (Nat.le_of_ble_eq_true rfl) rfl rfl ?_
  exact pX8_putFour_L3 hG _ _ _ _
def fX8_feed (p1 : Int32) (p2 : Int32) (p3 : Int32) (p4 : Int32) (p5 : Int32) (μ : ax_M) : Option (Int32 × ax_M) :=
  (if ((μ.1 0 1) + (20 : Int32)) ≤ (700 : Int32) then (ax_bd (fX8_putFour p1 μ) (fun _ m2 => (ax_bd (fX8_putFour p2 m2) (fun _ m4 => (ax_bd (fX8_putFour p3 m4) (fun _ m6 => (ax_bd (fX8_putFour p4 m6) (fun _ m8 => (ax_bd (fX8_putFour p5 m8) (fun _ m10 => (some ((m10.1 0 1), m10)))))))))))) else (some ((-1 : Int32), μ)))
theorem okX8_feed (p1 : Int32) (p2 : Int32) (p3 : Int32) (p4 : Int32) (p5 : Int32) (μ : ax_M) : ax_Ok mX8_feed 1 ax_jI [.ref 0, .int p1, .int p2, .int p3, .int p4, .int p5] μ (fX8_feed p1 p2 p3 p4 p5 μ) := by
  refine ax_start (lc := [some (.ref 0), some (.int p1), some (.int p2), some (.int p3), some (.int p4), some (.int p5)]) 0 (by decide) rfl (Nat.le_of_ble_eq_true rfl) (fun x G hG => ?_)
  unfold fX8_feed
  refine rf_aload_n (n := 1) 0 dX8_feed_0 rfl rfl rfl ?_
  refine rf_getI (n := 4) hG dX8_feed_1 flX8_68 ki_8_1 sS_0 kk_0 rfl ?_
  refine rf_bipush (n := 6) (20 : Int32) dX8_feed_4 ccbipush_20 rfl ?_
  refine rf_iadd (n := 7) dX8_feed_6 rfl ?_
  refine rf_sipush (n := 10) (700 : Int32) dX8_feed_7 ccsipush_700 rfl ?_
  refine rf_icmp_le (tg := 15) (n := 13) dX8_feed_10 rfl rfl (fun c11 => ?_) (fun c11 => ?_)
  · refine rf_aload_n (n := 16) 0 dX8_feed_15 rfl rfl rfl ?_
    refine rf_iload_n (n := 17) 1 dX8_feed_16 rfl rfl rfl ?_
    refine rf_cV1V (n := 20) hG (okX8_putFour _ _) lVX8_72 hhX8_putFour kk_0 sS_0 ⟨_, rfl, rfl⟩ dX8_feed_17 rfl (Nat.le_of_ble_eq_true rfl) (Nat.le_of_ble_eq_true rfl) (fun _ m2 => ?_)
    refine rf_aload_n (n := 21) 0 dX8_feed_20 rfl rfl rfl ?_
    refine rf_iload_n (n := 22) 2 dX8_feed_21 rfl rfl rfl ?_
    refine rf_cV1V (n := 25) hG (okX8_putFour _ _) lVX8_72 hhX8_putFour kk_0 sS_0 ⟨_, rfl, rfl⟩ dX8_feed_22 rfl (Nat.le_of_ble_eq_true rfl) (Nat.le_of_ble_eq_true rfl) (fun _ m4 => ?_)
    refine rf_aload_n (n := 26) 0 dX8_feed_25 rfl rfl rfl ?_
    refine rf_iload_n (n := 27) 3 dX8_feed_26 rfl rfl rfl ?_
    refine rf_cV1V (n := 30) hG (okX8_putFour _ _) lVX8_72 hhX8_putFour kk_0 sS_0 ⟨_, rfl, rfl⟩ dX8_feed_27 rfl (Nat.le_of_ble_eq_true rfl) (Nat.le_of_ble_eq_true rfl) (fun _ m6 => ?_)
    refine rf_aload_n (n := 31) 0 dX8_feed_30 rfl rfl rfl ?_
    refine rf_iload (n := 33) 4 dX8_feed_31 rfl rfl ?_
    refine rf_cV1V (n := 36) hG (okX8_putFour _ _) lVX8_72 hhX8_putFour kk_0 sS_0 ⟨_, rfl, rfl⟩ dX8_feed_33 rfl (Nat.le_of_ble_eq_true rfl) (Nat.le_of_ble_eq_true rfl) (fun _ m8 => ?_)
    refine rf_aload_n (n := 37) 0 dX8_feed_36 rfl rfl rfl ?_
    refine rf_iload (n := 39) 5 dX8_feed_37 rfl rfl ?_
    refine rf_cV1V (n := 42) hG (okX8_putFour _ _) lVX8_72 hhX8_putFour kk_0 sS_0 ⟨_, rfl, rfl⟩ dX8_feed_39 rfl (Nat.le_of_ble_eq_true rfl) (Nat.le_of_ble_eq_true rfl) (fun _ m10 => ?_)
    refine rf_aload_n (n := 43) 0 dX8_feed_42 rfl rfl rfl ?_
    refine rf_getI (n := 46) hG dX8_feed_43 flX8_68 ki_8_1 sS_0 kk_0 rfl ?_
    exact rf_retI rfl dX8_feed_46
  · refine rf_iconst (n := 14) (-1 : Int32) dX8_feed_13 cciconst_m1 rfl ?_
    exact rf_retI rfl dX8_feed_14
def fX9_feed_K73 (l1 : Int32) (l2 : Int32) (l3 : Int32) (l4 : Int32) (l5 : Int32) (l6 : Int32) (s0 : Int32) (r20 : Int32 → ax_M → Option (Int32 × ax_M)) (μ : ax_M) : Option (Int32 × ax_M) :=
  (Option.bind (ax_rm l6 (4 : Int32)) (fun v3 => (Option.bind (ax_wr μ 58 700 ((μ.1 57 2) + l6) ((s0 >>> (((24 : Int32) - ((8 : Int32) * v3)) &&& 31)) &&& (255 : Int32))) (fun m4 => (r20 (l6 + (1 : Int32)) m4)))))
theorem pX9_feed_K73 {x : ax_X} {G : ax_G} (hG : ax_ok G) (l1 : Int32) (l2 : Int32) (l3 : Int32) (l4 : Int32) (l5 : Int32) (l6 : Int32) (s0 : Int32) (r20 : Int32 → ax_M → Option (Int32 × ax_M)) (hr20 : ∀ (a6 : Int32) (μ : ax_M), ax_Rf mX9_feed 0 x (ax_Z ax_jI x G) G 0 0 20 [some (.ref 57), some (.int l1), some (.int l2), some (.int l3), some (.int l4), some (.int l5), some (.int a6), none] [] μ (r20 a6 μ)) (μ : ax_M) : ax_Rf mX9_feed 0 x (ax_Z ax_jI x G) G 0 0 73 [some (.ref 57), some (.int l1), some (.int l2), some (.int l3), some (.int l4), some (.int l5), some (.int l6), none] [.int s0] μ (fX9_feed_K73 l1 l2 l3 l4 l5 l6 s0 r20 μ) := by
  unfold fX9_feed_K73
  refine rf_istore (lc2 := [some (.ref 57), some (.int l1), some (.int l2), some (.int l3), some (.int l4), some (.int l5), some (.int l6), some (.int s0)]) (n := 75) 7 dX9_feed_73 rfl (Nat.le_of_ble_eq_true rfl) rfl rfl ?_
  refine rf_aload_n (n := 76) 0 dX9_feed_75 rfl rfl rfl ?_
  refine rf_getR (n := 79) rr_57_1 kk_58 hG dX9_feed_76 flX9_7 ki_9_1 sS_57 kk_57 rfl ?_
  refine rf_aload_n (n := 80) 0 dX9_feed_79 rfl rfl rfl ?_
  refine rf_getI (n := 83) hG dX9_feed_80 flX9_106 ki_9_2 sS_57 kk_57 rfl ?_
  refine rf_iload (n := 85) 6 dX9_feed_83 rfl rfl ?_
  refine rf_iadd (n := 86) dX9_feed_85 rfl ?_
  refine rf_iload (n := 88) 7 dX9_feed_86 rfl rfl ?_
  refine rf_bipush (n := 90) (24 : Int32) dX9_feed_88 ccbipush_24 rfl ?_
  refine rf_bipush (n := 92) (8 : Int32) dX9_feed_90 ccbipush_8 rfl ?_
  refine rf_iload (n := 94) 6 dX9_feed_92 rfl rfl ?_
  refine rf_iconst (n := 95) (4 : Int32) dX9_feed_94 cciconst_4 rfl ?_
  refine rf_irem (n := 96) dX9_feed_95 rfl (fun v3 => ?_)
  refine rf_imul (n := 97) dX9_feed_96 rfl ?_
  refine rf_isub (n := 98) dX9_feed_97 rfl ?_
  refine rf_ishr (n := 99) dX9_feed_98 rfl ?_
  refine rf_sipush (n := 102) (255 : Int32) dX9_feed_99 ccsipush_255 rfl ?_
  refine rf_iand (n := 103) dX9_feed_102 rfl ?_
  refine rf_iast (n := 104) hG dX9_feed_103 sS_58 kk_58 rfl (fun m4 => ?_)
  refine rf_iinc (lc2 := [some (.ref 57), some (.int l1), some (.int l2), some (.int l3), some (.int l4), some (.int l5), some (.int (l6 + (1 : Int32))), some (.int s0)]) (n := 107) (w := (1 : Int32)) 6 dX9_feed_104 rfl rfl rfl (Nat.le_of_ble_eq_true rfl) rfl rfl ?_
  refine rf_goto (tg := 20) dX9_feed_107 rfl ?_
  refine rf_mask (lc2 := [some (.ref 57), some (.int l1), some (.int l2), some (.int l3), some (.int l4), some (.int l5), some (.int (l6 + (1 : Int32))), none]) [true, true, true, true, true, true, true, false] rfl ?_
  exact hr20 _ _
def fX9_feed_B20 (l1 : Int32) (l2 : Int32) (l3 : Int32) (l4 : Int32) (l5 : Int32) (r20 : Int32 → ax_M → Option (Int32 × ax_M)) (l6 : Int32) (μ : ax_M) : Option (Int32 × ax_M) :=
  (if (20 : Int32) ≤ l6 then (ax_let (ax_wi μ 57 2 ((μ.1 57 2) + (20 : Int32))) (fun m2 => (some ((m2.1 57 2), m2)))) else (if (4 : Int32) ≤ l6 then (if (8 : Int32) ≤ l6 then (if (12 : Int32) ≤ l6 then (if (16 : Int32) ≤ l6 then (fX9_feed_K73 l1 l2 l3 l4 l5 l6 l5 r20 μ) else (fX9_feed_K73 l1 l2 l3 l4 l5 l6 l4 r20 μ)) else (fX9_feed_K73 l1 l2 l3 l4 l5 l6 l3 r20 μ)) else (fX9_feed_K73 l1 l2 l3 l4 l5 l6 l2 r20 μ)) else (fX9_feed_K73 l1 l2 l3 l4 l5 l6 l1 r20 μ)))
theorem pX9_feed_B20 {x : ax_X} {G : ax_G} (hG : ax_ok G) (l1 : Int32) (l2 : Int32) (l3 : Int32) (l4 : Int32) (l5 : Int32) (r20 : Int32 → ax_M → Option (Int32 × ax_M)) (hr20 : ∀ (a6 : Int32) (μ : ax_M), ax_Rf mX9_feed 0 x (ax_Z ax_jI x G) G 0 0 20 [some (.ref 57), some (.int l1), some (.int l2), some (.int l3), some (.int l4), some (.int l5), some (.int a6), none] [] μ (r20 a6 μ)) (l6 : Int32) (μ : ax_M) : ax_Rf mX9_feed 0 x (ax_Z ax_jI x G) G 0 0 20 [some (.ref 57), some (.int l1), some (.int l2), some (.int l3), some (.int l4), some (.int l5), some (.int l6), none] [] μ (fX9_feed_B20 l1 l2 l3 l4 l5 r20 l6 μ) := by
  unfold fX9_feed_B20
  refine rf_iload (n := 22) 6 dX9_feed_20 rfl rfl ?_
  refine rf_bipush (n := 24) (20 : Int32) dX9_feed_22 ccbipush_20 rfl ?_
  refine rf_icmp_ge (tg := 110) (n := 27) dX9_feed_24 rfl rfl (fun c9 => ?_) (fun c9 => ?_)
  · refine rf_aload_n (n := 111) 0 dX9_feed_110 rfl rfl rfl ?_
    refine rf_dupR (n := 112) dX9_feed_111 rfl ?_
    refine rf_getI (n := 115) hG dX9_feed_112 flX9_106 ki_9_2 sS_57 kk_57 rfl ?_
    refine rf_bipush (n := 117) (20 : Int32) dX9_feed_115 ccbipush_20 rfl ?_
    refine rf_iadd (n := 118) dX9_feed_117 rfl ?_
    refine rf_pfI (n := 121) hG rfl dX9_feed_118 flX9_106 ki_9_2 nf_9_2 sS_57 kk_57 rfl (fun m2 => ?_)
    refine rf_aload_n (n := 122) 0 dX9_feed_121 rfl rfl rfl ?_
    refine rf_getI (n := 125) hG dX9_feed_122 flX9_106 ki_9_2 sS_57 kk_57 rfl ?_
    exact rf_retI rfl dX9_feed_125
  · refine rf_iload (n := 29) 6 dX9_feed_27 rfl rfl ?_
    refine rf_iconst (n := 30) (4 : Int32) dX9_feed_29 cciconst_4 rfl ?_
    refine rf_icmp_ge (tg := 37) (n := 33) dX9_feed_30 rfl rfl (fun c8 => ?_) (fun c8 => ?_)
    · refine rf_iload (n := 39) 6 dX9_feed_37 rfl rfl ?_
      refine rf_bipush (n := 41) (8 : Int32) dX9_feed_39 ccbipush_8 rfl ?_
      refine rf_icmp_ge (tg := 48) (n := 44) dX9_feed_41 rfl rfl (fun c7 => ?_) (fun c7 => ?_)
      · refine rf_iload (n := 50) 6 dX9_feed_48 rfl rfl ?_
        refine rf_bipush (n := 52) (12 : Int32) dX9_feed_50 ccbipush_12 rfl ?_
        refine rf_icmp_ge (tg := 59) (n := 55) dX9_feed_52 rfl rfl (fun c6 => ?_) (fun c6 => ?_)
        · refine rf_iload (n := 61) 6 dX9_feed_59 rfl rfl ?_
          refine rf_bipush (n := 63) (16 : Int32) dX9_feed_61 ccbipush_16 rfl ?_
          refine rf_icmp_ge (tg := 71) (n := 66) dX9_feed_63 rfl rfl (fun c5 => ?_) (fun c5 => ?_)
          · refine rf_iload (n := 73) 5 dX9_feed_71 rfl rfl ?_
            exact pX9_feed_K73 hG _ _ _ _ _ _ _ r20 hr20 _
          · refine rf_iload (n := 68) 4 dX9_feed_66 rfl rfl ?_
            refine rf_goto (tg := 73) dX9_feed_68 rfl ?_
            exact pX9_feed_K73 hG _ _ _ _ _ _ _ r20 hr20 _
        · refine rf_iload_n (n := 56) 3 dX9_feed_55 rfl rfl rfl ?_
          refine rf_goto (tg := 73) dX9_feed_56 rfl ?_
          exact pX9_feed_K73 hG _ _ _ _ _ _ _ r20 hr20 _
      · refine rf_iload_n (n := 45) 2 dX9_feed_44 rfl rfl rfl ?_
        refine rf_goto (tg := 73) dX9_feed_45 rfl ?_
        exact pX9_feed_K73 hG _ _ _ _ _ _ _ r20 hr20 _
    · refine rf_iload_n (n := 34) 1 dX9_feed_33 rfl rfl rfl ?_
      refine rf_goto (tg := 73) dX9_feed_34 rfl ?_
      exact pX9_feed_K73 hG _ _ _ _ _ _ _ r20 hr20 _
theorem pX9_feed_L20 {x : ax_X} {G : ax_G} (hG : ax_ok G) (l1 : Int32) (l2 : Int32) (l3 : Int32) (l4 : Int32) (l5 : Int32) (n : Nat) (a6 : Int32) (μ : ax_M) : ax_Rf mX9_feed 0 x (ax_Z ax_jI x G) G 0 0 20 [some (.ref 57), some (.int l1), some (.int l2), some (.int l3), some (.int l4), some (.int l5), some (.int a6), none] [] μ (ax_lp1 (fX9_feed_B20 l1 l2 l3 l4 l5) n a6 μ) :=
  rf_lp1 (P := fun a6 μ t => ax_Rf mX9_feed 0 x (ax_Z ax_jI x G) G 0 0 20 [some (.ref 57), some (.int l1), some (.int l2), some (.int l3), some (.int l4), some (.int l5), some (.int a6), none] [] μ t) (fun _ _ => rf_none) (fun rc hrc a6 μ => pX9_feed_B20 hG l1 l2 l3 l4 l5 rc hrc a6 μ) n a6 μ
def fX9_feed (p1 : Int32) (p2 : Int32) (p3 : Int32) (p4 : Int32) (p5 : Int32) (μ : ax_M) : Option (Int32 × ax_M) :=
  (ax_let (ax_wi μ 57 0 (0 : Int32)) (fun m1 => (if (m1.1 57 2) ≤ (680 : Int32) then (ax_lp1 (fX9_feed_B20 p1 p2 p3 p4 p5) ax_FU (0 : Int32) m1) else (some ((-1 : Int32), m1)))))
theorem okX9_feed (p1 : Int32) (p2 : Int32) (p3 : Int32) (p4 : Int32) (p5 : Int32) (μ : ax_M) : ax_Ok mX9_feed 0 ax_jI [.ref 57, .int p1, .int p2, .int p3, .int p4, .int p5] μ (fX9_feed p1 p2 p3 p4 p5 μ) := by
  refine ax_start (lc := [some (.ref 57), some (.int p1), some (.int p2), some (.int p3), some (.int p4), some (.int p5), none, none]) 2 (by decide) rfl (Nat.le_of_ble_eq_true rfl) (fun x G hG => ?_)
  unfold fX9_feed
  refine rf_aload_n (n := 1) 0 dX9_feed_0 rfl rfl rfl ?_
  refine rf_iconst (n := 2) (0 : Int32) dX9_feed_1 cciconst_0 rfl ?_
  refine rf_pfI (n := 5) hG rfl dX9_feed_2 flX9_103 ki_9_0 nf_9_0 sS_57 kk_57 rfl (fun m1 => ?_)
  refine rf_aload_n (n := 6) 0 dX9_feed_5 rfl rfl rfl ?_
  refine rf_getI (n := 9) hG dX9_feed_6 flX9_106 ki_9_2 sS_57 kk_57 rfl ?_
  refine rf_sipush (n := 12) (680 : Int32) dX9_feed_9 ccsipush_680 rfl ?_
  refine rf_icmp_le (tg := 17) (n := 15) dX9_feed_12 rfl rfl (fun c10 => ?_) (fun c10 => ?_)
  · refine rf_iconst (n := 18) (0 : Int32) dX9_feed_17 cciconst_0 rfl ?_
    refine rf_istore (lc2 := [some (.ref 57), some (.int p1), some (.int p2), some (.int p3), some (.int p4), some (.int p5), some (.int (0 : Int32)), none]) (n := 20) 6 dX9_feed_18 rfl (Nat.le_of_ble_eq_true rfl) rfl rfl ?_
    exact pX9_feed_L20 hG _ _ _ _ _ _ _ _
  · refine rf_iconst (n := 16) (-1 : Int32) dX9_feed_15 cciconst_m1 rfl ?_
    exact rf_retI rfl dX9_feed_16
def fX8_fault_K28 (s0 : Int32) (μ : ax_M) : Option (Int32 × ax_M) :=
  (some (s0, μ))
theorem pX8_fault_K28 {x : ax_X} {G : ax_G} (hG : ax_ok G) (s0 : Int32) (μ : ax_M) : ax_Rf mX8_fault 0 x (ax_Z ax_jI x G) G 0 0 28 [none, none] [.int s0] μ (fX8_fault_K28 s0 μ) := by
  unfold fX8_fault_K28
  exact rf_retI rfl dX8_fault_28
def fX8_fault (p1 : Int32) (μ : ax_M) : Option (Int32 × ax_M) :=
  (if p1 = 0 then (some ((μ.1 15 2), μ)) else (if p1 = (1 : Int32) then (fX8_fault_K28 (μ.1 15 3) μ) else (fX8_fault_K28 (-1 : Int32) μ)))
theorem okX8_fault (p1 : Int32) (μ : ax_M) : ax_Ok mX8_fault 0 ax_jI [.ref 0, .int p1] μ (fX8_fault p1 μ) := by
  refine ax_start (lc := [some (.ref 0), some (.int p1)]) 0 (by decide) rfl (Nat.le_of_ble_eq_true rfl) (fun x G hG => ?_)
  unfold fX8_fault
  refine rf_iload_n (n := 1) 1 dX8_fault_0 rfl rfl rfl ?_
  refine rf_if_ne (tg := 12) (n := 4) dX8_fault_1 rfl rfl (fun c2 => ?_) (fun c2 => ?_)
  · refine rf_iload_n (n := 13) 1 dX8_fault_12 rfl rfl rfl ?_
    refine rf_iconst (n := 14) (1 : Int32) dX8_fault_13 cciconst_1 rfl ?_
    refine rf_icmp_ne (tg := 27) (n := 17) dX8_fault_14 rfl rfl (fun c1 => ?_) (fun c1 => ?_)
    · refine rf_iconst (n := 28) (-1 : Int32) dX8_fault_27 cciconst_m1 rfl ?_
      refine rf_mask (lc2 := [none, none]) [false, false] rfl ?_
      exact pX8_fault_K28 hG _ _
    · refine rf_aload_n (n := 18) 0 dX8_fault_17 rfl rfl rfl ?_
      refine rf_getR (n := 21) rr_0_3 kk_15 hG dX8_fault_18 flX8_25 ki_8_3 sS_0 kk_0 rfl ?_
      refine rf_getI (n := 24) hG dX8_fault_21 flX8_102 ki_3_3 sS_15 kk_15 rfl ?_
      refine rf_goto (tg := 28) dX8_fault_24 rfl ?_
      refine rf_mask (lc2 := [none, none]) [false, false] rfl ?_
      exact pX8_fault_K28 hG _ _
  · refine rf_aload_n (n := 5) 0 dX8_fault_4 rfl rfl rfl ?_
    refine rf_getR (n := 8) rr_0_3 kk_15 hG dX8_fault_5 flX8_25 ki_8_3 sS_0 kk_0 rfl ?_
    refine rf_getI (n := 11) hG dX8_fault_8 flX8_99 ki_3_2 sS_15 kk_15 rfl ?_
    exact rf_retI rfl dX8_fault_11
def fX9_fault_K29 (s0 : Int32) (μ : ax_M) : Option (Int32 × ax_M) :=
  (some (s0, μ))
theorem pX9_fault_K29 {x : ax_X} {G : ax_G} (hG : ax_ok G) (s0 : Int32) (μ : ax_M) : ax_Rf mX9_fault 0 x (ax_Z ax_jI x G) G 0 0 29 [none, none] [.int s0] μ (fX9_fault_K29 s0 μ) := by
  unfold fX9_fault_K29
  exact rf_retI rfl dX9_fault_29
def fX9_fault (p1 : Int32) (μ : ax_M) : Option (Int32 × ax_M) :=
  (ax_let (ax_wi μ 57 0 (0 : Int32)) (fun m1 => (if p1 = 0 then (fX9_fault_K29 (m1.1 57 26) m1) else (if p1 = (1 : Int32) then (fX9_fault_K29 (m1.1 57 27) m1) else (fX9_fault_K29 (-1 : Int32) m1)))))
theorem okX9_fault (p1 : Int32) (μ : ax_M) : ax_Ok mX9_fault 0 ax_jI [.ref 57, .int p1] μ (fX9_fault p1 μ) := by
  refine ax_start (lc := [some (.ref 57), some (.int p1)]) 0 (by decide) rfl (Nat.le_of_ble_eq_true rfl) (fun x G hG => ?_)
  unfold fX9_fault
  refine rf_aload_n (n := 1) 0 dX9_fault_0 rfl rfl rfl ?_
  refine rf_iconst (n := 2) (0 : Int32) dX9_fault_1 cciconst_0 rfl ?_
  refine rf_pfI (n := 5) hG rfl dX9_fault_2 flX9_103 ki_9_0 nf_9_0 sS_57 kk_57 rfl (fun m1 => ?_)
  refine rf_iload_n (n := 6) 1 dX9_fault_5 rfl rfl rfl ?_
  refine rf_if_ne (tg := 16) (n := 9) dX9_fault_6 rfl rfl (fun c3 => ?_) (fun c3 => ?_)
  · refine rf_iload_n (n := 17) 1 dX9_fault_16 rfl rfl rfl ?_
    refine rf_iconst (n := 18) (1 : Int32) dX9_fault_17 cciconst_1 rfl ?_
    refine rf_icmp_ne (tg := 28) (n := 21) dX9_fault_18 rfl rfl (fun c2 => ?_) (fun c2 => ?_)
    · refine rf_iconst (n := 29) (-1 : Int32) dX9_fault_28 cciconst_m1 rfl ?_
      refine rf_mask (lc2 := [none, none]) [false, false] rfl ?_
      exact pX9_fault_K29 hG _ _
    · refine rf_aload_n (n := 22) 0 dX9_fault_21 rfl rfl rfl ?_
      refine rf_getI (n := 25) hG dX9_fault_22 flX9_59 ki_9_27 sS_57 kk_57 rfl ?_
      refine rf_goto (tg := 29) dX9_fault_25 rfl ?_
      refine rf_mask (lc2 := [none, none]) [false, false] rfl ?_
      exact pX9_fault_K29 hG _ _
  · refine rf_aload_n (n := 10) 0 dX9_fault_9 rfl rfl rfl ?_
    refine rf_getI (n := 13) hG dX9_fault_10 flX9_220 ki_9_26 sS_57 kk_57 rfl ?_
    refine rf_goto (tg := 29) dX9_fault_13 rfl ?_
    refine rf_mask (lc2 := [none, none]) [false, false] rfl ?_
    exact pX9_fault_K29 hG _ _
def fX8_find_B2 (l1 : Int32) (l2 : Int32) (r2 : Int32 → ax_M → Option (Int32 × ax_M)) (l3 : Int32) (μ : ax_M) : Option (Int32 × ax_M) :=
  (if l1 ≤ l3 then (some ((-1 : Int32), μ)) else (Option.bind (ax_rd μ 6 10 l3) (fun v1 => (if v1 = l2 then (some (l3, μ)) else (r2 (l3 + (1 : Int32)) μ)))))
theorem pX8_find_B2 {x : ax_X} {G : ax_G} (hG : ax_ok G) (l1 : Int32) (l2 : Int32) (r2 : Int32 → ax_M → Option (Int32 × ax_M)) (hr2 : ∀ (a3 : Int32) (μ : ax_M), ax_Rf mX8_find 0 x (ax_Z ax_jI x G) G 0 0 2 [some (.ref 6), some (.int l1), some (.int l2), some (.int a3)] [] μ (r2 a3 μ)) (l3 : Int32) (μ : ax_M) : ax_Rf mX8_find 0 x (ax_Z ax_jI x G) G 0 0 2 [some (.ref 6), some (.int l1), some (.int l2), some (.int l3)] [] μ (fX8_find_B2 l1 l2 r2 l3 μ) := by
  unfold fX8_find_B2
  refine rf_iload_n (n := 3) 3 dX8_find_2 rfl rfl rfl ?_
  refine rf_iload_n (n := 4) 1 dX8_find_3 rfl rfl rfl ?_
  refine rf_icmp_ge (tg := 22) (n := 7) dX8_find_4 rfl rfl (fun c3 => ?_) (fun c3 => ?_)
  · refine rf_iconst (n := 23) (-1 : Int32) dX8_find_22 cciconst_m1 rfl ?_
    exact rf_retI rfl dX8_find_23
  · refine rf_aload_n (n := 8) 0 dX8_find_7 rfl rfl rfl ?_
    refine rf_iload_n (n := 9) 3 dX8_find_8 rfl rfl rfl ?_
    refine rf_iald (n := 10) hG dX8_find_9 sS_6 kk_6 rfl (fun v1 => ?_)
    refine rf_iload_n (n := 11) 2 dX8_find_10 rfl rfl rfl ?_
    refine rf_icmp_ne (tg := 16) (n := 14) dX8_find_11 rfl rfl (fun c2 => ?_) (fun c2 => ?_)
    · refine rf_iinc (lc2 := [some (.ref 6), some (.int l1), some (.int l2), some (.int (l3 + (1 : Int32)))]) (n := 19) (w := (1 : Int32)) 3 dX8_find_16 rfl rfl rfl (Nat.le_of_ble_eq_true rfl) rfl rfl ?_
      refine rf_goto (tg := 2) dX8_find_19 rfl ?_
      exact hr2 _ _
    · refine rf_iload_n (n := 15) 3 dX8_find_14 rfl rfl rfl ?_
      exact rf_retI rfl dX8_find_15
theorem pX8_find_L2 {x : ax_X} {G : ax_G} (hG : ax_ok G) (l1 : Int32) (l2 : Int32) (n : Nat) (a3 : Int32) (μ : ax_M) : ax_Rf mX8_find 0 x (ax_Z ax_jI x G) G 0 0 2 [some (.ref 6), some (.int l1), some (.int l2), some (.int a3)] [] μ (ax_lp1 (fX8_find_B2 l1 l2) n a3 μ) :=
  rf_lp1 (P := fun a3 μ t => ax_Rf mX8_find 0 x (ax_Z ax_jI x G) G 0 0 2 [some (.ref 6), some (.int l1), some (.int l2), some (.int a3)] [] μ t) (fun _ _ => rf_none) (fun rc hrc a3 μ => pX8_find_B2 hG l1 l2 rc hrc a3 μ) n a3 μ
def fX8_find (p1 : Int32) (p2 : Int32) (μ : ax_M) : Option (Int32 × ax_M) :=
  (ax_lp1 (fX8_find_B2 p1 p2) ax_FU (0 : Int32) μ)
theorem okX8_find (p1 : Int32) (p2 : Int32) (μ : ax_M) : ax_Ok mX8_find 0 ax_jI [.ref 6, .int p1, .int p2] μ (fX8_find p1 p2 μ) := by
  refine ax_start (lc := [some (.ref 6), some (.int p1), some (.int p2), none]) 1 (by decide) rfl (Nat.le_of_ble_eq_true rfl) (fun x G hG => ?_)
  unfold fX8_find
  refine rf_iconst (n := 1) (0 : Int32) dX8_find_0 cciconst_0 rfl ?_
  refine rf_istore_n (lc2 := [some (.ref 6), some (.int p1), some (.int p2), some (.int (0 : Int32))]) (n := 2) 3 dX8_find_1 rfl rfl (Nat.le_of_ble_eq_true rfl) rfl rfl ?_
  exact pX8_find_L2 hG _ _ _ _ _
def fX8_find_1_B2 (l1 : Int32) (l2 : Int32) (r2 : Int32 → ax_M → Option (Int32 × ax_M)) (l3 : Int32) (μ : ax_M) : Option (Int32 × ax_M) :=
  (if l1 ≤ l3 then (some ((-1 : Int32), μ)) else (Option.bind (ax_rd μ 3 4 l3) (fun v1 => (if v1 = l2 then (some (l3, μ)) else (r2 (l3 + (1 : Int32)) μ)))))
theorem pX8_find_1_B2 {x : ax_X} {G : ax_G} (hG : ax_ok G) (l1 : Int32) (l2 : Int32) (r2 : Int32 → ax_M → Option (Int32 × ax_M)) (hr2 : ∀ (a3 : Int32) (μ : ax_M), ax_Rf mX8_find 0 x (ax_Z ax_jI x G) G 0 0 2 [some (.ref 3), some (.int l1), some (.int l2), some (.int a3)] [] μ (r2 a3 μ)) (l3 : Int32) (μ : ax_M) : ax_Rf mX8_find 0 x (ax_Z ax_jI x G) G 0 0 2 [some (.ref 3), some (.int l1), some (.int l2), some (.int l3)] [] μ (fX8_find_1_B2 l1 l2 r2 l3 μ) := by
  unfold fX8_find_1_B2
  refine rf_iload_n (n := 3) 3 dX8_find_2 rfl rfl rfl ?_
  refine rf_iload_n (n := 4) 1 dX8_find_3 rfl rfl rfl ?_
  refine rf_icmp_ge (tg := 22) (n := 7) dX8_find_4 rfl rfl (fun c3 => ?_) (fun c3 => ?_)
  · refine rf_iconst (n := 23) (-1 : Int32) dX8_find_22 cciconst_m1 rfl ?_
    exact rf_retI rfl dX8_find_23
  · refine rf_aload_n (n := 8) 0 dX8_find_7 rfl rfl rfl ?_
    refine rf_iload_n (n := 9) 3 dX8_find_8 rfl rfl rfl ?_
    refine rf_iald (n := 10) hG dX8_find_9 sS_3 kk_3 rfl (fun v1 => ?_)
    refine rf_iload_n (n := 11) 2 dX8_find_10 rfl rfl rfl ?_
    refine rf_icmp_ne (tg := 16) (n := 14) dX8_find_11 rfl rfl (fun c2 => ?_) (fun c2 => ?_)
    · refine rf_iinc (lc2 := [some (.ref 3), some (.int l1), some (.int l2), some (.int (l3 + (1 : Int32)))]) (n := 19) (w := (1 : Int32)) 3 dX8_find_16 rfl rfl rfl (Nat.le_of_ble_eq_true rfl) rfl rfl ?_
      refine rf_goto (tg := 2) dX8_find_19 rfl ?_
      exact hr2 _ _
    · refine rf_iload_n (n := 15) 3 dX8_find_14 rfl rfl rfl ?_
      exact rf_retI rfl dX8_find_15
theorem pX8_find_1_L2 {x : ax_X} {G : ax_G} (hG : ax_ok G) (l1 : Int32) (l2 : Int32) (n : Nat) (a3 : Int32) (μ : ax_M) : ax_Rf mX8_find 0 x (ax_Z ax_jI x G) G 0 0 2 [some (.ref 3), some (.int l1), some (.int l2), some (.int a3)] [] μ (ax_lp1 (fX8_find_1_B2 l1 l2) n a3 μ) :=
  rf_lp1 (P := fun a3 μ t => ax_Rf mX8_find 0 x (ax_Z ax_jI x G) G 0 0 2 [some (.ref 3), some (.int l1), some (.int l2), some (.int a3)] [] μ t) (fun _ _ => rf_none) (fun rc hrc a3 μ => pX8_find_1_B2 hG l1 l2 rc hrc a3 μ) n a3 μ
def fX8_find_1 (p1 : Int32) (p2 : Int32) (μ : ax_M) : Option (Int32 × ax_M) :=
  (ax_lp1 (fX8_find_1_B2 p1 p2) ax_FU (0 : Int32) μ)
theorem okX8_find_1 (p1 : Int32) (p2 : Int32) (μ : ax_M) : ax_Ok mX8_find 0 ax_jI [.ref 3, .int p1, .int p2] μ (fX8_find_1 p1 p2 μ) := by
  refine ax_start (lc := [some (.ref 3), some (.int p1), some (.int p2), none]) 1 (by decide) rfl (Nat.le_of_ble_eq_true rfl) (fun x G hG => ?_)
  unfold fX8_find_1
  refine rf_iconst (n := 1) (0 : Int32) dX8_find_0 cciconst_0 rfl ?_
  refine rf_istore_n (lc2 := [some (.ref 3), some (.int p1), some (.int p2), some (.int (0 : Int32))]) (n := 2) 3 dX8_find_1 rfl rfl (Nat.le_of_ble_eq_true rfl) rfl rfl ?_
  exact pX8_find_1_L2 hG _ _ _ _ _
def fX8_named_K50 (s0 : Int32) (μ : ax_M) : Option (Int32 × ax_M) :=
  (some (s0, μ))
theorem pX8_named_K50 {x : ax_X} {G : ax_G} (hG : ax_ok G) (s0 : Int32) (μ : ax_M) : ax_Rf mX8_named 1 x (ax_Z ax_jI x G) G 0 0 50 [none, none, none] [.int s0] μ (fX8_named_K50 s0 μ) := by
  unfold fX8_named_K50
  exact rf_retI rfl dX8_named_50
def fX8_named (p1 : Int32) (p2 : Int32) (μ : ax_M) : Option (Int32 × ax_M) :=
  (if p1 = 0 then (ax_bd (fX8_find_1 (μ.1 2 12) p2 μ) (fun v4 m5 => (some (v4, m5)))) else (if p1 = (1 : Int32) then (ax_bd (fX8_find (μ.1 2 13) p2 μ) (fun v1 m2 => (fX8_named_K50 v1 m2))) else (fX8_named_K50 (-1 : Int32) μ)))
theorem okX8_named (p1 : Int32) (p2 : Int32) (μ : ax_M) : ax_Ok mX8_named 1 ax_jI [.ref 0, .int p1, .int p2] μ (fX8_named p1 p2 μ) := by
  refine ax_start (lc := [some (.ref 0), some (.int p1), some (.int p2)]) 0 (by decide) rfl (Nat.le_of_ble_eq_true rfl) (fun x G hG => ?_)
  unfold fX8_named
  refine rf_iload_n (n := 1) 1 dX8_named_0 rfl rfl rfl ?_
  refine rf_if_ne (tg := 23) (n := 4) dX8_named_1 rfl rfl (fun c6 => ?_) (fun c6 => ?_)
  · refine rf_iload_n (n := 24) 1 dX8_named_23 rfl rfl rfl ?_
    refine rf_iconst (n := 25) (1 : Int32) dX8_named_24 cciconst_1 rfl ?_
    refine rf_icmp_ne (tg := 49) (n := 28) dX8_named_25 rfl rfl (fun c3 => ?_) (fun c3 => ?_)
    · refine rf_iconst (n := 50) (-1 : Int32) dX8_named_49 cciconst_m1 rfl ?_
      refine rf_mask (lc2 := [none, none, none]) [false, false, false] rfl ?_
      exact pX8_named_K50 hG _ _
    · refine rf_aload_n (n := 29) 0 dX8_named_28 rfl rfl rfl ?_
      refine rf_getR (n := 32) rr_0_2 kk_2 hG dX8_named_29 flX8_16 ki_8_2 sS_0 kk_0 rfl ?_
      refine rf_getR (n := 35) rr_2_3 kk_6 hG dX8_named_32 flX8_115 ki_1_3 sS_2 kk_2 rfl ?_
      refine rf_aload_n (n := 36) 0 dX8_named_35 rfl rfl rfl ?_
      refine rf_getR (n := 39) rr_0_2 kk_2 hG dX8_named_36 flX8_16 ki_8_2 sS_0 kk_0 rfl ?_
      refine rf_getI (n := 42) hG dX8_named_39 flX8_118 ki_1_13 sS_2 kk_2 rfl ?_
      refine rf_iload_n (n := 43) 2 dX8_named_42 rfl rfl rfl ?_
      refine rf_cS3I (n := 46) hG (okX8_find _ _ _) lSX8_111 hhX8_find dX8_named_43 rfl (Nat.le_of_ble_eq_true rfl) (Nat.le_of_ble_eq_true rfl) (fun v1 m2 => ?_)
      refine rf_goto (tg := 50) dX8_named_46 rfl ?_
      refine rf_mask (lc2 := [none, none, none]) [false, false, false] rfl ?_
      exact pX8_named_K50 hG _ _
  · refine rf_aload_n (n := 5) 0 dX8_named_4 rfl rfl rfl ?_
    refine rf_getR (n := 8) rr_0_2 kk_2 hG dX8_named_5 flX8_16 ki_8_2 sS_0 kk_0 rfl ?_
    refine rf_getR (n := 11) rr_2_0 kk_3 hG dX8_named_8 flX8_105 ki_1_0 sS_2 kk_2 rfl ?_
    refine rf_aload_n (n := 12) 0 dX8_named_11 rfl rfl rfl ?_
    refine rf_getR (n := 15) rr_0_2 kk_2 hG dX8_named_12 flX8_16 ki_8_2 sS_0 kk_0 rfl ?_
    refine rf_getI (n := 18) hG dX8_named_15 flX8_108 ki_1_12 sS_2 kk_2 rfl ?_
    refine rf_iload_n (n := 19) 2 dX8_named_18 rfl rfl rfl ?_
    refine rf_cS3I (n := 22) hG (okX8_find_1 _ _ _) lSX8_111 hhX8_find dX8_named_19 rfl (Nat.le_of_ble_eq_true rfl) (Nat.le_of_ble_eq_true rfl) (fun v4 m5 => ?_)
    exact rf_retI rfl dX8_named_22
def fX9_cells (μ : ax_M) : Option (Int32 × ax_M) :=
  (Option.bind (ax_rd μ 59 12 (2 : Int32)) (fun v1 => (some (v1, μ))))
theorem okX9_cells (μ : ax_M) : ax_Ok mX9_cells 0 ax_jI [.ref 57] μ (fX9_cells μ) := by
  refine ax_start (lc := [some (.ref 57)]) 0 (by decide) rfl (Nat.le_of_ble_eq_true rfl) (fun x G hG => ?_)
  unfold fX9_cells
  refine rf_aload_n (n := 1) 0 dX9_cells_0 rfl rfl rfl ?_
  refine rf_getR (n := 4) rr_57_3 kk_59 hG dX9_cells_1 flX9_13 ki_9_3 sS_57 kk_57 rfl ?_
  refine rf_iconst (n := 5) (2 : Int32) dX9_cells_4 cciconst_2 rfl ?_
  refine rf_iald (n := 6) hG dX9_cells_5 sS_59 kk_59 rfl (fun v1 => ?_)
  exact rf_retI rfl dX9_cells_6
def fX9_foundIn_B3 (l1 : Int32) (l2 : Int32) (l3 : Int32) (r3 : Int32 → ax_M → Option (Int32 × ax_M)) (l4 : Int32) (μ : ax_M) : Option (Int32 × ax_M) :=
  (if l2 ≤ l4 then (some ((-1 : Int32), μ)) else (Option.bind (ax_rd μ 64 20 (l1 + l4)) (fun v1 => (if v1 = l3 then (some (l4, μ)) else (r3 (l4 + (1 : Int32)) μ)))))
theorem pX9_foundIn_B3 {x : ax_X} {G : ax_G} (hG : ax_ok G) (l1 : Int32) (l2 : Int32) (l3 : Int32) (r3 : Int32 → ax_M → Option (Int32 × ax_M)) (hr3 : ∀ (a4 : Int32) (μ : ax_M), ax_Rf mX9_foundIn 0 x (ax_Z ax_jI x G) G 0 0 3 [some (.ref 64), some (.int l1), some (.int l2), some (.int l3), some (.int a4)] [] μ (r3 a4 μ)) (l4 : Int32) (μ : ax_M) : ax_Rf mX9_foundIn 0 x (ax_Z ax_jI x G) G 0 0 3 [some (.ref 64), some (.int l1), some (.int l2), some (.int l3), some (.int l4)] [] μ (fX9_foundIn_B3 l1 l2 l3 r3 l4 μ) := by
  unfold fX9_foundIn_B3
  refine rf_iload (n := 5) 4 dX9_foundIn_3 rfl rfl ?_
  refine rf_iload_n (n := 6) 2 dX9_foundIn_5 rfl rfl rfl ?_
  refine rf_icmp_ge (tg := 28) (n := 9) dX9_foundIn_6 rfl rfl (fun c3 => ?_) (fun c3 => ?_)
  · refine rf_iconst (n := 29) (-1 : Int32) dX9_foundIn_28 cciconst_m1 rfl ?_
    exact rf_retI rfl dX9_foundIn_29
  · refine rf_aload_n (n := 10) 0 dX9_foundIn_9 rfl rfl rfl ?_
    refine rf_iload_n (n := 11) 1 dX9_foundIn_10 rfl rfl rfl ?_
    refine rf_iload (n := 13) 4 dX9_foundIn_11 rfl rfl ?_
    refine rf_iadd (n := 14) dX9_foundIn_13 rfl ?_
    refine rf_iald (n := 15) hG dX9_foundIn_14 sS_64 kk_64 rfl (fun v1 => ?_)
    refine rf_iload_n (n := 16) 3 dX9_foundIn_15 rfl rfl rfl ?_
    refine rf_icmp_ne (tg := 22) (n := 19) dX9_foundIn_16 rfl rfl (fun c2 => ?_) (fun c2 => ?_)
    · refine rf_iinc (lc2 := [some (.ref 64), some (.int l1), some (.int l2), some (.int l3), some (.int (l4 + (1 : Int32)))]) (n := 25) (w := (1 : Int32)) 4 dX9_foundIn_22 rfl rfl rfl (Nat.le_of_ble_eq_true rfl) rfl rfl ?_
      refine rf_goto (tg := 3) dX9_foundIn_25 rfl ?_
      exact hr3 _ _
    · refine rf_iload (n := 21) 4 dX9_foundIn_19 rfl rfl ?_
      exact rf_retI rfl dX9_foundIn_21
theorem pX9_foundIn_L3 {x : ax_X} {G : ax_G} (hG : ax_ok G) (l1 : Int32) (l2 : Int32) (l3 : Int32) (n : Nat) (a4 : Int32) (μ : ax_M) : ax_Rf mX9_foundIn 0 x (ax_Z ax_jI x G) G 0 0 3 [some (.ref 64), some (.int l1), some (.int l2), some (.int l3), some (.int a4)] [] μ (ax_lp1 (fX9_foundIn_B3 l1 l2 l3) n a4 μ) :=
  rf_lp1 (P := fun a4 μ t => ax_Rf mX9_foundIn 0 x (ax_Z ax_jI x G) G 0 0 3 [some (.ref 64), some (.int l1), some (.int l2), some (.int l3), some (.int a4)] [] μ t) (fun _ _ => rf_none) (fun rc hrc a4 μ => pX9_foundIn_B3 hG l1 l2 l3 rc hrc a4 μ) n a4 μ
def fX9_foundIn (p1 : Int32) (p2 : Int32) (p3 : Int32) (μ : ax_M) : Option (Int32 × ax_M) :=
  (ax_lp1 (fX9_foundIn_B3 p1 p2 p3) ax_FU (0 : Int32) μ)
theorem okX9_foundIn (p1 : Int32) (p2 : Int32) (p3 : Int32) (μ : ax_M) : ax_Ok mX9_foundIn 0 ax_jI [.ref 64, .int p1, .int p2, .int p3] μ (fX9_foundIn p1 p2 p3 μ) := by
  refine ax_start (lc := [some (.ref 64), some (.int p1), some (.int p2), some (.int p3), none]) 1 (by decide) rfl (Nat.le_of_ble_eq_true rfl) (fun x G hG => ?_)
  unfold fX9_foundIn
  refine rf_iconst (n := 1) (0 : Int32) dX9_foundIn_0 cciconst_0 rfl ?_
  refine rf_istore (lc2 := [some (.ref 64), some (.int p1), some (.int p2), some (.int p3), some (.int (0 : Int32))]) (n := 3) 4 dX9_foundIn_1 rfl (Nat.le_of_ble_eq_true rfl) rfl rfl ?_
  exact pX9_foundIn_L3 hG _ _ _ _ _ _
def fX9_phases (μ : ax_M) : Option (Int32 × ax_M) :=
  (Option.bind (ax_rd μ 59 12 (1 : Int32)) (fun v1 => (some (v1, μ))))
theorem okX9_phases (μ : ax_M) : ax_Ok mX9_phases 0 ax_jI [.ref 57] μ (fX9_phases μ) := by
  refine ax_start (lc := [some (.ref 57)]) 0 (by decide) rfl (Nat.le_of_ble_eq_true rfl) (fun x G hG => ?_)
  unfold fX9_phases
  refine rf_aload_n (n := 1) 0 dX9_phases_0 rfl rfl rfl ?_
  refine rf_getR (n := 4) rr_57_3 kk_59 hG dX9_phases_1 flX9_13 ki_9_3 sS_57 kk_57 rfl ?_
  refine rf_iconst (n := 5) (1 : Int32) dX9_phases_4 cciconst_1 rfl ?_
  refine rf_iald (n := 6) hG dX9_phases_5 sS_59 kk_59 rfl (fun v1 => ?_)
  exact rf_retI rfl dX9_phases_6
def fX9_foundIn_1_B3 (l1 : Int32) (l2 : Int32) (l3 : Int32) (r3 : Int32 → ax_M → Option (Int32 × ax_M)) (l4 : Int32) (μ : ax_M) : Option (Int32 × ax_M) :=
  (if l2 ≤ l4 then (some ((-1 : Int32), μ)) else (Option.bind (ax_rd μ 61 8 (l1 + l4)) (fun v1 => (if v1 = l3 then (some (l4, μ)) else (r3 (l4 + (1 : Int32)) μ)))))
theorem pX9_foundIn_1_B3 {x : ax_X} {G : ax_G} (hG : ax_ok G) (l1 : Int32) (l2 : Int32) (l3 : Int32) (r3 : Int32 → ax_M → Option (Int32 × ax_M)) (hr3 : ∀ (a4 : Int32) (μ : ax_M), ax_Rf mX9_foundIn 0 x (ax_Z ax_jI x G) G 0 0 3 [some (.ref 61), some (.int l1), some (.int l2), some (.int l3), some (.int a4)] [] μ (r3 a4 μ)) (l4 : Int32) (μ : ax_M) : ax_Rf mX9_foundIn 0 x (ax_Z ax_jI x G) G 0 0 3 [some (.ref 61), some (.int l1), some (.int l2), some (.int l3), some (.int l4)] [] μ (fX9_foundIn_1_B3 l1 l2 l3 r3 l4 μ) := by
  unfold fX9_foundIn_1_B3
  refine rf_iload (n := 5) 4 dX9_foundIn_3 rfl rfl ?_
  refine rf_iload_n (n := 6) 2 dX9_foundIn_5 rfl rfl rfl ?_
  refine rf_icmp_ge (tg := 28) (n := 9) dX9_foundIn_6 rfl rfl (fun c3 => ?_) (fun c3 => ?_)
  · refine rf_iconst (n := 29) (-1 : Int32) dX9_foundIn_28 cciconst_m1 rfl ?_
    exact rf_retI rfl dX9_foundIn_29
  · refine rf_aload_n (n := 10) 0 dX9_foundIn_9 rfl rfl rfl ?_
    refine rf_iload_n (n := 11) 1 dX9_foundIn_10 rfl rfl rfl ?_
    refine rf_iload (n := 13) 4 dX9_foundIn_11 rfl rfl ?_
    refine rf_iadd (n := 14) dX9_foundIn_13 rfl ?_
    refine rf_iald (n := 15) hG dX9_foundIn_14 sS_61 kk_61 rfl (fun v1 => ?_)
    refine rf_iload_n (n := 16) 3 dX9_foundIn_15 rfl rfl rfl ?_
    refine rf_icmp_ne (tg := 22) (n := 19) dX9_foundIn_16 rfl rfl (fun c2 => ?_) (fun c2 => ?_)
    · refine rf_iinc (lc2 := [some (.ref 61), some (.int l1), some (.int l2), some (.int l3), some (.int (l4 + (1 : Int32)))]) (n := 25) (w := (1 : Int32)) 4 dX9_foundIn_22 rfl rfl rfl (Nat.le_of_ble_eq_true rfl) rfl rfl ?_
      refine rf_goto (tg := 3) dX9_foundIn_25 rfl ?_
      exact hr3 _ _
    · refine rf_iload (n := 21) 4 dX9_foundIn_19 rfl rfl ?_
      exact rf_retI rfl dX9_foundIn_21
theorem pX9_foundIn_1_L3 {x : ax_X} {G : ax_G} (hG : ax_ok G) (l1 : Int32) (l2 : Int32) (l3 : Int32) (n : Nat) (a4 : Int32) (μ : ax_M) : ax_Rf mX9_foundIn 0 x (ax_Z ax_jI x G) G 0 0 3 [some (.ref 61), some (.int l1), some (.int l2), some (.int l3), some (.int a4)] [] μ (ax_lp1 (fX9_foundIn_1_B3 l1 l2 l3) n a4 μ) :=
  rf_lp1 (P := fun a4 μ t => ax_Rf mX9_foundIn 0 x (ax_Z ax_jI x G) G 0 0 3 [some (.ref 61), some (.int l1), some (.int l2), some (.int l3), some (.int a4)] [] μ t) (fun _ _ => rf_none) (fun rc hrc a4 μ => pX9_foundIn_1_B3 hG l1 l2 l3 rc hrc a4 μ) n a4 μ
def fX9_foundIn_1 (p1 : Int32) (p2 : Int32) (p3 : Int32) (μ : ax_M) : Option (Int32 × ax_M) :=
  (ax_lp1 (fX9_foundIn_1_B3 p1 p2 p3) ax_FU (0 : Int32) μ)
theorem okX9_foundIn_1 (p1 : Int32) (p2 : Int32) (p3 : Int32) (μ : ax_M) : ax_Ok mX9_foundIn 0 ax_jI [.ref 61, .int p1, .int p2, .int p3] μ (fX9_foundIn_1 p1 p2 p3 μ) := by
  refine ax_start (lc := [some (.ref 61), some (.int p1), some (.int p2), some (.int p3), none]) 1 (by decide) rfl (Nat.le_of_ble_eq_true rfl) (fun x G hG => ?_)
  unfold fX9_foundIn_1
  refine rf_iconst (n := 1) (0 : Int32) dX9_foundIn_0 cciconst_0 rfl ?_
  refine rf_istore (lc2 := [some (.ref 61), some (.int p1), some (.int p2), some (.int p3), some (.int (0 : Int32))]) (n := 3) 4 dX9_foundIn_1 rfl (Nat.le_of_ble_eq_true rfl) rfl rfl ?_
  exact pX9_foundIn_1_L3 hG _ _ _ _ _ _
def fX9_named_K47 (s0 : Int32) (μ : ax_M) : Option (Int32 × ax_M) :=
  (some (s0, μ))
theorem pX9_named_K47 {x : ax_X} {G : ax_G} (hG : ax_ok G) (s0 : Int32) (μ : ax_M) : ax_Rf mX9_named 1 x (ax_Z ax_jI x G) G 0 0 47 [none, none, none] [.int s0] μ (fX9_named_K47 s0 μ) := by
  unfold fX9_named_K47
  exact rf_retI rfl dX9_named_47
def fX9_named (p1 : Int32) (p2 : Int32) (μ : ax_M) : Option (Int32 × ax_M) :=
  (ax_let (ax_wi μ 57 0 (0 : Int32)) (fun m1 => (if p1 = 0 then (ax_bd (fX9_phases m1) (fun v7 m8 => (ax_bd (fX9_foundIn_1 (0 : Int32) v7 p2 m8) (fun v9 m10 => (fX9_named_K47 v9 m10))))) else (if p1 = (1 : Int32) then (ax_bd (fX9_cells m1) (fun v2 m3 => (ax_bd (fX9_foundIn (0 : Int32) v2 p2 m3) (fun v4 m5 => (fX9_named_K47 v4 m5))))) else (fX9_named_K47 (-1 : Int32) m1)))))
theorem okX9_named (p1 : Int32) (p2 : Int32) (μ : ax_M) : ax_Ok mX9_named 1 ax_jI [.ref 57, .int p1, .int p2] μ (fX9_named p1 p2 μ) := by
  refine ax_start (lc := [some (.ref 57), some (.int p1), some (.int p2)]) 0 (by decide) rfl (Nat.le_of_ble_eq_true rfl) (fun x G hG => ?_)
  unfold fX9_named
  refine rf_aload_n (n := 1) 0 dX9_named_0 rfl rfl rfl ?_
  refine rf_iconst (n := 2) (0 : Int32) dX9_named_1 cciconst_0 rfl ?_
  refine rf_pfI (n := 5) hG rfl dX9_named_2 flX9_103 ki_9_0 nf_9_0 sS_57 kk_57 rfl (fun m1 => ?_)
  refine rf_iload_n (n := 6) 1 dX9_named_5 rfl rfl rfl ?_
  refine rf_if_ne (tg := 25) (n := 9) dX9_named_6 rfl rfl (fun c11 => ?_) (fun c11 => ?_)
  · refine rf_iload_n (n := 26) 1 dX9_named_25 rfl rfl rfl ?_
    refine rf_iconst (n := 27) (1 : Int32) dX9_named_26 cciconst_1 rfl ?_
    refine rf_icmp_ne (tg := 46) (n := 30) dX9_named_27 rfl rfl (fun c6 => ?_) (fun c6 => ?_)
    · refine rf_iconst (n := 47) (-1 : Int32) dX9_named_46 cciconst_m1 rfl ?_
      refine rf_mask (lc2 := [none, none, none]) [false, false, false] rfl ?_
      exact pX9_named_K47 hG _ _
    · refine rf_aload_n (n := 31) 0 dX9_named_30 rfl rfl rfl ?_
      refine rf_getR (n := 34) rr_57_8 kk_64 hG dX9_named_31 flX9_29 ki_9_8 sS_57 kk_57 rfl ?_
      refine rf_iconst (n := 35) (0 : Int32) dX9_named_34 cciconst_0 rfl ?_
      refine rf_aload_n (n := 36) 0 dX9_named_35 rfl rfl rfl ?_
      refine rf_cV0I (n := 39) hG (okX9_cells _) lVX9_233 hhX9_cells kk_57 sS_57 ⟨_, rfl, rfl⟩ dX9_named_36 rfl (Nat.le_of_ble_eq_true rfl) (Nat.le_of_ble_eq_true rfl) (fun v2 m3 => ?_)
      refine rf_iload_n (n := 40) 2 dX9_named_39 rfl rfl rfl ?_
      refine rf_cS4I (n := 43) hG (okX9_foundIn _ _ _ _) lSX9_177 hhX9_foundIn dX9_named_40 rfl (Nat.le_of_ble_eq_true rfl) (Nat.le_of_ble_eq_true rfl) (fun v4 m5 => ?_)
      refine rf_goto (tg := 47) dX9_named_43 rfl ?_
      refine rf_mask (lc2 := [none, none, none]) [false, false, false] rfl ?_
      exact pX9_named_K47 hG _ _
  · refine rf_aload_n (n := 10) 0 dX9_named_9 rfl rfl rfl ?_
    refine rf_getR (n := 13) rr_57_5 kk_61 hG dX9_named_10 flX9_20 ki_9_5 sS_57 kk_57 rfl ?_
    refine rf_iconst (n := 14) (0 : Int32) dX9_named_13 cciconst_0 rfl ?_
    refine rf_aload_n (n := 15) 0 dX9_named_14 rfl rfl rfl ?_
    refine rf_cV0I (n := 18) hG (okX9_phases _) lVX9_230 hhX9_phases kk_57 sS_57 ⟨_, rfl, rfl⟩ dX9_named_15 rfl (Nat.le_of_ble_eq_true rfl) (Nat.le_of_ble_eq_true rfl) (fun v7 m8 => ?_)
    refine rf_iload_n (n := 19) 2 dX9_named_18 rfl rfl rfl ?_
    refine rf_cS4I (n := 22) hG (okX9_foundIn_1 _ _ _ _) lSX9_177 hhX9_foundIn dX9_named_19 rfl (Nat.le_of_ble_eq_true rfl) (Nat.le_of_ble_eq_true rfl) (fun v9 m10 => ?_)
    refine rf_goto (tg := 47) dX9_named_22 rfl ?_
    refine rf_mask (lc2 := [none, none, none]) [false, false, false] rfl ?_
    exact pX9_named_K47 hG _ _
def fX1_writeTo (p2 : Int32) (μ : ax_M) : Option (Unit × ax_M) :=
  (Option.bind (ax_wr μ 30 1180 p2 (μ.1 2 16)) (fun m1 => (Option.bind (ax_wr m1 30 1180 (p2 + (1 : Int32)) (m1.1 2 17)) (fun m2 => (Option.bind (ax_wr m2 30 1180 (p2 + (2 : Int32)) (m2.1 2 15)) (fun m3 => (ax_let (p2 + (3 : Int32)) (fun v4 => (Option.bind (ax_cp m3 4 4 (0 : Int32) 30 1180 v4 (4 : Int32)) (fun m5 => (Option.bind (ax_cp m5 5 4 (0 : Int32) 30 1180 (v4 + (4 : Int32)) (4 : Int32)) (fun m6 => (Option.bind (ax_cp m6 13 24 (0 : Int32) 30 1180 (v4 + (8 : Int32)) (24 : Int32)) (fun m7 => (Option.bind (ax_cp m7 14 24 (0 : Int32) 30 1180 ((v4 + (8 : Int32)) + (24 : Int32)) (24 : Int32)) (fun m8 => (some ((), m8))))))))))))))))))
theorem okX1_writeTo (p2 : Int32) (μ : ax_M) : ax_Ok mX1_writeTo 1 ax_jV [.ref 2, .ref 30, .int p2] μ (fX1_writeTo p2 μ) := by
  refine ax_start (lc := [some (.ref 2), some (.ref 30), some (.int p2), none]) 1 (by decide) rfl (Nat.le_of_ble_eq_true rfl) (fun x G hG => ?_)
  unfold fX1_writeTo
  refine rf_aload_n (n := 1) 1 dX1_writeTo_0 rfl rfl rfl ?_
  refine rf_iload_n (n := 2) 2 dX1_writeTo_1 rfl rfl rfl ?_
  refine rf_aload_n (n := 3) 0 dX1_writeTo_2 rfl rfl rfl ?_
  refine rf_getI (n := 6) hG dX1_writeTo_3 flX1_48 ki_1_16 sS_2 kk_2 rfl ?_
  refine rf_iast (n := 7) hG dX1_writeTo_6 sS_30 kk_30 rfl (fun m1 => ?_)
  refine rf_aload_n (n := 8) 1 dX1_writeTo_7 rfl rfl rfl ?_
  refine rf_iload_n (n := 9) 2 dX1_writeTo_8 rfl rfl rfl ?_
  refine rf_iconst (n := 10) (1 : Int32) dX1_writeTo_9 cciconst_1 rfl ?_
  refine rf_iadd (n := 11) dX1_writeTo_10 rfl ?_
  refine rf_aload_n (n := 12) 0 dX1_writeTo_11 rfl rfl rfl ?_
  refine rf_getI (n := 15) hG dX1_writeTo_12 flX1_64 ki_1_17 sS_2 kk_2 rfl ?_
  refine rf_iast (n := 16) hG dX1_writeTo_15 sS_30 kk_30 rfl (fun m2 => ?_)
  refine rf_aload_n (n := 17) 1 dX1_writeTo_16 rfl rfl rfl ?_
  refine rf_iload_n (n := 18) 2 dX1_writeTo_17 rfl rfl rfl ?_
  refine rf_iconst (n := 19) (2 : Int32) dX1_writeTo_18 cciconst_2 rfl ?_
  refine rf_iadd (n := 20) dX1_writeTo_19 rfl ?_
  refine rf_aload_n (n := 21) 0 dX1_writeTo_20 rfl rfl rfl ?_
  refine rf_getI (n := 24) hG dX1_writeTo_21 flX1_61 ki_1_15 sS_2 kk_2 rfl ?_
  refine rf_iast (n := 25) hG dX1_writeTo_24 sS_30 kk_30 rfl (fun m3 => ?_)
  refine rf_iload_n (n := 26) 2 dX1_writeTo_25 rfl rfl rfl ?_
  refine rf_iconst (n := 27) (3 : Int32) dX1_writeTo_26 cciconst_3 rfl ?_
  refine rf_iadd (n := 28) dX1_writeTo_27 rfl ?_
  refine rf_letI (fun v4 => ?_)
  refine rf_istore_n (lc2 := [some (.ref 2), some (.ref 30), some (.int p2), some (.int v4)]) (n := 29) 3 dX1_writeTo_28 rfl rfl (Nat.le_of_ble_eq_true rfl) rfl rfl ?_
  refine rf_aload_n (n := 30) 0 dX1_writeTo_29 rfl rfl rfl ?_
  refine rf_getR (n := 33) rr_2_1 kk_4 hG dX1_writeTo_30 flX1_15 ki_1_1 sS_2 kk_2 rfl ?_
  refine rf_iconst (n := 34) (0 : Int32) dX1_writeTo_33 cciconst_0 rfl ?_
  refine rf_aload_n (n := 35) 1 dX1_writeTo_34 rfl rfl rfl ?_
  refine rf_iload_n (n := 36) 3 dX1_writeTo_35 rfl rfl rfl ?_
  refine rf_iconst (n := 37) (4 : Int32) dX1_writeTo_36 cciconst_4 rfl ?_
  refine rf_copy (n := 40) hG dX1_writeTo_37 cpX1_70 ax_cpw (Nat.le_of_ble_eq_true rfl) (Nat.le_of_ble_eq_true rfl) sS_4 sS_30 kk_4 kk_30 rfl (fun m5 => ?_)
  refine rf_aload_n (n := 41) 0 dX1_writeTo_40 rfl rfl rfl ?_
  refine rf_getR (n := 44) rr_2_2 kk_5 hG dX1_writeTo_41 flX1_18 ki_1_2 sS_2 kk_2 rfl ?_
  refine rf_iconst (n := 45) (0 : Int32) dX1_writeTo_44 cciconst_0 rfl ?_
  refine rf_aload_n (n := 46) 1 dX1_writeTo_45 rfl rfl rfl ?_
  refine rf_iload_n (n := 47) 3 dX1_writeTo_46 rfl rfl rfl ?_
  refine rf_iconst (n := 48) (4 : Int32) dX1_writeTo_47 cciconst_4 rfl ?_
  refine rf_iadd (n := 49) dX1_writeTo_48 rfl ?_
  refine rf_iconst (n := 50) (4 : Int32) dX1_writeTo_49 cciconst_4 rfl ?_
  refine rf_copy (n := 53) hG dX1_writeTo_50 cpX1_70 ax_cpw (Nat.le_of_ble_eq_true rfl) (Nat.le_of_ble_eq_true rfl) sS_5 sS_30 kk_5 kk_30 rfl (fun m6 => ?_)
  refine rf_iinc (lc2 := [some (.ref 2), some (.ref 30), some (.int p2), some (.int (v4 + (8 : Int32)))]) (n := 56) (w := (8 : Int32)) 3 dX1_writeTo_53 rfl rfl rfl (Nat.le_of_ble_eq_true rfl) rfl rfl ?_
  refine rf_aload_n (n := 57) 0 dX1_writeTo_56 rfl rfl rfl ?_
  refine rf_getR (n := 60) rr_2_10 kk_13 hG dX1_writeTo_57 flX1_42 ki_1_10 sS_2 kk_2 rfl ?_
  refine rf_iconst (n := 61) (0 : Int32) dX1_writeTo_60 cciconst_0 rfl ?_
  refine rf_aload_n (n := 62) 1 dX1_writeTo_61 rfl rfl rfl ?_
  refine rf_iload_n (n := 63) 3 dX1_writeTo_62 rfl rfl rfl ?_
  refine rf_bipush (n := 65) (24 : Int32) dX1_writeTo_63 ccbipush_24 rfl ?_
  refine rf_copy (n := 68) hG dX1_writeTo_65 cpX1_70 ax_cpw (Nat.le_of_ble_eq_true rfl) (Nat.le_of_ble_eq_true rfl) sS_13 sS_30 kk_13 kk_30 rfl (fun m7 => ?_)
  refine rf_aload_n (n := 69) 0 dX1_writeTo_68 rfl rfl rfl ?_
  refine rf_getR (n := 72) rr_2_11 kk_14 hG dX1_writeTo_69 flX1_45 ki_1_11 sS_2 kk_2 rfl ?_
  refine rf_iconst (n := 73) (0 : Int32) dX1_writeTo_72 cciconst_0 rfl ?_
  refine rf_aload_n (n := 74) 1 dX1_writeTo_73 rfl rfl rfl ?_
  refine rf_iload_n (n := 75) 3 dX1_writeTo_74 rfl rfl rfl ?_
  refine rf_bipush (n := 77) (24 : Int32) dX1_writeTo_75 ccbipush_24 rfl ?_
  refine rf_iadd (n := 78) dX1_writeTo_77 rfl ?_
  refine rf_bipush (n := 80) (24 : Int32) dX1_writeTo_78 ccbipush_24 rfl ?_
  refine rf_copy (n := 83) hG dX1_writeTo_80 cpX1_70 ax_cpw (Nat.le_of_ble_eq_true rfl) (Nat.le_of_ble_eq_true rfl) sS_14 sS_30 kk_14 kk_30 rfl (fun m8 => ?_)
  exact rf_retV rfl dX1_writeTo_83
def fX2_push (μ : ax_M) : Option (Unit × ax_M) :=
  (ax_bd (fX1_writeTo ((μ.1 29 2) * (59 : Int32)) μ) (fun _ m2 => (Option.bind (ax_rm ((m2.1 29 2) + (1 : Int32)) (20 : Int32)) (fun v3 => (ax_let (ax_wi m2 29 2 v3) (fun m4 => (ax_let (ax_wi m4 29 3 (ax_mn ((m4.1 29 3) + (1 : Int32)) (20 : Int32))) (fun m5 => (some ((), m5))))))))))
theorem okX2_push (μ : ax_M) : ax_Ok mX2_push 2 ax_jV [.ref 29, .ref 2] μ (fX2_push μ) := by
  refine ax_start (lc := [some (.ref 29), some (.ref 2)]) 0 (by decide) rfl (Nat.le_of_ble_eq_true rfl) (fun x G hG => ?_)
  unfold fX2_push
  refine rf_aload_n (n := 1) 1 dX2_push_0 rfl rfl rfl ?_
  refine rf_aload_n (n := 2) 0 dX2_push_1 rfl rfl rfl ?_
  refine rf_getR (n := 5) rr_29_0 kk_30 hG dX2_push_2 flX2_11 ki_2_0 sS_29 kk_29 rfl ?_
  refine rf_aload_n (n := 6) 0 dX2_push_5 rfl rfl rfl ?_
  refine rf_getI (n := 9) hG dX2_push_6 flX2_18 ki_2_2 sS_29 kk_29 rfl ?_
  refine rf_bipush (n := 11) (59 : Int32) dX2_push_9 ccbipush_59 rfl ?_
  refine rf_imul (n := 12) dX2_push_11 rfl ?_
  refine rf_cV2V (n := 15) hG (okX1_writeTo _ _) lVX2_22 hhX1_writeTo kk_2 sS_2 ⟨_, rfl, rfl⟩ dX2_push_12 rfl (Nat.le_of_ble_eq_true rfl) (Nat.le_of_ble_eq_true rfl) (fun _ m2 => ?_)
  refine rf_aload_n (n := 16) 0 dX2_push_15 rfl rfl rfl ?_
  refine rf_aload_n (n := 17) 0 dX2_push_16 rfl rfl rfl ?_
  refine rf_getI (n := 20) hG dX2_push_17 flX2_18 ki_2_2 sS_29 kk_29 rfl ?_
  refine rf_iconst (n := 21) (1 : Int32) dX2_push_20 cciconst_1 rfl ?_
  refine rf_iadd (n := 22) dX2_push_21 rfl ?_
  refine rf_bipush (n := 24) (20 : Int32) dX2_push_22 ccbipush_20 rfl ?_
  refine rf_irem (n := 25) dX2_push_24 rfl (fun v3 => ?_)
  refine rf_pfI (n := 28) hG rfl dX2_push_25 flX2_18 ki_2_2 nf_2_2 sS_29 kk_29 rfl (fun m4 => ?_)
  refine rf_aload_n (n := 29) 0 dX2_push_28 rfl rfl rfl ?_
  refine rf_aload_n (n := 30) 0 dX2_push_29 rfl rfl rfl ?_
  refine rf_getI (n := 33) hG dX2_push_30 flX2_26 ki_2_3 sS_29 kk_29 rfl ?_
  refine rf_iconst (n := 34) (1 : Int32) dX2_push_33 cciconst_1 rfl ?_
  refine rf_iadd (n := 35) dX2_push_34 rfl ?_
  refine rf_bipush (n := 37) (20 : Int32) dX2_push_35 ccbipush_20 rfl ?_
  refine rf_min (n := 40) dX2_push_37 mxX2_29 ax_minw (Nat.le_of_ble_eq_true rfl) (Nat.le_of_ble_eq_true rfl) rfl ?_
  refine rf_pfI (n := 43) hG rfl dX2_push_40 flX2_26 ki_2_3 nf_2_3 sS_29 kk_29 rfl (fun m5 => ?_)
  exact rf_retV rfl dX2_push_43
def fX8_forgetAnswers (μ : ax_M) : Option (Unit × ax_M) :=
  (ax_let (ax_wi μ 32 5 (0 : Int32)) (fun m1 => (ax_let (ax_wi m1 41 8 (0 : Int32)) (fun m2 => (some ((), m2))))))
theorem okX8_forgetAnswers (μ : ax_M) : ax_Ok mX8_forgetAnswers 0 ax_jV [.ref 0] μ (fX8_forgetAnswers μ) := by
  refine ax_start (lc := [some (.ref 0)]) 0 (by decide) rfl (Nat.le_of_ble_eq_true rfl) (fun x G hG => ?_)
  unfold fX8_forgetAnswers
  refine rf_aload_n (n := 1) 0 dX8_forgetAnswers_0 rfl rfl rfl ?_
  refine rf_getR (n := 4) rr_0_5 kk_32 hG dX8_forgetAnswers_1 flX8_41 ki_8_5 sS_0 kk_0 rfl ?_
  refine rf_iconst (n := 5) (0 : Int32) dX8_forgetAnswers_4 cciconst_0 rfl ?_
  refine rf_pfZ (n := 8) hG rfl (Or.inl rfl) dX8_forgetAnswers_5 flX8_121 ki_5_5 nf_5_5 sS_32 kk_32 rfl (fun m1 => ?_)
  refine rf_aload_n (n := 9) 0 dX8_forgetAnswers_8 rfl rfl rfl ?_
  refine rf_getR (n := 12) rr_0_7 kk_41 hG dX8_forgetAnswers_9 flX8_55 ki_8_7 sS_0 kk_0 rfl ?_
  refine rf_iconst (n := 13) (0 : Int32) dX8_forgetAnswers_12 cciconst_0 rfl ?_
  refine rf_pfZ (n := 16) hG rfl (Or.inl rfl) dX8_forgetAnswers_13 flX8_124 ki_0_8 nf_0_8 sS_41 kk_41 rfl (fun m2 => ?_)
  exact rf_retV rfl dX8_forgetAnswers_16
def fX8_beginChange (μ : ax_M) : Option (Unit × ax_M) :=
  (ax_bd (fX2_push μ) (fun _ m2 => (ax_bd (fX8_forgetAnswers m2) (fun _ m4 => (some ((), m4))))))
theorem okX8_beginChange (μ : ax_M) : ax_Ok mX8_beginChange 3 ax_jV [.ref 0] μ (fX8_beginChange μ) := by
  refine ax_start (lc := [some (.ref 0)]) 0 (by decide) rfl (Nat.le_of_ble_eq_true rfl) (fun x G hG => ?_)
  unfold fX8_beginChange
  refine rf_aload_n (n := 1) 0 dX8_beginChange_0 rfl rfl rfl ?_
  refine rf_getR (n := 4) rr_0_4 kk_29 hG dX8_beginChange_1 flX8_32 ki_8_4 sS_0 kk_0 rfl ?_
  refine rf_aload_n (n := 5) 0 dX8_beginChange_4 rfl rfl rfl ?_
  refine rf_getR (n := 8) rr_0_2 kk_2 hG dX8_beginChange_5 flX8_16 ki_8_2 sS_0 kk_0 rfl ?_
  refine rf_cV1V (n := 11) hG (okX2_push _) lVX8_125 hhX2_push kk_29 sS_29 ⟨_, rfl, rfl⟩ dX8_beginChange_8 rfl (Nat.le_of_ble_eq_true rfl) (Nat.le_of_ble_eq_true rfl) (fun _ m2 => ?_)
  refine rf_aload_n (n := 12) 0 dX8_beginChange_11 rfl rfl rfl ?_
  refine rf_cV0V (n := 15) hG (okX8_forgetAnswers _) lVX8_93 hhX8_forgetAnswers kk_0 sS_0 ⟨_, rfl, rfl⟩ dX8_beginChange_12 rfl (Nat.le_of_ble_eq_true rfl) (Nat.le_of_ble_eq_true rfl) (fun _ m4 => ?_)
  exact rf_retV rfl dX8_beginChange_15
def fX8_period_K12 (μ : ax_M) : Option (Int32 × ax_M) :=
  (some ((-1 : Int32), μ))
theorem pX8_period_K12 {x : ax_X} {G : ax_G} (hG : ax_ok G) (μ : ax_M) : ax_Rf mX8_period 4 x (ax_Z ax_jI x G) G 0 0 12 [none, none, none] [] μ (fX8_period_K12 μ) := by
  unfold fX8_period_K12
  refine rf_iconst (n := 13) (-1 : Int32) dX8_period_12 cciconst_m1 rfl ?_
  exact rf_retI rfl dX8_period_13
def fX8_period (p1 : Int32) (μ : ax_M) : Option (Int32 × ax_M) :=
  (if p1 < (1 : Int32) then (fX8_period_K12 μ) else (if p1 ≤ (9999 : Int32) then (ax_let (μ.1 2 16) (fun v1 => (ax_bd (fX8_beginChange μ) (fun _ m3 => (ax_let (ax_wi m3 2 16 p1) (fun m4 => (some (v1, m4)))))))) else (fX8_period_K12 μ)))
theorem okX8_period (p1 : Int32) (μ : ax_M) : ax_Ok mX8_period 4 ax_jI [.ref 0, .int p1] μ (fX8_period p1 μ) := by
  refine ax_start (lc := [some (.ref 0), some (.int p1), none]) 1 (by decide) rfl (Nat.le_of_ble_eq_true rfl) (fun x G hG => ?_)
  unfold fX8_period
  refine rf_iload_n (n := 1) 1 dX8_period_0 rfl rfl rfl ?_
  refine rf_iconst (n := 2) (1 : Int32) dX8_period_1 cciconst_1 rfl ?_
  refine rf_icmp_lt (tg := 12) (n := 5) dX8_period_2 rfl rfl (fun c6 => ?_) (fun c6 => ?_)
  · refine rf_mask (lc2 := [none, none, none]) [false, false, true] rfl ?_
    exact pX8_period_K12 hG _
  · refine rf_iload_n (n := 6) 1 dX8_period_5 rfl rfl rfl ?_
    refine rf_sipush (n := 9) (9999 : Int32) dX8_period_6 ccsipush_9999 rfl ?_
    refine rf_icmp_le (tg := 14) (n := 12) dX8_period_9 rfl rfl (fun c5 => ?_) (fun c5 => ?_)
    · refine rf_aload_n (n := 15) 0 dX8_period_14 rfl rfl rfl ?_
      refine rf_getR (n := 18) rr_0_2 kk_2 hG dX8_period_15 flX8_16 ki_8_2 sS_0 kk_0 rfl ?_
      refine rf_getI (n := 21) hG dX8_period_18 flX8_128 ki_1_16 sS_2 kk_2 rfl ?_
      refine rf_letI (fun v1 => ?_)
      refine rf_istore_n (lc2 := [some (.ref 0), some (.int p1), some (.int v1)]) (n := 22) 2 dX8_period_21 rfl rfl (Nat.le_of_ble_eq_true rfl) rfl rfl ?_
      refine rf_aload_n (n := 23) 0 dX8_period_22 rfl rfl rfl ?_
      refine rf_cV0V (n := 26) hG (okX8_beginChange _) lVX8_131 hhX8_beginChange kk_0 sS_0 ⟨_, rfl, rfl⟩ dX8_period_23 rfl (Nat.le_of_ble_eq_true rfl) (Nat.le_of_ble_eq_true rfl) (fun _ m3 => ?_)
      refine rf_aload_n (n := 27) 0 dX8_period_26 rfl rfl rfl ?_
      refine rf_getR (n := 30) rr_0_2 kk_2 hG dX8_period_27 flX8_16 ki_8_2 sS_0 kk_0 rfl ?_
      refine rf_iload_n (n := 31) 1 dX8_period_30 rfl rfl rfl ?_
      refine rf_pfI (n := 34) hG rfl dX8_period_31 flX8_128 ki_1_16 nf_1_16 sS_2 kk_2 rfl (fun m4 => ?_)
      refine rf_iload_n (n := 35) 2 dX8_period_34 rfl rfl rfl ?_
      exact rf_retI rfl dX8_period_35
    · refine rf_mask (lc2 := [none, none, none]) [false, false, true] rfl ?_
      exact pX8_period_K12 hG _
def fX9_lays_B2 (l1 : Int32) (r2 : Int32 → ax_M → Option (Unit × ax_M)) (l2 : Int32) (μ : ax_M) : Option (Unit × ax_M) :=
  (if (68 : Int32) ≤ l2 then (some ((), μ)) else (Option.bind (ax_rd μ 74 68 l2) (fun v1 => (Option.bind (ax_wr μ 75 1428 (((68 : Int32) * l1) + l2) v1) (fun m2 => (r2 (l2 + (1 : Int32)) m2))))))
theorem pX9_lays_B2 {x : ax_X} {G : ax_G} (hG : ax_ok G) (l1 : Int32) (r2 : Int32 → ax_M → Option (Unit × ax_M)) (hr2 : ∀ (a2 : Int32) (μ : ax_M), ax_Rf mX9_lays 0 x (ax_Z ax_jV x G) G 0 0 2 [some (.ref 57), some (.int l1), some (.int a2)] [] μ (r2 a2 μ)) (l2 : Int32) (μ : ax_M) : ax_Rf mX9_lays 0 x (ax_Z ax_jV x G) G 0 0 2 [some (.ref 57), some (.int l1), some (.int l2)] [] μ (fX9_lays_B2 l1 r2 l2 μ) := by
  unfold fX9_lays_B2
  refine rf_iload_n (n := 3) 2 dX9_lays_2 rfl rfl rfl ?_
  refine rf_bipush (n := 5) (68 : Int32) dX9_lays_3 ccbipush_68 rfl ?_
  refine rf_icmp_ge (tg := 31) (n := 8) dX9_lays_5 rfl rfl (fun c3 => ?_) (fun c3 => ?_)
  · exact rf_retV rfl dX9_lays_31
  · refine rf_aload_n (n := 9) 0 dX9_lays_8 rfl rfl rfl ?_
    refine rf_getR (n := 12) rr_57_29 kk_75 hG dX9_lays_9 flX9_66 ki_9_29 sS_57 kk_57 rfl ?_
    refine rf_bipush (n := 14) (68 : Int32) dX9_lays_12 ccbipush_68 rfl ?_
    refine rf_iload_n (n := 15) 1 dX9_lays_14 rfl rfl rfl ?_
    refine rf_imul (n := 16) dX9_lays_15 rfl ?_
    refine rf_iload_n (n := 17) 2 dX9_lays_16 rfl rfl rfl ?_
    refine rf_iadd (n := 18) dX9_lays_17 rfl ?_
    refine rf_aload_n (n := 19) 0 dX9_lays_18 rfl rfl rfl ?_
    refine rf_getR (n := 22) rr_57_28 kk_74 hG dX9_lays_19 flX9_63 ki_9_28 sS_57 kk_57 rfl ?_
    refine rf_iload_n (n := 23) 2 dX9_lays_22 rfl rfl rfl ?_
    refine rf_iald (n := 24) hG dX9_lays_23 sS_74 kk_74 rfl (fun v1 => ?_)
    refine rf_iast (n := 25) hG dX9_lays_24 sS_75 kk_75 rfl (fun m2 => ?_)
    refine rf_iinc (lc2 := [some (.ref 57), some (.int l1), some (.int (l2 + (1 : Int32)))]) (n := 28) (w := (1 : Int32)) 2 dX9_lays_25 rfl rfl rfl (Nat.le_of_ble_eq_true rfl) rfl rfl ?_
    refine rf_goto (tg := 2) dX9_lays_28 rfl ?_
    exact hr2 _ _
theorem pX9_lays_L2 {x : ax_X} {G : ax_G} (hG : ax_ok G) (l1 : Int32) (n : Nat) (a2 : Int32) (μ : ax_M) : ax_Rf mX9_lays 0 x (ax_Z ax_jV x G) G 0 0 2 [some (.ref 57), some (.int l1), some (.int a2)] [] μ (ax_lp1 (fX9_lays_B2 l1) n a2 μ) :=
  rf_lp1 (P := fun a2 μ t => ax_Rf mX9_lays 0 x (ax_Z ax_jV x G) G 0 0 2 [some (.ref 57), some (.int l1), some (.int a2)] [] μ t) (fun _ _ => rf_none) (fun rc hrc a2 μ => pX9_lays_B2 hG l1 rc hrc a2 μ) n a2 μ
def fX9_lays (p1 : Int32) (μ : ax_M) : Option (Unit × ax_M) :=
  (ax_lp1 (fX9_lays_B2 p1) ax_FU (0 : Int32) μ)
theorem okX9_lays (p1 : Int32) (μ : ax_M) : ax_Ok mX9_lays 0 ax_jV [.ref 57, .int p1] μ (fX9_lays p1 μ) := by
  refine ax_start (lc := [some (.ref 57), some (.int p1), none]) 1 (by decide) rfl (Nat.le_of_ble_eq_true rfl) (fun x G hG => ?_)
  unfold fX9_lays
  refine rf_iconst (n := 1) (0 : Int32) dX9_lays_0 cciconst_0 rfl ?_
  refine rf_istore_n (lc2 := [some (.ref 57), some (.int p1), some (.int (0 : Int32))]) (n := 2) 2 dX9_lays_1 rfl rfl (Nat.le_of_ble_eq_true rfl) rfl rfl ?_
  exact pX9_lays_L2 hG _ _ _ _
def fX9_remembers_K49 (μ : ax_M) : Option (Unit × ax_M) :=
  (ax_bd (fX9_lays (μ.1 57 30) μ) (fun _ m2 => (ax_let (ax_wi m2 57 30 ((m2.1 57 30) + (1 : Int32))) (fun m3 => (some ((), m3))))))
theorem pX9_remembers_K49 {x : ax_X} {G : ax_G} (hG : ax_ok G) (μ : ax_M) : ax_Rf mX9_remembers 1 x (ax_Z ax_jV x G) G 0 0 49 [some (.ref 57), none] [] μ (fX9_remembers_K49 μ) := by
  unfold fX9_remembers_K49
  refine rf_aload_n (n := 50) 0 dX9_remembers_49 rfl rfl rfl ?_
  refine rf_aload_n (n := 51) 0 dX9_remembers_50 rfl rfl rfl ?_
  refine rf_getI (n := 54) hG dX9_remembers_51 flX9_223 ki_9_30 sS_57 kk_57 rfl ?_
  refine rf_cV1V (n := 57) hG (okX9_lays _ _) lVX9_239 hhX9_lays kk_57 sS_57 ⟨_, rfl, rfl⟩ dX9_remembers_54 rfl (Nat.le_of_ble_eq_true rfl) (Nat.le_of_ble_eq_true rfl) (fun _ m2 => ?_)
  refine rf_aload_n (n := 58) 0 dX9_remembers_57 rfl rfl rfl ?_
  refine rf_dupR (n := 59) dX9_remembers_58 rfl ?_
  refine rf_getI (n := 62) hG dX9_remembers_59 flX9_223 ki_9_30 sS_57 kk_57 rfl ?_
  refine rf_iconst (n := 63) (1 : Int32) dX9_remembers_62 cciconst_1 rfl ?_
  refine rf_iadd (n := 64) dX9_remembers_63 rfl ?_
  refine rf_pfI (n := 67) hG rfl dX9_remembers_64 flX9_223 ki_9_30 nf_9_30 sS_57 kk_57 rfl (fun m3 => ?_)
  exact rf_retV rfl dX9_remembers_67
def fX9_remembers_B11 (r11 : Int32 → ax_M → Option (Unit × ax_M)) (l1 : Int32) (μ : ax_M) : Option (Unit × ax_M) :=
  (if (1292 : Int32) ≤ l1 then (ax_let (ax_wi μ 57 30 ((μ.1 57 30) - (1 : Int32))) (fun m4 => (fX9_remembers_K49 m4))) else (Option.bind (ax_rd μ 75 1428 ((68 : Int32) + l1)) (fun v5 => (Option.bind (ax_wr μ 75 1428 l1 v5) (fun m6 => (r11 (l1 + (1 : Int32)) m6))))))
theorem pX9_remembers_B11 {x : ax_X} {G : ax_G} (hG : ax_ok G) (r11 : Int32 → ax_M → Option (Unit × ax_M)) (hr11 : ∀ (a1 : Int32) (μ : ax_M), ax_Rf mX9_remembers 1 x (ax_Z ax_jV x G) G 0 0 11 [some (.ref 57), some (.int a1)] [] μ (r11 a1 μ)) (l1 : Int32) (μ : ax_M) : ax_Rf mX9_remembers 1 x (ax_Z ax_jV x G) G 0 0 11 [some (.ref 57), some (.int l1)] [] μ (fX9_remembers_B11 r11 l1 μ) := by
  unfold fX9_remembers_B11
  refine rf_iload_n (n := 12) 1 dX9_remembers_11 rfl rfl rfl ?_
  refine rf_sipush (n := 15) (1292 : Int32) dX9_remembers_12 ccsipush_1292 rfl ?_
  refine rf_icmp_ge (tg := 39) (n := 18) dX9_remembers_15 rfl rfl (fun c7 => ?_) (fun c7 => ?_)
  · refine rf_aload_n (n := 40) 0 dX9_remembers_39 rfl rfl rfl ?_
    refine rf_dupR (n := 41) dX9_remembers_40 rfl ?_
    refine rf_getI (n := 44) hG dX9_remembers_41 flX9_223 ki_9_30 sS_57 kk_57 rfl ?_
    refine rf_iconst (n := 45) (1 : Int32) dX9_remembers_44 cciconst_1 rfl ?_
    refine rf_isub (n := 46) dX9_remembers_45 rfl ?_
    refine rf_pfI (n := 49) hG rfl dX9_remembers_46 flX9_223 ki_9_30 nf_9_30 sS_57 kk_57 rfl (fun m4 => ?_)
    refine rf_mask (lc2 := [some (.ref 57), none]) [true, false] rfl ?_
    exact pX9_remembers_K49 hG _
  · refine rf_aload_n (n := 19) 0 dX9_remembers_18 rfl rfl rfl ?_
    refine rf_getR (n := 22) rr_57_29 kk_75 hG dX9_remembers_19 flX9_66 ki_9_29 sS_57 kk_57 rfl ?_
    refine rf_iload_n (n := 23) 1 dX9_remembers_22 rfl rfl rfl ?_
    refine rf_aload_n (n := 24) 0 dX9_remembers_23 rfl rfl rfl ?_
    refine rf_getR (n := 27) rr_57_29 kk_75 hG dX9_remembers_24 flX9_66 ki_9_29 sS_57 kk_57 rfl ?_
    refine rf_bipush (n := 29) (68 : Int32) dX9_remembers_27 ccbipush_68 rfl ?_
    refine rf_iload_n (n := 30) 1 dX9_remembers_29 rfl rfl rfl ?_
    refine rf_iadd (n := 31) dX9_remembers_30 rfl ?_
    refine rf_iald (n := 32) hG dX9_remembers_31 sS_75 kk_75 rfl (fun v5 => ?_)
    refine rf_iast (n := 33) hG dX9_remembers_32 sS_75 kk_75 rfl (fun m6 => ?_)
    refine rf_iinc (lc2 := [some (.ref 57), some (.int (l1 + (1 : Int32)))]) (n := 36) (w := (1 : Int32)) 1 dX9_remembers_33 rfl rfl rfl (Nat.le_of_ble_eq_true rfl) rfl rfl ?_
    refine rf_goto (tg := 11) dX9_remembers_36 rfl ?_
    exact hr11 _ _
theorem pX9_remembers_L11 {x : ax_X} {G : ax_G} (hG : ax_ok G) (n : Nat) (a1 : Int32) (μ : ax_M) : ax_Rf mX9_remembers 1 x (ax_Z ax_jV x G) G 0 0 11 [some (.ref 57), some (.int a1)] [] μ (ax_lp1 (fX9_remembers_B11) n a1 μ) :=
  rf_lp1 (P := fun a1 μ t => ax_Rf mX9_remembers 1 x (ax_Z ax_jV x G) G 0 0 11 [some (.ref 57), some (.int a1)] [] μ t) (fun _ _ => rf_none) (fun rc hrc a1 μ => pX9_remembers_B11 hG rc hrc a1 μ) n a1 μ
def fX9_remembers (μ : ax_M) : Option (Unit × ax_M) :=
  (if (μ.1 57 30) = (20 : Int32) then (ax_lp1 (fX9_remembers_B11) ax_FU (0 : Int32) μ) else (fX9_remembers_K49 μ))
theorem okX9_remembers (μ : ax_M) : ax_Ok mX9_remembers 1 ax_jV [.ref 57] μ (fX9_remembers μ) := by
  refine ax_start (lc := [some (.ref 57), none]) 1 (by decide) rfl (Nat.le_of_ble_eq_true rfl) (fun x G hG => ?_)
  unfold fX9_remembers
  refine rf_aload_n (n := 1) 0 dX9_remembers_0 rfl rfl rfl ?_
  refine rf_getI (n := 4) hG dX9_remembers_1 flX9_223 ki_9_30 sS_57 kk_57 rfl ?_
  refine rf_bipush (n := 6) (20 : Int32) dX9_remembers_4 ccbipush_20 rfl ?_
  refine rf_icmp_ne (tg := 49) (n := 9) dX9_remembers_6 rfl rfl (fun c8 => ?_) (fun c8 => ?_)
  · exact pX9_remembers_K49 hG _
  · refine rf_iconst (n := 10) (0 : Int32) dX9_remembers_9 cciconst_0 rfl ?_
    refine rf_istore_n (lc2 := [some (.ref 57), some (.int (0 : Int32))]) (n := 11) 1 dX9_remembers_10 rfl rfl (Nat.le_of_ble_eq_true rfl) rfl rfl ?_
    exact pX9_remembers_L11 hG _ _ _
def fX9_period_K17 (μ : ax_M) : Option (Int32 × ax_M) :=
  (some ((-1 : Int32), μ))
theorem pX9_period_K17 {x : ax_X} {G : ax_G} (hG : ax_ok G) (μ : ax_M) : ax_Rf mX9_period 2 x (ax_Z ax_jI x G) G 0 0 17 [none, none, none] [] μ (fX9_period_K17 μ) := by
  unfold fX9_period_K17
  refine rf_iconst (n := 18) (-1 : Int32) dX9_period_17 cciconst_m1 rfl ?_
  exact rf_retI rfl dX9_period_18
def fX9_period (p1 : Int32) (μ : ax_M) : Option (Int32 × ax_M) :=
  (ax_let (ax_wi μ 57 0 (0 : Int32)) (fun m1 => (if p1 < (1 : Int32) then (fX9_period_K17 m1) else (if p1 ≤ (9999 : Int32) then (Option.bind (ax_rd m1 74 68 (0 : Int32)) (fun v2 => (ax_bd (fX9_remembers m1) (fun _ m4 => (Option.bind (ax_wr m4 74 68 (0 : Int32) p1) (fun m5 => (some (v2, m5)))))))) else (fX9_period_K17 m1)))))
theorem okX9_period (p1 : Int32) (μ : ax_M) : ax_Ok mX9_period 2 ax_jI [.ref 57, .int p1] μ (fX9_period p1 μ) := by
  refine ax_start (lc := [some (.ref 57), some (.int p1), none]) 1 (by decide) rfl (Nat.le_of_ble_eq_true rfl) (fun x G hG => ?_)
  unfold fX9_period
  refine rf_aload_n (n := 1) 0 dX9_period_0 rfl rfl rfl ?_
  refine rf_iconst (n := 2) (0 : Int32) dX9_period_1 cciconst_0 rfl ?_
  refine rf_pfI (n := 5) hG rfl dX9_period_2 flX9_103 ki_9_0 nf_9_0 sS_57 kk_57 rfl (fun m1 => ?_)
  refine rf_iload_n (n := 6) 1 dX9_period_5 rfl rfl rfl ?_
  refine rf_iconst (n := 7) (1 : Int32) dX9_period_6 cciconst_1 rfl ?_
  refine rf_icmp_lt (tg := 17) (n := 10) dX9_period_7 rfl rfl (fun c7 => ?_) (fun c7 => ?_)
  · refine rf_mask (lc2 := [none, none, none]) [false, false, true] rfl ?_
    exact pX9_period_K17 hG _
  · refine rf_iload_n (n := 11) 1 dX9_period_10 rfl rfl rfl ?_
    refine rf_sipush (n := 14) (9999 : Int32) dX9_period_11 ccsipush_9999 rfl ?_
    refine rf_icmp_le (tg := 19) (n := 17) dX9_period_14 rfl rfl (fun c6 => ?_) (fun c6 => ?_)
    · refine rf_aload_n (n := 20) 0 dX9_period_19 rfl rfl rfl ?_
      refine rf_getR (n := 23) rr_57_28 kk_74 hG dX9_period_20 flX9_63 ki_9_28 sS_57 kk_57 rfl ?_
      refine rf_iconst (n := 24) (0 : Int32) dX9_period_23 cciconst_0 rfl ?_
      refine rf_iald (n := 25) hG dX9_period_24 sS_74 kk_74 rfl (fun v2 => ?_)
      refine rf_istore_n (lc2 := [some (.ref 57), some (.int p1), some (.int v2)]) (n := 26) 2 dX9_period_25 rfl rfl (Nat.le_of_ble_eq_true rfl) rfl rfl ?_
      refine rf_aload_n (n := 27) 0 dX9_period_26 rfl rfl rfl ?_
      refine rf_cV0V (n := 30) hG (okX9_remembers _) lVX9_245 hhX9_remembers kk_57 sS_57 ⟨_, rfl, rfl⟩ dX9_period_27 rfl (Nat.le_of_ble_eq_true rfl) (Nat.le_of_ble_eq_true rfl) (fun _ m4 => ?_)
      refine rf_aload_n (n := 31) 0 dX9_period_30 rfl rfl rfl ?_
      refine rf_getR (n := 34) rr_57_28 kk_74 hG dX9_period_31 flX9_63 ki_9_28 sS_57 kk_57 rfl ?_
      refine rf_iconst (n := 35) (0 : Int32) dX9_period_34 cciconst_0 rfl ?_
      refine rf_iload_n (n := 36) 1 dX9_period_35 rfl rfl rfl ?_
      refine rf_iast (n := 37) hG dX9_period_36 sS_74 kk_74 rfl (fun m5 => ?_)
      refine rf_iload_n (n := 38) 2 dX9_period_37 rfl rfl rfl ?_
      exact rf_retI rfl dX9_period_38
    · refine rf_mask (lc2 := [none, none, none]) [false, false, true] rfl ?_
      exact pX9_period_K17 hG _
def fX1_hasPhase_K17 (s0 : Int32) (μ : ax_M) : Option (Int32 × ax_M) :=
  (some (vp_nar .boolean s0, μ))
theorem pX1_hasPhase_K17 {x : ax_X} {G : ax_G} (hG : ax_ok G) (s0 : Int32) (μ : ax_M) : ax_Rf mX1_hasPhase 0 x (ax_Z ax_jI x G) G 0 0 17 [none, none] [.int s0] μ (fX1_hasPhase_K17 s0 μ) := by
  unfold fX1_hasPhase_K17
  exact rf_retZ rfl dX1_hasPhase_17
def fX1_hasPhase_K16 (μ : ax_M) : Option (Int32 × ax_M) :=
  (fX1_hasPhase_K17 (0 : Int32) μ)
theorem pX1_hasPhase_K16 {x : ax_X} {G : ax_G} (hG : ax_ok G) (μ : ax_M) : ax_Rf mX1_hasPhase 0 x (ax_Z ax_jI x G) G 0 0 16 [none, none] [] μ (fX1_hasPhase_K16 μ) := by
  unfold fX1_hasPhase_K16
  refine rf_iconst (n := 17) (0 : Int32) dX1_hasPhase_16 cciconst_0 rfl ?_
  exact pX1_hasPhase_K17 hG _ _
def fX1_hasPhase (p1 : Int32) (μ : ax_M) : Option (Int32 × ax_M) :=
  (if p1 < 0 then (fX1_hasPhase_K16 μ) else (if (μ.1 2 12) ≤ p1 then (fX1_hasPhase_K16 μ) else (fX1_hasPhase_K17 (1 : Int32) μ)))
theorem okX1_hasPhase (p1 : Int32) (μ : ax_M) : ax_Ok mX1_hasPhase 0 ax_jI [.ref 2, .int p1] μ (fX1_hasPhase p1 μ) := by
  refine ax_start (lc := [some (.ref 2), some (.int p1)]) 0 (by decide) rfl (Nat.le_of_ble_eq_true rfl) (fun x G hG => ?_)
  unfold fX1_hasPhase
  refine rf_iload_n (n := 1) 1 dX1_hasPhase_0 rfl rfl rfl ?_
  refine rf_if_lt (tg := 16) (n := 4) dX1_hasPhase_1 rfl rfl (fun c2 => ?_) (fun c2 => ?_)
  · refine rf_mask (lc2 := [none, none]) [false, false] rfl ?_
    exact pX1_hasPhase_K16 hG _
  · refine rf_iload_n (n := 5) 1 dX1_hasPhase_4 rfl rfl rfl ?_
    refine rf_aload_n (n := 6) 0 dX1_hasPhase_5 rfl rfl rfl ?_
    refine rf_getI (n := 9) hG dX1_hasPhase_6 flX1_52 ki_1_12 sS_2 kk_2 rfl ?_
    refine rf_icmp_ge (tg := 16) (n := 12) dX1_hasPhase_9 rfl rfl (fun c1 => ?_) (fun c1 => ?_)
    · refine rf_mask (lc2 := [none, none]) [false, false] rfl ?_
      exact pX1_hasPhase_K16 hG _
    · refine rf_iconst (n := 13) (1 : Int32) dX1_hasPhase_12 cciconst_1 rfl ?_
      refine rf_goto (tg := 17) dX1_hasPhase_13 rfl ?_
      refine rf_mask (lc2 := [none, none]) [false, false] rfl ?_
      exact pX1_hasPhase_K17 hG _ _
def fX8_phase_K32 (μ : ax_M) : Option (Int32 × ax_M) :=
  (some ((0 : Int32), μ))
theorem pX8_phase_K32 {x : ax_X} {G : ax_G} (hG : ax_ok G) (μ : ax_M) : ax_Rf mX8_phase 4 x (ax_Z ax_jI x G) G 0 0 32 [none, none, none, none] [] μ (fX8_phase_K32 μ) := by
  unfold fX8_phase_K32
  refine rf_iconst (n := 33) (0 : Int32) dX8_phase_32 cciconst_0 rfl ?_
  exact rf_retB rfl (Or.inl rfl) dX8_phase_33
def fX8_phase (p1 : Int32) (p2 : Int32) (p3 : Int32) (μ : ax_M) : Option (Int32 × ax_M) :=
  (ax_bd (fX1_hasPhase p1 μ) (fun v1 m2 => (if v1 = 0 then (fX8_phase_K32 m2) else (if p2 < 0 then (fX8_phase_K32 m2) else (if (64 : Int32) ≤ p2 then (fX8_phase_K32 m2) else (if p3 < (1 : Int32) then (fX8_phase_K32 m2) else (if p3 < (64 : Int32) then (ax_bd (fX8_beginChange m2) (fun _ m4 => (Option.bind (ax_wr m4 4 4 p1 p2) (fun m5 => (Option.bind (ax_wr m5 5 4 p1 p3) (fun m6 => (some ((1 : Int32), m6)))))))) else (fX8_phase_K32 m2))))))))
theorem okX8_phase (p1 : Int32) (p2 : Int32) (p3 : Int32) (μ : ax_M) : ax_Ok mX8_phase 4 ax_jI [.ref 0, .int p1, .int p2, .int p3] μ (fX8_phase p1 p2 p3 μ) := by
  refine ax_start (lc := [some (.ref 0), some (.int p1), some (.int p2), some (.int p3)]) 0 (by decide) rfl (Nat.le_of_ble_eq_true rfl) (fun x G hG => ?_)
  unfold fX8_phase
  refine rf_aload_n (n := 1) 0 dX8_phase_0 rfl rfl rfl ?_
  refine rf_getR (n := 4) rr_0_2 kk_2 hG dX8_phase_1 flX8_16 ki_8_2 sS_0 kk_0 rfl ?_
  refine rf_iload_n (n := 5) 1 dX8_phase_4 rfl rfl rfl ?_
  refine rf_cV1I (n := 8) hG (okX1_hasPhase _ _) lVX8_134 hhX1_hasPhase kk_2 sS_2 ⟨_, rfl, rfl⟩ dX8_phase_5 rfl (Nat.le_of_ble_eq_true rfl) (Nat.le_of_ble_eq_true rfl) (fun v1 m2 => ?_)
  refine rf_if_eq (tg := 32) (n := 11) dX8_phase_8 rfl rfl (fun c11 => ?_) (fun c11 => ?_)
  · refine rf_mask (lc2 := [none, none, none, none]) [false, false, false, false] rfl ?_
    exact pX8_phase_K32 hG _
  · refine rf_iload_n (n := 12) 2 dX8_phase_11 rfl rfl rfl ?_
    refine rf_if_lt (tg := 32) (n := 15) dX8_phase_12 rfl rfl (fun c10 => ?_) (fun c10 => ?_)
    · refine rf_mask (lc2 := [none, none, none, none]) [false, false, false, false] rfl ?_
      exact pX8_phase_K32 hG _
    · refine rf_iload_n (n := 16) 2 dX8_phase_15 rfl rfl rfl ?_
      refine rf_bipush (n := 18) (64 : Int32) dX8_phase_16 ccbipush_64 rfl ?_
      refine rf_icmp_ge (tg := 32) (n := 21) dX8_phase_18 rfl rfl (fun c9 => ?_) (fun c9 => ?_)
      · refine rf_mask (lc2 := [none, none, none, none]) [false, false, false, false] rfl ?_
        exact pX8_phase_K32 hG _
      · refine rf_iload_n (n := 22) 3 dX8_phase_21 rfl rfl rfl ?_
        refine rf_iconst (n := 23) (1 : Int32) dX8_phase_22 cciconst_1 rfl ?_
        refine rf_icmp_lt (tg := 32) (n := 26) dX8_phase_23 rfl rfl (fun c8 => ?_) (fun c8 => ?_)
        · refine rf_mask (lc2 := [none, none, none, none]) [false, false, false, false] rfl ?_
          exact pX8_phase_K32 hG _
        · refine rf_iload_n (n := 27) 3 dX8_phase_26 rfl rfl rfl ?_
          refine rf_bipush (n := 29) (64 : Int32) dX8_phase_27 ccbipush_64 rfl ?_
          refine rf_icmp_lt (tg := 34) (n := 32) dX8_phase_29 rfl rfl (fun c7 => ?_) (fun c7 => ?_)
          · refine rf_aload_n (n := 35) 0 dX8_phase_34 rfl rfl rfl ?_
            refine rf_cV0V (n := 38) hG (okX8_beginChange _) lVX8_131 hhX8_beginChange kk_0 sS_0 ⟨_, rfl, rfl⟩ dX8_phase_35 rfl (Nat.le_of_ble_eq_true rfl) (Nat.le_of_ble_eq_true rfl) (fun _ m4 => ?_)
            refine rf_aload_n (n := 39) 0 dX8_phase_38 rfl rfl rfl ?_
            refine rf_getR (n := 42) rr_0_2 kk_2 hG dX8_phase_39 flX8_16 ki_8_2 sS_0 kk_0 rfl ?_
            refine rf_getR (n := 45) rr_2_1 kk_4 hG dX8_phase_42 flX8_137 ki_1_1 sS_2 kk_2 rfl ?_
            refine rf_iload_n (n := 46) 1 dX8_phase_45 rfl rfl rfl ?_
            refine rf_iload_n (n := 47) 2 dX8_phase_46 rfl rfl rfl ?_
            refine rf_iast (n := 48) hG dX8_phase_47 sS_4 kk_4 rfl (fun m5 => ?_)
            refine rf_aload_n (n := 49) 0 dX8_phase_48 rfl rfl rfl ?_
            refine rf_getR (n := 52) rr_0_2 kk_2 hG dX8_phase_49 flX8_16 ki_8_2 sS_0 kk_0 rfl ?_
            refine rf_getR (n := 55) rr_2_2 kk_5 hG dX8_phase_52 flX8_140 ki_1_2 sS_2 kk_2 rfl ?_
            refine rf_iload_n (n := 56) 1 dX8_phase_55 rfl rfl rfl ?_
            refine rf_iload_n (n := 57) 3 dX8_phase_56 rfl rfl rfl ?_
            refine rf_iast (n := 58) hG dX8_phase_57 sS_5 kk_5 rfl (fun m6 => ?_)
            refine rf_iconst (n := 59) (1 : Int32) dX8_phase_58 cciconst_1 rfl ?_
            exact rf_retB rfl (Or.inr rfl) dX8_phase_59
          · refine rf_mask (lc2 := [none, none, none, none]) [false, false, false, false] rfl ?_
            exact pX8_phase_K32 hG _
def fX9_isPhase_K17 (s0 : Int32) (μ : ax_M) : Option (Int32 × ax_M) :=
  (some (vp_nar .boolean s0, μ))
theorem pX9_isPhase_K17 {x : ax_X} {G : ax_G} (hG : ax_ok G) (s0 : Int32) (μ : ax_M) : ax_Rf mX9_isPhase 1 x (ax_Z ax_jI x G) G 0 0 17 [none, none] [.int s0] μ (fX9_isPhase_K17 s0 μ) := by
  unfold fX9_isPhase_K17
  exact rf_retZ rfl dX9_isPhase_17
def fX9_isPhase_K16 (μ : ax_M) : Option (Int32 × ax_M) :=
  (fX9_isPhase_K17 (0 : Int32) μ)
theorem pX9_isPhase_K16 {x : ax_X} {G : ax_G} (hG : ax_ok G) (μ : ax_M) : ax_Rf mX9_isPhase 1 x (ax_Z ax_jI x G) G 0 0 16 [none, none] [] μ (fX9_isPhase_K16 μ) := by
  unfold fX9_isPhase_K16
  refine rf_iconst (n := 17) (0 : Int32) dX9_isPhase_16 cciconst_0 rfl ?_
  exact pX9_isPhase_K17 hG _ _
def fX9_isPhase (p1 : Int32) (μ : ax_M) : Option (Int32 × ax_M) :=
  (if p1 < 0 then (fX9_isPhase_K16 μ) else (ax_bd (fX9_phases μ) (fun v1 m2 => (if v1 ≤ p1 then (fX9_isPhase_K16 m2) else (fX9_isPhase_K17 (1 : Int32) m2)))))
theorem okX9_isPhase (p1 : Int32) (μ : ax_M) : ax_Ok mX9_isPhase 1 ax_jI [.ref 57, .int p1] μ (fX9_isPhase p1 μ) := by
  refine ax_start (lc := [some (.ref 57), some (.int p1)]) 0 (by decide) rfl (Nat.le_of_ble_eq_true rfl) (fun x G hG => ?_)
  unfold fX9_isPhase
  refine rf_iload_n (n := 1) 1 dX9_isPhase_0 rfl rfl rfl ?_
  refine rf_if_lt (tg := 16) (n := 4) dX9_isPhase_1 rfl rfl (fun c4 => ?_) (fun c4 => ?_)
  · refine rf_mask (lc2 := [none, none]) [false, false] rfl ?_
    exact pX9_isPhase_K16 hG _
  · refine rf_iload_n (n := 5) 1 dX9_isPhase_4 rfl rfl rfl ?_
    refine rf_aload_n (n := 6) 0 dX9_isPhase_5 rfl rfl rfl ?_
    refine rf_cV0I (n := 9) hG (okX9_phases _) lVX9_230 hhX9_phases kk_57 sS_57 ⟨_, rfl, rfl⟩ dX9_isPhase_6 rfl (Nat.le_of_ble_eq_true rfl) (Nat.le_of_ble_eq_true rfl) (fun v1 m2 => ?_)
    refine rf_icmp_ge (tg := 16) (n := 12) dX9_isPhase_9 rfl rfl (fun c3 => ?_) (fun c3 => ?_)
    · refine rf_mask (lc2 := [none, none]) [false, false] rfl ?_
      exact pX9_isPhase_K16 hG _
    · refine rf_iconst (n := 13) (1 : Int32) dX9_isPhase_12 cciconst_1 rfl ?_
      refine rf_goto (tg := 17) dX9_isPhase_13 rfl ?_
      refine rf_mask (lc2 := [none, none]) [false, false] rfl ?_
      exact pX9_isPhase_K17 hG _ _
def fX9_phase_K34 (μ : ax_M) : Option (Int32 × ax_M) :=
  (some ((0 : Int32), μ))
theorem pX9_phase_K34 {x : ax_X} {G : ax_G} (hG : ax_ok G) (μ : ax_M) : ax_Rf mX9_phase 2 x (ax_Z ax_jI x G) G 0 0 34 [none, none, none, none] [] μ (fX9_phase_K34 μ) := by
  unfold fX9_phase_K34
  refine rf_iconst (n := 35) (0 : Int32) dX9_phase_34 cciconst_0 rfl ?_
  exact rf_retB rfl (Or.inl rfl) dX9_phase_35
def fX9_phase (p1 : Int32) (p2 : Int32) (p3 : Int32) (μ : ax_M) : Option (Int32 × ax_M) :=
  (ax_let (ax_wi μ 57 0 (0 : Int32)) (fun m1 => (ax_bd (fX9_isPhase p1 m1) (fun v2 m3 => (if v2 = 0 then (fX9_phase_K34 m3) else (if p2 < 0 then (fX9_phase_K34 m3) else (if (63 : Int32) < p2 then (fX9_phase_K34 m3) else (if p3 < (1 : Int32) then (fX9_phase_K34 m3) else (if p3 ≤ (63 : Int32) then (ax_bd (fX9_remembers m3) (fun _ m5 => (Option.bind (ax_wr m5 74 68 ((1 : Int32) + p1) p2) (fun m6 => (Option.bind (ax_wr m6 74 68 ((5 : Int32) + p1) p3) (fun m7 => (some ((1 : Int32), m7)))))))) else (fX9_phase_K34 m3))))))))))
theorem okX9_phase (p1 : Int32) (p2 : Int32) (p3 : Int32) (μ : ax_M) : ax_Ok mX9_phase 2 ax_jI [.ref 57, .int p1, .int p2, .int p3] μ (fX9_phase p1 p2 p3 μ) := by
  refine ax_start (lc := [some (.ref 57), some (.int p1), some (.int p2), some (.int p3)]) 0 (by decide) rfl (Nat.le_of_ble_eq_true rfl) (fun x G hG => ?_)
  unfold fX9_phase
  refine rf_aload_n (n := 1) 0 dX9_phase_0 rfl rfl rfl ?_
  refine rf_iconst (n := 2) (0 : Int32) dX9_phase_1 cciconst_0 rfl ?_
  refine rf_pfI (n := 5) hG rfl dX9_phase_2 flX9_103 ki_9_0 nf_9_0 sS_57 kk_57 rfl (fun m1 => ?_)
  refine rf_aload_n (n := 6) 0 dX9_phase_5 rfl rfl rfl ?_
  refine rf_iload_n (n := 7) 1 dX9_phase_6 rfl rfl rfl ?_
  refine rf_cV1I (n := 10) hG (okX9_isPhase _ _) lVX9_262 hhX9_isPhase kk_57 sS_57 ⟨_, rfl, rfl⟩ dX9_phase_7 rfl (Nat.le_of_ble_eq_true rfl) (Nat.le_of_ble_eq_true rfl) (fun v2 m3 => ?_)
  refine rf_if_eq (tg := 34) (n := 13) dX9_phase_10 rfl rfl (fun c12 => ?_) (fun c12 => ?_)
  · refine rf_mask (lc2 := [none, none, none, none]) [false, false, false, false] rfl ?_
    exact pX9_phase_K34 hG _
  · refine rf_iload_n (n := 14) 2 dX9_phase_13 rfl rfl rfl ?_
    refine rf_if_lt (tg := 34) (n := 17) dX9_phase_14 rfl rfl (fun c11 => ?_) (fun c11 => ?_)
    · refine rf_mask (lc2 := [none, none, none, none]) [false, false, false, false] rfl ?_
      exact pX9_phase_K34 hG _
    · refine rf_iload_n (n := 18) 2 dX9_phase_17 rfl rfl rfl ?_
      refine rf_bipush (n := 20) (63 : Int32) dX9_phase_18 ccbipush_63 rfl ?_
      refine rf_icmp_gt (tg := 34) (n := 23) dX9_phase_20 rfl rfl (fun c10 => ?_) (fun c10 => ?_)
      · refine rf_mask (lc2 := [none, none, none, none]) [false, false, false, false] rfl ?_
        exact pX9_phase_K34 hG _
      · refine rf_iload_n (n := 24) 3 dX9_phase_23 rfl rfl rfl ?_
        refine rf_iconst (n := 25) (1 : Int32) dX9_phase_24 cciconst_1 rfl ?_
        refine rf_icmp_lt (tg := 34) (n := 28) dX9_phase_25 rfl rfl (fun c9 => ?_) (fun c9 => ?_)
        · refine rf_mask (lc2 := [none, none, none, none]) [false, false, false, false] rfl ?_
          exact pX9_phase_K34 hG _
        · refine rf_iload_n (n := 29) 3 dX9_phase_28 rfl rfl rfl ?_
          refine rf_bipush (n := 31) (63 : Int32) dX9_phase_29 ccbipush_63 rfl ?_
          refine rf_icmp_le (tg := 36) (n := 34) dX9_phase_31 rfl rfl (fun c8 => ?_) (fun c8 => ?_)
          · refine rf_aload_n (n := 37) 0 dX9_phase_36 rfl rfl rfl ?_
            refine rf_cV0V (n := 40) hG (okX9_remembers _) lVX9_245 hhX9_remembers kk_57 sS_57 ⟨_, rfl, rfl⟩ dX9_phase_37 rfl (Nat.le_of_ble_eq_true rfl) (Nat.le_of_ble_eq_true rfl) (fun _ m5 => ?_)
            refine rf_aload_n (n := 41) 0 dX9_phase_40 rfl rfl rfl ?_
            refine rf_getR (n := 44) rr_57_28 kk_74 hG dX9_phase_41 flX9_63 ki_9_28 sS_57 kk_57 rfl ?_
            refine rf_iconst (n := 45) (1 : Int32) dX9_phase_44 cciconst_1 rfl ?_
            refine rf_iload_n (n := 46) 1 dX9_phase_45 rfl rfl rfl ?_
            refine rf_iadd (n := 47) dX9_phase_46 rfl ?_
            refine rf_iload_n (n := 48) 2 dX9_phase_47 rfl rfl rfl ?_
            refine rf_iast (n := 49) hG dX9_phase_48 sS_74 kk_74 rfl (fun m6 => ?_)
            refine rf_aload_n (n := 50) 0 dX9_phase_49 rfl rfl rfl ?_
            refine rf_getR (n := 53) rr_57_28 kk_74 hG dX9_phase_50 flX9_63 ki_9_28 sS_57 kk_57 rfl ?_
            refine rf_iconst (n := 54) (5 : Int32) dX9_phase_53 cciconst_5 rfl ?_
            refine rf_iload_n (n := 55) 1 dX9_phase_54 rfl rfl rfl ?_
            refine rf_iadd (n := 56) dX9_phase_55 rfl ?_
            refine rf_iload_n (n := 57) 3 dX9_phase_56 rfl rfl rfl ?_
            refine rf_iast (n := 58) hG dX9_phase_57 sS_74 kk_74 rfl (fun m7 => ?_)
            refine rf_iconst (n := 59) (1 : Int32) dX9_phase_58 cciconst_1 rfl ?_
            exact rf_retB rfl (Or.inr rfl) dX9_phase_59
          · refine rf_mask (lc2 := [none, none, none, none]) [false, false, false, false] rfl ?_
            exact pX9_phase_K34 hG _
