def fX8_putFour_B3 (l1 : Int32) (r3 : Int32 → ax_M → Option (Unit × ax_M)) (l2 : Int32) (μ : ax_M) : Option (Unit × ax_M) :=
  (if l2 < 0 then (some ((), μ)) else (Option.bind (ax_wr μ 1 700 (μ.1 0 1) ((ax_us l1 l2) &&& (255 : Int32))) (fun m1 => (ax_let (ax_wi m1 0 1 ((m1.1 0 1) + (1 : Int32))) (fun m2 => (r3 (l2 + (-8 : Int32)) m2))))))
theorem pX8_putFour_B3 {x : ax_X} {G : ax_G} (hG : ax_ok G) (l1 : Int32) (r3 : Int32 → ax_M → Option (Unit × ax_M)) (hr3 : ∀ (a2 : Int32) (μ : ax_M), ax_Rf mX8_putFour 0 x (ax_Z ax_jV x G) G 0 0 3 [some (.ref 0), some (.int l1), some (.int a2)] [] μ (r3 a2 μ)) (l2 : Int32) (μ : ax_M) : ax_Rf mX8_putFour 0 x (ax_Z ax_jV x G) G 0 0 3 [some (.ref 0), some (.int l1), some (.int l2)] [] μ (fX8_putFour_B3 l1 r3 l2 μ) := by
  unfold fX8_putFour_B3
  refine rf_iload_n (n := 4) 2 dX8_putFour_3 rfl rfl rfl ?_
  refine rf_if_lt (tg := 39) (n := 7) dX8_putFour_4 rfl rfl (fun c3 => ?_) (fun c3 => ?_)
  · exact rf_retV rfl dX8_putFour_39
  · refine rf_aload_n (n := 8) 0 dX8_putFour_7 rfl rfl rfl ?_
    refine rf_getR (n := 11) rr_0_0 kk_1 hG dX8_putFour_8 flX8_9 ki_8_0 sS_0 kk_0 rfl ?_
    refine rf_aload_n (n := 12) 0 dX8_putFour_11 rfl rfl rfl ?_
    refine rf_getI (n := 15) hG dX8_putFour_12 flX8_68 ki_8_1 sS_0 kk_0 rfl ?_
    refine rf_iload_n (n := 16) 1 dX8_putFour_15 rfl rfl rfl ?_
    refine rf_iload_n (n := 17) 2 dX8_putFour_16 rfl rfl rfl ?_
    refine rf_iushr (n := 18) dX8_putFour_17 rfl ?_
    refine rf_sipush (n := 21) (255 : Int32) dX8_putFour_18 ccsipush_255 rfl ?_
    refine rf_iand (n := 22) dX8_putFour_21 rfl ?_
    refine rf_iast (n := 23) hG dX8_putFour_22 sS_1 kk_1 rfl (fun m1 => ?_)
    refine rf_aload_n (n := 24) 0 dX8_putFour_23 rfl rfl rfl ?_
    refine rf_dupR (n := 25) dX8_putFour_24 rfl ?_
    refine rf_getI (n := 28) hG dX8_putFour_25 flX8_68 ki_8_1 sS_0 kk_0 rfl ?_
    refine rf_iconst (n := 29) (1 : Int32) dX8_putFour_28 cciconst_1 rfl ?_
    refine rf_iadd (n := 30) dX8_putFour_29 rfl ?_
    refine rf_pfI (n := 33) hG rfl dX8_putFour_30 flX8_68 ki_8_1 nf_8_1 sS_0 kk_0 rfl (fun m2 => ?_)
    refine rf_iinc (lc2 := [some (.ref 0), some (.int l1), some (.int (l2 + (-8 : Int32)))]) (n := 36) (w := (-8 : Int32)) 2 dX8_putFour_33 rfl rfl rfl (Nat.le_of_ble_eq_true rfl) rfl rfl ?_
    refine rf_goto (tg := 3) dX8_putFour_36 rfl ?_
    exact hr3 _ _
theorem pX8_putFour_L3 {x : ax_X} {G : ax_G} (hG : ax_ok G) (l1 : Int32) (n : Nat) (a2 : Int32) (μ : ax_M) : ax_Rf mX8_putFour 0 x (ax_Z ax_jV x G) G 0 0 3 [some (.ref 0), some (.int l1), some (.int a2)] [] μ (ax_lp1 (fX8_putFour_B3 l1) n a2 μ) :=
  rf_lp1 (P := fun a2 μ t => ax_Rf mX8_putFour 0 x (ax_Z ax_jV x G) G 0 0 3 [some (.ref 0), some (.int l1), some (.int a2)] [] μ t) (fun _ _ => rf_none) (fun rc hrc a2 μ => pX8_putFour_B3 hG l1 rc hrc a2 μ) n a2 μ
def fX8_putFour (p1 : Int32) (μ : ax_M) : Option (Unit × ax_M) :=
  (ax_lp1 (fX8_putFour_B3 p1) ax_FU (24 : Int32) μ)
theorem okX8_putFour (p1 : Int32) (μ : ax_M) : ax_Ok mX8_putFour 0 ax_jV [.ref 0, .int p1] μ (fX8_putFour p1 μ) := by
  refine ax_start (lc := [some (.ref 0), some (.int p1), none]) 1 (by decide +kernel) rfl (Nat.le_of_ble_eq_true rfl) (fun x G hG => ?_)
  unfold fX8_putFour
  refine rf_bipush (n := 2) (24 : Int32) dX8_putFour_0 ccbipush_24 rfl ?_
  refine rf_istore_n (lc2 := [some (.ref 0), some (.int p1), some (.int (24 : Int32))]) (n := 3) 2 dX8_putFour_2 rfl rfl (Nat.le_of_ble_eq_true rfl) rfl rfl ?_
  exact pX8_putFour_L3 hG _ _ _ _
def fX8_feed (p1 : Int32) (p2 : Int32) (p3 : Int32) (p4 : Int32) (p5 : Int32) (μ : ax_M) : Option (Int32 × ax_M) :=
  (if ((μ.1 0 1) + (20 : Int32)) ≤ (700 : Int32) then (ax_bd (fX8_putFour p1 μ) (fun _ m2 => (ax_bd (fX8_putFour p2 m2) (fun _ m4 => (ax_bd (fX8_putFour p3 m4) (fun _ m6 => (ax_bd (fX8_putFour p4 m6) (fun _ m8 => (ax_bd (fX8_putFour p5 m8) (fun _ m10 => (some ((m10.1 0 1), m10)))))))))))) else (some ((-1 : Int32), μ)))
theorem okX8_feed (p1 : Int32) (p2 : Int32) (p3 : Int32) (p4 : Int32) (p5 : Int32) (μ : ax_M) : ax_Ok mX8_feed 1 ax_jI [.ref 0, .int p1, .int p2, .int p3, .int p4, .int p5] μ (fX8_feed p1 p2 p3 p4 p5 μ) := by
  refine ax_start (lc := [some (.ref 0), some (.int p1), some (.int p2), some (.int p3), some (.int p4), some (.int p5)]) 0 (by decide +kernel) rfl (Nat.le_of_ble_eq_true rfl) (fun x G hG => ?_)
  unfold fX8_feed
  refine rf_aload_n (n := 1) 0 dX8_feed_0 rfl rfl rfl ?_
  refine rf_getI (n := 4) hG dX8_feed_1 flX8_68 ki_8_1 sS_0 kk_0 rfl ?_
  refine rf_bipush (n := 6) (20 : Int32) dX8_feed_4 ccbipush_20 rfl ?_
  refine rf_iadd (n := 7) dX8_feed_6 rfl ?_
  refine rf_sipush (n := 10) (700 : Int32) dX8_feed_7 ccsipush_700 rfl ?_
  refine rf_icmp_le (tg := 15) (n := 13) dX8_feed_10 rfl rfl (fun c11 => ?_) (fun c11 => ?_)
  · refine rf_aload_n (n := 16) 0 dX8_feed_15 rfl rfl rfl ?_
    refine rf_iload_n (n := 17) 1 dX8_feed_16 rfl rfl rfl ?_
    refine rf_cV1V (n := 20) hG (okX8_putFour _ _) lVX8_72 hhX8_putFour kk_0 sS_0 ⟨_, rfl, rfl⟩ dX8_feed_17 rfl (Nat.le_of_ble_eq_true rfl) (Nat.le_of_ble_eq_true rfl) (fun _ m2 => ?_)
    refine rf_aload_n (n := 21) 0 dX8_feed_20 rfl rfl rfl ?_
    refine rf_iload_n (n := 22) 2 dX8_feed_21 rfl rfl rfl ?_
    refine rf_cV1V (n := 25) hG (okX8_putFour _ _) lVX8_72 hhX8_putFour kk_0 sS_0 ⟨_, rfl, rfl⟩ dX8_feed_22 rfl (Nat.le_of_ble_eq_true rfl) (Nat.le_of_ble_eq_true rfl) (fun _ m4 => ?_)
    refine rf_aload_n (n := 26) 0 dX8_feed_25 rfl rfl rfl ?_
    refine rf_iload_n (n := 27) 3 dX8_feed_26 rfl rfl rfl ?_
    refine rf_cV1V (n := 30) hG (okX8_putFour _ _) lVX8_72 hhX8_putFour kk_0 sS_0 ⟨_, rfl, rfl⟩ dX8_feed_27 rfl (Nat.le_of_ble_eq_true rfl) (Nat.le_of_ble_eq_true rfl) (fun _ m6 => ?_)
    refine rf_aload_n (n := 31) 0 dX8_feed_30 rfl rfl rfl ?_
    refine rf_iload (n := 33) 4 dX8_feed_31 rfl rfl ?_
    refine rf_cV1V (n := 36) hG (okX8_putFour _ _) lVX8_72 hhX8_putFour kk_0 sS_0 ⟨_, rfl, rfl⟩ dX8_feed_33 rfl (Nat.le_of_ble_eq_true rfl) (Nat.le_of_ble_eq_true rfl) (fun _ m8 => ?_)
    refine rf_aload_n (n := 37) 0 dX8_feed_36 rfl rfl rfl ?_
    refine rf_iload (n := 39) 5 dX8_feed_37 rfl rfl ?_
    refine rf_cV1V (n := 42) hG (okX8_putFour _ _) lVX8_72 hhX8_putFour kk_0 sS_0 ⟨_, rfl, rfl⟩ dX8_feed_39 rfl (Nat.le_of_ble_eq_true rfl) (Nat.le_of_ble_eq_true rfl) (fun _ m10 => ?_)
    refine rf_aload_n (n := 43) 0 dX8_feed_42 rfl rfl rfl ?_
    refine rf_getI (n := 46) hG dX8_feed_43 flX8_68 ki_8_1 sS_0 kk_0 rfl ?_
    exact rf_retI rfl dX8_feed_46
  · refine rf_iconst (n := 14) (-1 : Int32) dX8_feed_13 cciconst_m1 rfl ?_
    exact rf_retI rfl dX8_feed_14
def fX9_feed_K73 (l1 : Int32) (l2 : Int32) (l3 : Int32) (l4 : Int32) (l5 : Int32) (l6 : Int32) (s0 : Int32) (r20 : Int32 → ax_M → Option (Int32 × ax_M)) (μ : ax_M) : Option (Int32 × ax_M) :=
  (Option.bind (ax_rm l6 (4 : Int32)) (fun v3 => (Option.bind (ax_wr μ 58 700 ((μ.1 57 2) + l6) ((s0 >>> (((24 : Int32) - ((8 : Int32) * v3)) &&& 31)) &&& (255 : Int32))) (fun m4 => (r20 (l6 + (1 : Int32)) m4)))))
theorem pX9_feed_K73 {x : ax_X} {G : ax_G} (hG : ax_ok G) (l1 : Int32) (l2 : Int32) (l3 : Int32) (l4 : Int32) (l5 : Int32) (l6 : Int32) (s0 : Int32) (r20 : Int32 → ax_M → Option (Int32 × ax_M)) (hr20 : ∀ (a6 : Int32) (μ : ax_M), ax_Rf mX9_feed 0 x (ax_Z ax_jI x G) G 0 0 20 [some (.ref 57), some (.int l1), some (.int l2), some (.int l3), some (.int l4), some (.int l5), some (.int a6), none] [] μ (r20 a6 μ)) (μ : ax_M) : ax_Rf mX9_feed 0 x (ax_Z ax_jI x G) G 0 0 73 [some (.ref 57), some (.int l1), some (.int l2), some (.int l3), some (.int l4), some (.int l5), some (.int l6), none] [.int s0] μ (fX9_feed_K73 l1 l2 l3 l4 l5 l6 s0 r20 μ) := by
  unfold fX9_feed_K73
  refine rf_istore (lc2 := [some (.ref 57), some (.int l1), some (.int l2), some (.int l3), some (.int l4), some (.int l5), some (.int l6), some (.int s0)]) (n := 75) 7 dX9_feed_73 rfl (Nat.le_of_ble_eq_true rfl) rfl rfl ?_
  refine rf_aload_n (n := 76) 0 dX9_feed_75 rfl rfl rfl ?_
  refine rf_getR (n := 79) rr_57_1 kk_58 hG dX9_feed_76 flX9_7 ki_9_1 sS_57 kk_57 rfl ?_
  refine rf_aload_n (n := 80) 0 dX9_feed_79 rfl rfl rfl ?_
  refine rf_getI (n := 83) hG dX9_feed_80 flX9_106 ki_9_2 sS_57 kk_57 rfl ?_
  refine rf_iload (n := 85) 6 dX9_feed_83 rfl rfl ?_
  refine rf_iadd (n := 86) dX9_feed_85 rfl ?_
  refine rf_iload (n := 88) 7 dX9_feed_86 rfl rfl ?_
  refine rf_bipush (n := 90) (24 : Int32) dX9_feed_88 ccbipush_24 rfl ?_
  refine rf_bipush (n := 92) (8 : Int32) dX9_feed_90 ccbipush_8 rfl ?_
  refine rf_iload (n := 94) 6 dX9_feed_92 rfl rfl ?_
  refine rf_iconst (n := 95) (4 : Int32) dX9_feed_94 cciconst_4 rfl ?_
  refine rf_irem (n := 96) dX9_feed_95 rfl (fun v3 => ?_)
  refine rf_imul (n := 97) dX9_feed_96 rfl ?_
  refine rf_isub (n := 98) dX9_feed_97 rfl ?_
  refine rf_ishr (n := 99) dX9_feed_98 rfl ?_
  refine rf_sipush (n := 102) (255 : Int32) dX9_feed_99 ccsipush_255 rfl ?_
  refine rf_iand (n := 103) dX9_feed_102 rfl ?_
  refine rf_iast (n := 104) hG dX9_feed_103 sS_58 kk_58 rfl (fun m4 => ?_)
  refine rf_iinc (lc2 := [some (.ref 57), some (.int l1), some (.int l2), some (.int l3), some (.int l4), some (.int l5), some (.int (l6 + (1 : Int32))), some (.int s0)]) (n := 107) (w := (1 : Int32)) 6 dX9_feed_104 rfl rfl rfl (Nat.le_of_ble_eq_true rfl) rfl rfl ?_
  refine rf_goto (tg := 20) dX9_feed_107 rfl ?_
  refine rf_mask (lc2 := [some (.ref 57), some (.int l1), some (.int l2), some (.int l3), some (.int l4), some (.int l5), some (.int (l6 + (1 : Int32))), none]) [true, true, true, true, true, true, true, false] rfl ?_
  exact hr20 _ _
def fX9_feed_B20 (l1 : Int32) (l2 : Int32) (l3 : Int32) (l4 : Int32) (l5 : Int32) (r20 : Int32 → ax_M → Option (Int32 × ax_M)) (l6 : Int32) (μ : ax_M) : Option (Int32 × ax_M) :=
  (if (20 : Int32) ≤ l6 then (ax_let (ax_wi μ 57 2 ((μ.1 57 2) + (20 : Int32))) (fun m2 => (some ((m2.1 57 2), m2)))) else (if (4 : Int32) ≤ l6 then (if (8 : Int32) ≤ l6 then (if (12 : Int32) ≤ l6 then (if (16 : Int32) ≤ l6 then (fX9_feed_K73 l1 l2 l3 l4 l5 l6 l5 r20 μ) else (fX9_feed_K73 l1 l2 l3 l4 l5 l6 l4 r20 μ)) else (fX9_feed_K73 l1 l2 l3 l4 l5 l6 l3 r20 μ)) else (fX9_feed_K73 l1 l2 l3 l4 l5 l6 l2 r20 μ)) else (fX9_feed_K73 l1 l2 l3 l4 l5 l6 l1 r20 μ)))
theorem pX9_feed_B20 {x : ax_X} {G : ax_G} (hG : ax_ok G) (l1 : Int32) (l2 : Int32) (l3 : Int32) (l4 : Int32) (l5 : Int32) (r20 : Int32 → ax_M → Option (Int32 × ax_M)) (hr20 : ∀ (a6 : Int32) (μ : ax_M), ax_Rf mX9_feed 0 x (ax_Z ax_jI x G) G 0 0 20 [some (.ref 57), some (.int l1), some (.int l2), some (.int l3), some (.int l4), some (.int l5), some (.int a6), none] [] μ (r20 a6 μ)) (l6 : Int32) (μ : ax_M) : ax_Rf mX9_feed 0 x (ax_Z ax_jI x G) G 0 0 20 [some (.ref 57), some (.int l1), some (.int l2), some (.int l3), some (.int l4), some (.int l5), some (.int l6), none] [] μ (fX9_feed_B20 l1 l2 l3 l4 l5 r20 l6 μ) := by
  unfold fX9_feed_B20
  refine rf_iload (n := 22) 6 dX9_feed_20 rfl rfl ?_
  refine rf_bipush (n := 24) (20 : Int32) dX9_feed_22 ccbipush_20 rfl ?_
  refine rf_icmp_ge (tg := 110) (n := 27) dX9_feed_24 rfl rfl (fun c9 => ?_) (fun c9 => ?_)
  · refine rf_aload_n (n := 111) 0 dX9_feed_110 rfl rfl rfl ?_
    refine rf_dupR (n := 112) dX9_feed_111 rfl ?_
    refine rf_getI (n := 115) hG dX9_feed_112 flX9_106 ki_9_2 sS_57 kk_57 rfl ?_
    refine rf_bipush (n := 117) (20 : Int32) dX9_feed_115 ccbipush_20 rfl ?_
    refine rf_iadd (n := 118) dX9_feed_117 rfl ?_
    refine rf_pfI (n := 121) hG rfl dX9_feed_118 flX9_106 ki_9_2 nf_9_2 sS_57 kk_57 rfl (fun m2 => ?_)
    refine rf_aload_n (n := 122) 0 dX9_feed_121 rfl rfl rfl ?_
    refine rf_getI (n := 125) hG dX9_feed_122 flX9_106 ki_9_2 sS_57 kk_57 rfl ?_
    exact rf_retI rfl dX9_feed_125
  · refine rf_iload (n := 29) 6 dX9_feed_27 rfl rfl ?_
    refine rf_iconst (n := 30) (4 : Int32) dX9_feed_29 cciconst_4 rfl ?_
    refine rf_icmp_ge (tg := 37) (n := 33) dX9_feed_30 rfl rfl (fun c8 => ?_) (fun c8 => ?_)
    · refine rf_iload (n := 39) 6 dX9_feed_37 rfl rfl ?_
      refine rf_bipush (n := 41) (8 : Int32) dX9_feed_39 ccbipush_8 rfl ?_
      refine rf_icmp_ge (tg := 48) (n := 44) dX9_feed_41 rfl rfl (fun c7 => ?_) (fun c7 => ?_)
      · refine rf_iload (n := 50) 6 dX9_feed_48 rfl rfl ?_
        refine rf_bipush (n := 52) (12 : Int32) dX9_feed_50 ccbipush_12 rfl ?_
        refine rf_icmp_ge (tg := 59) (n := 55) dX9_feed_52 rfl rfl (fun c6 => ?_) (fun c6 => ?_)
        · refine rf_iload (n := 61) 6 dX9_feed_59 rfl rfl ?_
          refine rf_bipush (n := 63) (16 : Int32) dX9_feed_61 ccbipush_16 rfl ?_
          refine rf_icmp_ge (tg := 71) (n := 66) dX9_feed_63 rfl rfl (fun c5 => ?_) (fun c5 => ?_)
          · refine rf_iload (n := 73) 5 dX9_feed_71 rfl rfl ?_
            exact pX9_feed_K73 hG _ _ _ _ _ _ _ r20 hr20 _
          · refine rf_iload (n := 68) 4 dX9_feed_66 rfl rfl ?_
            refine rf_goto (tg := 73) dX9_feed_68 rfl ?_
            exact pX9_feed_K73 hG _ _ _ _ _ _ _ r20 hr20 _
        · refine rf_iload_n (n := 56) 3 dX9_feed_55 rfl rfl rfl ?_
          refine rf_goto (tg := 73) dX9_feed_56 rfl ?_
          exact pX9_feed_K73 hG _ _ _ _ _ _ _ r20 hr20 _
      · refine rf_iload_n (n := 45) 2 dX9_feed_44 rfl rfl rfl ?_
        refine rf_goto (tg := 73) dX9_feed_45 rfl ?_
        exact pX9_feed_K73 hG _ _ _ _ _ _ _ r20 hr20 _
    · refine rf_iload_n (n := 34) 1 dX9_feed_33 rfl rfl rfl ?_
      refine rf_goto (tg := 73) dX9_feed_34 rfl ?_
      exact pX9_feed_K73 hG _ _ _ _ _ _ _ r20 hr20 _
theorem pX9_feed_L20 {x : ax_X} {G : ax_G} (hG : ax_ok G) (l1 : Int32) (l2 : Int32) (l3 : Int32) (l4 : Int32) (l5 : Int32) (n : Nat) (a6 : Int32) (μ : ax_M) : ax_Rf mX9_feed 0 x (ax_Z ax_jI x G) G 0 0 20 [some (.ref 57), some (.int l1), some (.int l2), some (.int l3), some (.int l4), some (.int l5), some (.int a6), none] [] μ (ax_lp1 (fX9_feed_B20 l1 l2 l3 l4 l5) n a6 μ) :=
  rf_lp1 (P := fun a6 μ t => ax_Rf mX9_feed 0 x (ax_Z ax_jI x G) G 0 0 20 [some (.ref 57), some (.int l1), some (.int l2), some (.int l3), some (.int l4), some (.int l5), some (.int a6), none] [] μ t) (fun _ _ => rf_none) (fun rc hrc a6 μ => pX9_feed_B20 hG l1 l2 l3 l4 l5 rc hrc a6 μ) n a6 μ
def fX9_feed (p1 : Int32) (p2 : Int32) (p3 : Int32) (p4 : Int32) (p5 : Int32) (μ : ax_M) : Option (Int32 × ax_M) :=
  (ax_let (ax_wi μ 57 0 (0 : Int32)) (fun m1 => (if (m1.1 57 2) ≤ (680 : Int32) then (ax_lp1 (fX9_feed_B20 p1 p2 p3 p4 p5) ax_FU (0 : Int32) m1) else (some ((-1 : Int32), m1)))))
theorem okX9_feed (p1 : Int32) (p2 : Int32) (p3 : Int32) (p4 : Int32) (p5 : Int32) (μ : ax_M) : ax_Ok mX9_feed 0 ax_jI [.ref 57, .int p1, .int p2, .int p3, .int p4, .int p5] μ (fX9_feed p1 p2 p3 p4 p5 μ) := by
  refine ax_start (lc := [some (.ref 57), some (.int p1), some (.int p2), some (.int p3), some (.int p4), some (.int p5), none, none]) 2 (by decide +kernel) rfl (Nat.le_of_ble_eq_true rfl) (fun x G hG => ?_)
  unfold fX9_feed
  refine rf_aload_n (n := 1) 0 dX9_feed_0 rfl rfl rfl ?_
  refine rf_iconst (n := 2) (0 : Int32) dX9_feed_1 cciconst_0 rfl ?_
  refine rf_pfI (n := 5) hG rfl dX9_feed_2 flX9_103 ki_9_0 nf_9_0 sS_57 kk_57 rfl (fun m1 => ?_)
  refine rf_aload_n (n := 6) 0 dX9_feed_5 rfl rfl rfl ?_
  refine rf_getI (n := 9) hG dX9_feed_6 flX9_106 ki_9_2 sS_57 kk_57 rfl ?_
  refine rf_sipush (n := 12) (680 : Int32) dX9_feed_9 ccsipush_680 rfl ?_
  refine rf_icmp_le (tg := 17) (n := 15) dX9_feed_12 rfl rfl (fun c10 => ?_) (fun c10 => ?_)
  · refine rf_iconst (n := 18) (0 : Int32) dX9_feed_17 cciconst_0 rfl ?_
    refine rf_istore (lc2 := [some (.ref 57), some (.int p1), some (.int p2), some (.int p3), some (.int p4), some (.int p5), some (.int (0 : Int32)), none]) (n := 20) 6 dX9_feed_18 rfl (Nat.le_of_ble_eq_true rfl) rfl rfl ?_
    exact pX9_feed_L20 hG _ _ _ _ _ _ _ _
  · refine rf_iconst (n := 16) (-1 : Int32) dX9_feed_15 cciconst_m1 rfl ?_
    exact rf_retI rfl dX9_feed_16
def fX1_clear (μ : ax_M) : Option (Unit × ax_M) :=
  (ax_let (ax_wi μ 16 12 (0 : Int32)) (fun m1 => (ax_let (ax_wi m1 16 13 (0 : Int32)) (fun m2 => (ax_let (ax_wi m2 16 14 (0 : Int32)) (fun m3 => (ax_let (ax_wi m3 16 15 (0 : Int32)) (fun m4 => (ax_let (ax_wi m4 16 16 (100 : Int32)) (fun m5 => (ax_let (ax_wi m5 16 17 (0 : Int32)) (fun m6 => (ax_let (ax_wi m6 16 18 (0 : Int32)) (fun m7 => (some ((), m7))))))))))))))))
theorem okX1_clear (μ : ax_M) : ax_Ok mX1_clear 0 ax_jV [.ref 16] μ (fX1_clear μ) := by
  refine ax_start (lc := [some (.ref 16)]) 0 (by decide +kernel) rfl (Nat.le_of_ble_eq_true rfl) (fun x G hG => ?_)
  unfold fX1_clear
  refine rf_aload_n (n := 1) 0 dX1_clear_0 rfl rfl rfl ?_
  refine rf_iconst (n := 2) (0 : Int32) dX1_clear_1 cciconst_0 rfl ?_
  refine rf_pfI (n := 5) hG rfl dX1_clear_2 flX1_52 ki_1_12 nf_1_12 sS_16 kk_16 rfl (fun m1 => ?_)
  refine rf_aload_n (n := 6) 0 dX1_clear_5 rfl rfl rfl ?_
  refine rf_iconst (n := 7) (0 : Int32) dX1_clear_6 cciconst_0 rfl ?_
  refine rf_pfI (n := 10) hG rfl dX1_clear_7 flX1_55 ki_1_13 nf_1_13 sS_16 kk_16 rfl (fun m2 => ?_)
  refine rf_aload_n (n := 11) 0 dX1_clear_10 rfl rfl rfl ?_
  refine rf_iconst (n := 12) (0 : Int32) dX1_clear_11 cciconst_0 rfl ?_
  refine rf_pfI (n := 15) hG rfl dX1_clear_12 flX1_58 ki_1_14 nf_1_14 sS_16 kk_16 rfl (fun m3 => ?_)
  refine rf_aload_n (n := 16) 0 dX1_clear_15 rfl rfl rfl ?_
  refine rf_iconst (n := 17) (0 : Int32) dX1_clear_16 cciconst_0 rfl ?_
  refine rf_pfI (n := 20) hG rfl dX1_clear_17 flX1_61 ki_1_15 nf_1_15 sS_16 kk_16 rfl (fun m4 => ?_)
  refine rf_aload_n (n := 21) 0 dX1_clear_20 rfl rfl rfl ?_
  refine rf_bipush (n := 23) (100 : Int32) dX1_clear_21 ccbipush_100 rfl ?_
  refine rf_pfI (n := 26) hG rfl dX1_clear_23 flX1_48 ki_1_16 nf_1_16 sS_16 kk_16 rfl (fun m5 => ?_)
  refine rf_aload_n (n := 27) 0 dX1_clear_26 rfl rfl rfl ?_
  refine rf_iconst (n := 28) (0 : Int32) dX1_clear_27 cciconst_0 rfl ?_
  refine rf_pfI (n := 31) hG rfl dX1_clear_28 flX1_64 ki_1_17 nf_1_17 sS_16 kk_16 rfl (fun m6 => ?_)
  refine rf_aload_n (n := 32) 0 dX1_clear_31 rfl rfl rfl ?_
  refine rf_iconst (n := 33) (0 : Int32) dX1_clear_32 cciconst_0 rfl ?_
  refine rf_pfI (n := 36) hG rfl dX1_clear_33 flX1_67 ki_1_18 nf_1_18 sS_16 kk_16 rfl (fun m7 => ?_)
  exact rf_retV rfl dX1_clear_36
def fX3_isLetter_K17 (s0 : Int32) (μ : ax_M) : Option (Int32 × ax_M) :=
  (some (vp_nar .boolean s0, μ))
theorem pX3_isLetter_K17 {x : ax_X} {G : ax_G} (hG : ax_ok G) (s0 : Int32) (μ : ax_M) : ax_Rf mX3_isLetter 0 x (ax_Z ax_jI x G) G 0 0 17 [none] [.int s0] μ (fX3_isLetter_K17 s0 μ) := by
  unfold fX3_isLetter_K17
  exact rf_retZ rfl dX3_isLetter_17
def fX3_isLetter_K16 (μ : ax_M) : Option (Int32 × ax_M) :=
  (fX3_isLetter_K17 (0 : Int32) μ)
theorem pX3_isLetter_K16 {x : ax_X} {G : ax_G} (hG : ax_ok G) (μ : ax_M) : ax_Rf mX3_isLetter 0 x (ax_Z ax_jI x G) G 0 0 16 [none] [] μ (fX3_isLetter_K16 μ) := by
  unfold fX3_isLetter_K16
  refine rf_iconst (n := 17) (0 : Int32) dX3_isLetter_16 cciconst_0 rfl ?_
  exact pX3_isLetter_K17 hG _ _
def fX3_isLetter (p0 : Int32) (μ : ax_M) : Option (Int32 × ax_M) :=
  (if p0 < (97 : Int32) then (fX3_isLetter_K16 μ) else (if (122 : Int32) < p0 then (fX3_isLetter_K16 μ) else (fX3_isLetter_K17 (1 : Int32) μ)))
theorem okX3_isLetter (p0 : Int32) (μ : ax_M) : ax_Ok mX3_isLetter 0 ax_jI [.int p0] μ (fX3_isLetter p0 μ) := by
  refine ax_start (lc := [some (.int p0)]) 0 (by decide +kernel) rfl (Nat.le_of_ble_eq_true rfl) (fun x G hG => ?_)
  unfold fX3_isLetter
  refine rf_iload_n (n := 1) 0 dX3_isLetter_0 rfl rfl rfl ?_
  refine rf_bipush (n := 3) (97 : Int32) dX3_isLetter_1 ccbipush_97 rfl ?_
  refine rf_icmp_lt (tg := 16) (n := 6) dX3_isLetter_3 rfl rfl (fun c2 => ?_) (fun c2 => ?_)
  · refine rf_mask (lc2 := [none]) [false] rfl ?_
    exact pX3_isLetter_K16 hG _
  · refine rf_iload_n (n := 7) 0 dX3_isLetter_6 rfl rfl rfl ?_
    refine rf_bipush (n := 9) (122 : Int32) dX3_isLetter_7 ccbipush_122 rfl ?_
    refine rf_icmp_gt (tg := 16) (n := 12) dX3_isLetter_9 rfl rfl (fun c1 => ?_) (fun c1 => ?_)
    · refine rf_mask (lc2 := [none]) [false] rfl ?_
      exact pX3_isLetter_K16 hG _
    · refine rf_iconst (n := 13) (1 : Int32) dX3_isLetter_12 cciconst_1 rfl ?_
      refine rf_goto (tg := 17) dX3_isLetter_13 rfl ?_
      refine rf_mask (lc2 := [none]) [false] rfl ?_
      exact pX3_isLetter_K17 hG _ _
def fX3_isDigit_K17 (s0 : Int32) (μ : ax_M) : Option (Int32 × ax_M) :=
  (some (vp_nar .boolean s0, μ))
theorem pX3_isDigit_K17 {x : ax_X} {G : ax_G} (hG : ax_ok G) (s0 : Int32) (μ : ax_M) : ax_Rf mX3_isDigit 0 x (ax_Z ax_jI x G) G 0 0 17 [none] [.int s0] μ (fX3_isDigit_K17 s0 μ) := by
  unfold fX3_isDigit_K17
  exact rf_retZ rfl dX3_isDigit_17
def fX3_isDigit_K16 (μ : ax_M) : Option (Int32 × ax_M) :=
  (fX3_isDigit_K17 (0 : Int32) μ)
theorem pX3_isDigit_K16 {x : ax_X} {G : ax_G} (hG : ax_ok G) (μ : ax_M) : ax_Rf mX3_isDigit 0 x (ax_Z ax_jI x G) G 0 0 16 [none] [] μ (fX3_isDigit_K16 μ) := by
  unfold fX3_isDigit_K16
  refine rf_iconst (n := 17) (0 : Int32) dX3_isDigit_16 cciconst_0 rfl ?_
  exact pX3_isDigit_K17 hG _ _
def fX3_isDigit (p0 : Int32) (μ : ax_M) : Option (Int32 × ax_M) :=
  (if p0 < (48 : Int32) then (fX3_isDigit_K16 μ) else (if (57 : Int32) < p0 then (fX3_isDigit_K16 μ) else (fX3_isDigit_K17 (1 : Int32) μ)))
theorem okX3_isDigit (p0 : Int32) (μ : ax_M) : ax_Ok mX3_isDigit 0 ax_jI [.int p0] μ (fX3_isDigit p0 μ) := by
  refine ax_start (lc := [some (.int p0)]) 0 (by decide +kernel) rfl (Nat.le_of_ble_eq_true rfl) (fun x G hG => ?_)
  unfold fX3_isDigit
  refine rf_iload_n (n := 1) 0 dX3_isDigit_0 rfl rfl rfl ?_
  refine rf_bipush (n := 3) (48 : Int32) dX3_isDigit_1 ccbipush_48 rfl ?_
  refine rf_icmp_lt (tg := 16) (n := 6) dX3_isDigit_3 rfl rfl (fun c2 => ?_) (fun c2 => ?_)
  · refine rf_mask (lc2 := [none]) [false] rfl ?_
    exact pX3_isDigit_K16 hG _
  · refine rf_iload_n (n := 7) 0 dX3_isDigit_6 rfl rfl rfl ?_
    refine rf_bipush (n := 9) (57 : Int32) dX3_isDigit_7 ccbipush_57 rfl ?_
    refine rf_icmp_gt (tg := 16) (n := 12) dX3_isDigit_9 rfl rfl (fun c1 => ?_) (fun c1 => ?_)
    · refine rf_mask (lc2 := [none]) [false] rfl ?_
      exact pX3_isDigit_K16 hG _
    · refine rf_iconst (n := 13) (1 : Int32) dX3_isDigit_12 cciconst_1 rfl ?_
      refine rf_goto (tg := 17) dX3_isDigit_13 rfl ?_
      refine rf_mask (lc2 := [none]) [false] rfl ?_
      exact pX3_isDigit_K17 hG _ _
def fX3_readDigits_K73 (μ : ax_M) : Option (Unit × ax_M) :=
  (some ((), μ))
theorem pX3_readDigits_K73 {x : ax_X} {G : ax_G} (hG : ax_ok G) (μ : ax_M) : ax_Rf mX3_readDigits 1 x (ax_Z ax_jV x G) G 0 0 73 [none] [] μ (fX3_readDigits_K73 μ) := by
  unfold fX3_readDigits_K73
  exact rf_retV rfl dX3_readDigits_73
def fX3_readDigits_B5 (r5 : ax_M → Option (Unit × ax_M)) (μ : ax_M) : Option (Unit × ax_M) :=
  (if (μ.1 15 5) ≤ (μ.1 15 6) then (fX3_readDigits_K73 μ) else (Option.bind (ax_rd μ 1 700 (μ.1 15 6)) (fun v2 => (ax_bd (fX3_isDigit v2 μ) (fun v3 m4 => (if v3 = 0 then (fX3_readDigits_K73 m4) else (Option.bind (ax_rd m4 1 700 (m4.1 15 6)) (fun v5 => (ax_let (ax_wi m4 15 9 (ax_mn ((((10 : Int32) * (m4.1 15 9)) + v5) - (48 : Int32)) (100000 : Int32))) (fun m6 => (ax_let (ax_wi m6 15 6 ((m6.1 15 6) + (1 : Int32))) (fun m7 => (r5 m7)))))))))))))
theorem pX3_readDigits_B5 {x : ax_X} {G : ax_G} (hG : ax_ok G) (r5 : ax_M → Option (Unit × ax_M)) (hr5 : ∀  (μ : ax_M), ax_Rf mX3_readDigits 1 x (ax_Z ax_jV x G) G 0 0 5 [some (.ref 15)] [] μ (r5  μ)) (μ : ax_M) : ax_Rf mX3_readDigits 1 x (ax_Z ax_jV x G) G 0 0 5 [some (.ref 15)] [] μ (fX3_readDigits_B5 r5  μ) := by
  unfold fX3_readDigits_B5
  refine rf_aload_n (n := 6) 0 dX3_readDigits_5 rfl rfl rfl ?_
  refine rf_getI (n := 9) hG dX3_readDigits_6 flX3_35 ki_3_6 sS_15 kk_15 rfl ?_
  refine rf_aload_n (n := 10) 0 dX3_readDigits_9 rfl rfl rfl ?_
  refine rf_getI (n := 13) hG dX3_readDigits_10 flX3_32 ki_3_5 sS_15 kk_15 rfl ?_
  refine rf_icmp_ge (tg := 73) (n := 16) dX3_readDigits_13 rfl rfl (fun c9 => ?_) (fun c9 => ?_)
  · refine rf_mask (lc2 := [none]) [false] rfl ?_
    exact pX3_readDigits_K73 hG _
  · refine rf_aload_n (n := 17) 0 dX3_readDigits_16 rfl rfl rfl ?_
    refine rf_getR (n := 20) rr_15_4 kk_1 hG dX3_readDigits_17 flX3_22 ki_3_4 sS_15 kk_15 rfl ?_
    refine rf_aload_n (n := 21) 0 dX3_readDigits_20 rfl rfl rfl ?_
    refine rf_getI (n := 24) hG dX3_readDigits_21 flX3_35 ki_3_6 sS_15 kk_15 rfl ?_
    refine rf_iald (n := 25) hG dX3_readDigits_24 sS_1 kk_1 rfl (fun v2 => ?_)
    refine rf_cS1I (n := 28) hG (okX3_isDigit _ _) lSX3_190 hhX3_isDigit dX3_readDigits_25 rfl (Nat.le_of_ble_eq_true rfl) (Nat.le_of_ble_eq_true rfl) (fun v3 m4 => ?_)
    refine rf_if_eq (tg := 73) (n := 31) dX3_readDigits_28 rfl rfl (fun c8 => ?_) (fun c8 => ?_)
    · refine rf_mask (lc2 := [none]) [false] rfl ?_
      exact pX3_readDigits_K73 hG _
    · refine rf_aload_n (n := 32) 0 dX3_readDigits_31 rfl rfl rfl ?_
      refine rf_bipush (n := 34) (10 : Int32) dX3_readDigits_32 ccbipush_10 rfl ?_
      refine rf_aload_n (n := 35) 0 dX3_readDigits_34 rfl rfl rfl ?_
      refine rf_getI (n := 38) hG dX3_readDigits_35 flX3_66 ki_3_9 sS_15 kk_15 rfl ?_
      refine rf_imul (n := 39) dX3_readDigits_38 rfl ?_
      refine rf_aload_n (n := 40) 0 dX3_readDigits_39 rfl rfl rfl ?_
      refine rf_getR (n := 43) rr_15_4 kk_1 hG dX3_readDigits_40 flX3_22 ki_3_4 sS_15 kk_15 rfl ?_
      refine rf_aload_n (n := 44) 0 dX3_readDigits_43 rfl rfl rfl ?_
      refine rf_getI (n := 47) hG dX3_readDigits_44 flX3_35 ki_3_6 sS_15 kk_15 rfl ?_
      refine rf_iald (n := 48) hG dX3_readDigits_47 sS_1 kk_1 rfl (fun v5 => ?_)
      refine rf_iadd (n := 49) dX3_readDigits_48 rfl ?_
      refine rf_bipush (n := 51) (48 : Int32) dX3_readDigits_49 ccbipush_48 rfl ?_
      refine rf_isub (n := 52) dX3_readDigits_51 rfl ?_
      refine rf_ldc (n := 54) dX3_readDigits_52 ctX3_196 rfl ?_
      refine rf_min (n := 57) dX3_readDigits_54 mxX3_26 ax_minw (Nat.le_of_ble_eq_true rfl) (Nat.le_of_ble_eq_true rfl) rfl ?_
      refine rf_pfI (n := 60) hG rfl dX3_readDigits_57 flX3_66 ki_3_9 nf_3_9 sS_15 kk_15 rfl (fun m6 => ?_)
      refine rf_aload_n (n := 61) 0 dX3_readDigits_60 rfl rfl rfl ?_
      refine rf_dupR (n := 62) dX3_readDigits_61 rfl ?_
      refine rf_getI (n := 65) hG dX3_readDigits_62 flX3_35 ki_3_6 sS_15 kk_15 rfl ?_
      refine rf_iconst (n := 66) (1 : Int32) dX3_readDigits_65 cciconst_1 rfl ?_
      refine rf_iadd (n := 67) dX3_readDigits_66 rfl ?_
      refine rf_pfI (n := 70) hG rfl dX3_readDigits_67 flX3_35 ki_3_6 nf_3_6 sS_15 kk_15 rfl (fun m7 => ?_)
      refine rf_goto (tg := 5) dX3_readDigits_70 rfl ?_
      exact hr5 _
theorem pX3_readDigits_L5 {x : ax_X} {G : ax_G} (hG : ax_ok G) (n : Nat) (μ : ax_M) : ax_Rf mX3_readDigits 1 x (ax_Z ax_jV x G) G 0 0 5 [some (.ref 15)] [] μ (ax_lp0 (fX3_readDigits_B5) n  μ) :=
  rf_lp0 (P := fun  μ t => ax_Rf mX3_readDigits 1 x (ax_Z ax_jV x G) G 0 0 5 [some (.ref 15)] [] μ t) (fun  _ => rf_none) (fun rc hrc  μ => pX3_readDigits_B5 hG rc hrc  μ) n  μ
def fX3_readDigits (μ : ax_M) : Option (Unit × ax_M) :=
  (ax_let (ax_wi μ 15 7 (2 : Int32)) (fun m1 => (ax_lp0 (fX3_readDigits_B5) ax_FU m1)))
theorem okX3_readDigits (μ : ax_M) : ax_Ok mX3_readDigits 1 ax_jV [.ref 15] μ (fX3_readDigits μ) := by
  refine ax_start (lc := [some (.ref 15)]) 0 (by decide +kernel) rfl (Nat.le_of_ble_eq_true rfl) (fun x G hG => ?_)
  unfold fX3_readDigits
  refine rf_aload_n (n := 1) 0 dX3_readDigits_0 rfl rfl rfl ?_
  refine rf_iconst (n := 2) (2 : Int32) dX3_readDigits_1 cciconst_2 rfl ?_
  refine rf_pfI (n := 5) hG rfl dX3_readDigits_2 flX3_60 ki_3_7 nf_3_7 sS_15 kk_15 rfl (fun m1 => ?_)
  exact pX3_readDigits_L5 hG _ _
def fX3_readWord_K88 (s1 : Int32) (μ : ax_M) : Option (Unit × ax_M) :=
  (ax_let (ax_wi μ 15 7 s1) (fun m1 => (some ((), m1))))
theorem pX3_readWord_K88 {x : ax_X} {G : ax_G} (hG : ax_ok G) (s1 : Int32) (μ : ax_M) : ax_Rf mX3_readWord 1 x (ax_Z ax_jV x G) G 0 0 88 [none, none] [.int s1, .ref 15] μ (fX3_readWord_K88 s1 μ) := by
  unfold fX3_readWord_K88
  refine rf_pfI (n := 91) hG rfl dX3_readWord_88 flX3_60 ki_3_7 nf_3_7 sS_15 kk_15 rfl (fun m1 => ?_)
  exact rf_retV rfl dX3_readWord_91
def fX3_readWord_K78 (l1 : Int32) (μ : ax_M) : Option (Unit × ax_M) :=
  (if l1 < 0 then (fX3_readWord_K88 (4 : Int32) μ) else (fX3_readWord_K88 (1 : Int32) μ))
theorem pX3_readWord_K78 {x : ax_X} {G : ax_G} (hG : ax_ok G) (l1 : Int32) (μ : ax_M) : ax_Rf mX3_readWord 1 x (ax_Z ax_jV x G) G 0 0 78 [some (.ref 15), some (.int l1)] [] μ (fX3_readWord_K78 l1 μ) := by
  unfold fX3_readWord_K78
  refine rf_aload_n (n := 79) 0 dX3_readWord_78 rfl rfl rfl ?_
  refine rf_iload_n (n := 80) 1 dX3_readWord_79 rfl rfl rfl ?_
  refine rf_if_lt (tg := 87) (n := 83) dX3_readWord_80 rfl rfl (fun c2 => ?_) (fun c2 => ?_)
  · refine rf_iconst (n := 88) (4 : Int32) dX3_readWord_87 cciconst_4 rfl ?_
    refine rf_mask (lc2 := [none, none]) [false, false] rfl ?_
    exact pX3_readWord_K88 hG _ _
  · refine rf_iconst (n := 84) (1 : Int32) dX3_readWord_83 cciconst_1 rfl ?_
    refine rf_goto (tg := 88) dX3_readWord_84 rfl ?_
    refine rf_mask (lc2 := [none, none]) [false, false] rfl ?_
    exact pX3_readWord_K88 hG _ _
def fX3_readWord_K61 (l1 : Int32) (s1 : Int32) (s2 : Int32) (r3 : Int32 → ax_M → Option (Unit × ax_M)) (μ : ax_M) : Option (Unit × ax_M) :=
  (ax_let (ax_wi μ 15 9 (s1 ||| s2)) (fun m6 => (ax_let (ax_wi m6 15 6 ((m6.1 15 6) + (1 : Int32))) (fun m7 => (r3 l1 m7)))))
theorem pX3_readWord_K61 {x : ax_X} {G : ax_G} (hG : ax_ok G) (l1 : Int32) (s1 : Int32) (s2 : Int32) (r3 : Int32 → ax_M → Option (Unit × ax_M)) (hr3 : ∀ (a1 : Int32) (μ : ax_M), ax_Rf mX3_readWord 1 x (ax_Z ax_jV x G) G 0 0 3 [some (.ref 15), some (.int a1)] [] μ (r3 a1 μ)) (μ : ax_M) : ax_Rf mX3_readWord 1 x (ax_Z ax_jV x G) G 0 0 61 [some (.ref 15), some (.int l1)] [.int s2, .int s1, .ref 15] μ (fX3_readWord_K61 l1 s1 s2 r3 μ) := by
  unfold fX3_readWord_K61
  refine rf_ior (n := 62) dX3_readWord_61 rfl ?_
  refine rf_pfI (n := 65) hG rfl dX3_readWord_62 flX3_66 ki_3_9 nf_3_9 sS_15 kk_15 rfl (fun m6 => ?_)
  refine rf_aload_n (n := 66) 0 dX3_readWord_65 rfl rfl rfl ?_
  refine rf_dupR (n := 67) dX3_readWord_66 rfl ?_
  refine rf_getI (n := 70) hG dX3_readWord_67 flX3_35 ki_3_6 sS_15 kk_15 rfl ?_
  refine rf_iconst (n := 71) (1 : Int32) dX3_readWord_70 cciconst_1 rfl ?_
  refine rf_iadd (n := 72) dX3_readWord_71 rfl ?_
  refine rf_pfI (n := 75) hG rfl dX3_readWord_72 flX3_35 ki_3_6 nf_3_6 sS_15 kk_15 rfl (fun m7 => ?_)
  refine rf_goto (tg := 3) dX3_readWord_75 rfl ?_
  exact hr3 _ _
def fX3_readWord_B3 (r3 : Int32 → ax_M → Option (Unit × ax_M)) (l1 : Int32) (μ : ax_M) : Option (Unit × ax_M) :=
  (if (μ.1 15 5) ≤ (μ.1 15 6) then (fX3_readWord_K78 l1 μ) else (Option.bind (ax_rd μ 1 700 (μ.1 15 6)) (fun v3 => (ax_bd (fX3_isLetter v3 μ) (fun v4 m5 => (if v4 = 0 then (fX3_readWord_K78 l1 m5) else (if (l1 + (-5 : Int32)) < 0 then (fX3_readWord_K61 (l1 + (-5 : Int32)) (m5.1 15 9) (0 : Int32) r3 m5) else (Option.bind (ax_rd m5 1 700 (m5.1 15 6)) (fun v8 => (fX3_readWord_K61 (l1 + (-5 : Int32)) (m5.1 15 9) (((v8 - (97 : Int32)) + (1 : Int32)) <<< ((l1 + (-5 : Int32)) &&& 31)) r3 m5))))))))))
theorem pX3_readWord_B3 {x : ax_X} {G : ax_G} (hG : ax_ok G) (r3 : Int32 → ax_M → Option (Unit × ax_M)) (hr3 : ∀ (a1 : Int32) (μ : ax_M), ax_Rf mX3_readWord 1 x (ax_Z ax_jV x G) G 0 0 3 [some (.ref 15), some (.int a1)] [] μ (r3 a1 μ)) (l1 : Int32) (μ : ax_M) : ax_Rf mX3_readWord 1 x (ax_Z ax_jV x G) G 0 0 3 [some (.ref 15), some (.int l1)] [] μ (fX3_readWord_B3 r3 l1 μ) := by
  unfold fX3_readWord_B3
  refine rf_aload_n (n := 4) 0 dX3_readWord_3 rfl rfl rfl ?_
  refine rf_getI (n := 7) hG dX3_readWord_4 flX3_35 ki_3_6 sS_15 kk_15 rfl ?_
  refine rf_aload_n (n := 8) 0 dX3_readWord_7 rfl rfl rfl ?_
  refine rf_getI (n := 11) hG dX3_readWord_8 flX3_32 ki_3_5 sS_15 kk_15 rfl ?_
  refine rf_icmp_ge (tg := 78) (n := 14) dX3_readWord_11 rfl rfl (fun c11 => ?_) (fun c11 => ?_)
  · exact pX3_readWord_K78 hG _ _
  · refine rf_aload_n (n := 15) 0 dX3_readWord_14 rfl rfl rfl ?_
    refine rf_getR (n := 18) rr_15_4 kk_1 hG dX3_readWord_15 flX3_22 ki_3_4 sS_15 kk_15 rfl ?_
    refine rf_aload_n (n := 19) 0 dX3_readWord_18 rfl rfl rfl ?_
    refine rf_getI (n := 22) hG dX3_readWord_19 flX3_35 ki_3_6 sS_15 kk_15 rfl ?_
    refine rf_iald (n := 23) hG dX3_readWord_22 sS_1 kk_1 rfl (fun v3 => ?_)
    refine rf_cS1I (n := 26) hG (okX3_isLetter _ _) lSX3_184 hhX3_isLetter dX3_readWord_23 rfl (Nat.le_of_ble_eq_true rfl) (Nat.le_of_ble_eq_true rfl) (fun v4 m5 => ?_)
    refine rf_if_eq (tg := 78) (n := 29) dX3_readWord_26 rfl rfl (fun c10 => ?_) (fun c10 => ?_)
    · exact pX3_readWord_K78 hG _ _
    · refine rf_iinc (lc2 := [some (.ref 15), some (.int (l1 + (-5 : Int32)))]) (n := 32) (w := (-5 : Int32)) 1 dX3_readWord_29 rfl rfl rfl (Nat.le_of_ble_eq_true rfl) rfl rfl ?_
      refine rf_aload_n (n := 33) 0 dX3_readWord_32 rfl rfl rfl ?_
      refine rf_dupR (n := 34) dX3_readWord_33 rfl ?_
      refine rf_getI (n := 37) hG dX3_readWord_34 flX3_66 ki_3_9 sS_15 kk_15 rfl ?_
      refine rf_iload_n (n := 38) 1 dX3_readWord_37 rfl rfl rfl ?_
      refine rf_if_lt (tg := 60) (n := 41) dX3_readWord_38 rfl rfl (fun c9 => ?_) (fun c9 => ?_)
      · refine rf_iconst (n := 61) (0 : Int32) dX3_readWord_60 cciconst_0 rfl ?_
        exact pX3_readWord_K61 hG _ _ _ r3 hr3 _
      · refine rf_aload_n (n := 42) 0 dX3_readWord_41 rfl rfl rfl ?_
        refine rf_getR (n := 45) rr_15_4 kk_1 hG dX3_readWord_42 flX3_22 ki_3_4 sS_15 kk_15 rfl ?_
        refine rf_aload_n (n := 46) 0 dX3_readWord_45 rfl rfl rfl ?_
        refine rf_getI (n := 49) hG dX3_readWord_46 flX3_35 ki_3_6 sS_15 kk_15 rfl ?_
        refine rf_iald (n := 50) hG dX3_readWord_49 sS_1 kk_1 rfl (fun v8 => ?_)
        refine rf_bipush (n := 52) (97 : Int32) dX3_readWord_50 ccbipush_97 rfl ?_
        refine rf_isub (n := 53) dX3_readWord_52 rfl ?_
        refine rf_iconst (n := 54) (1 : Int32) dX3_readWord_53 cciconst_1 rfl ?_
        refine rf_iadd (n := 55) dX3_readWord_54 rfl ?_
        refine rf_iload_n (n := 56) 1 dX3_readWord_55 rfl rfl rfl ?_
        refine rf_ishl (n := 57) dX3_readWord_56 rfl ?_
        refine rf_goto (tg := 61) dX3_readWord_57 rfl ?_
        exact pX3_readWord_K61 hG _ _ _ r3 hr3 _
theorem pX3_readWord_L3 {x : ax_X} {G : ax_G} (hG : ax_ok G) (n : Nat) (a1 : Int32) (μ : ax_M) : ax_Rf mX3_readWord 1 x (ax_Z ax_jV x G) G 0 0 3 [some (.ref 15), some (.int a1)] [] μ (ax_lp1 (fX3_readWord_B3) n a1 μ) :=
  rf_lp1 (P := fun a1 μ t => ax_Rf mX3_readWord 1 x (ax_Z ax_jV x G) G 0 0 3 [some (.ref 15), some (.int a1)] [] μ t) (fun _ _ => rf_none) (fun rc hrc a1 μ => pX3_readWord_B3 hG rc hrc a1 μ) n a1 μ
def fX3_readWord (μ : ax_M) : Option (Unit × ax_M) :=
  (ax_lp1 (fX3_readWord_B3) ax_FU (30 : Int32) μ)
theorem okX3_readWord (μ : ax_M) : ax_Ok mX3_readWord 1 ax_jV [.ref 15] μ (fX3_readWord μ) := by
  refine ax_start (lc := [some (.ref 15), none]) 1 (by decide +kernel) rfl (Nat.le_of_ble_eq_true rfl) (fun x G hG => ?_)
  unfold fX3_readWord
  refine rf_bipush (n := 2) (30 : Int32) dX3_readWord_0 ccbipush_30 rfl ?_
  refine rf_istore_n (lc2 := [some (.ref 15), some (.int (30 : Int32))]) (n := 3) 1 dX3_readWord_2 rfl rfl (Nat.le_of_ble_eq_true rfl) rfl rfl ?_
  exact pX3_readWord_L3 hG _ _ _
def fX3_readToken_K161 (μ : ax_M) : Option (Unit × ax_M) :=
  (some ((), μ))
theorem pX3_readToken_K161 {x : ax_X} {G : ax_G} (hG : ax_ok G) (μ : ax_M) : ax_Rf mX3_readToken 2 x (ax_Z ax_jV x G) G 0 0 161 [none] [] μ (fX3_readToken_K161 μ) := by
  unfold fX3_readToken_K161
  exact rf_retV rfl dX3_readToken_161
def fX3_readToken_K148 (s1 : Int32) (μ : ax_M) : Option (Unit × ax_M) :=
  (ax_let (ax_wi μ 15 7 s1) (fun m10 => (ax_let (ax_wi m10 15 6 ((m10.1 15 6) + (1 : Int32))) (fun m11 => (fX3_readToken_K161 m11)))))
theorem pX3_readToken_K148 {x : ax_X} {G : ax_G} (hG : ax_ok G) (s1 : Int32) (μ : ax_M) : ax_Rf mX3_readToken 2 x (ax_Z ax_jV x G) G 0 0 148 [some (.ref 15)] [.int s1, .ref 15] μ (fX3_readToken_K148 s1 μ) := by
  unfold fX3_readToken_K148
  refine rf_pfI (n := 151) hG rfl dX3_readToken_148 flX3_60 ki_3_7 nf_3_7 sS_15 kk_15 rfl (fun m10 => ?_)
  refine rf_aload_n (n := 152) 0 dX3_readToken_151 rfl rfl rfl ?_
  refine rf_dupR (n := 153) dX3_readToken_152 rfl ?_
  refine rf_getI (n := 156) hG dX3_readToken_153 flX3_35 ki_3_6 sS_15 kk_15 rfl ?_
  refine rf_iconst (n := 157) (1 : Int32) dX3_readToken_156 cciconst_1 rfl ?_
  refine rf_iadd (n := 158) dX3_readToken_157 rfl ?_
  refine rf_pfI (n := 161) hG rfl dX3_readToken_158 flX3_35 ki_3_6 nf_3_6 sS_15 kk_15 rfl (fun m11 => ?_)
  refine rf_mask (lc2 := [none]) [false] rfl ?_
  exact pX3_readToken_K161 hG _
def fX3_readToken_K52 (μ : ax_M) : Option (Unit × ax_M) :=
  (ax_let (ax_wi μ 15 8 (μ.1 15 6)) (fun m1 => (ax_let (ax_wi m1 15 9 (0 : Int32)) (fun m2 => (if (m2.1 15 6) < (m2.1 15 5) then (Option.bind (ax_rd m2 1 700 (m2.1 15 6)) (fun v3 => (ax_bd (fX3_isLetter v3 m2) (fun v4 m5 => (if v4 = 0 then (Option.bind (ax_rd m5 1 700 (m5.1 15 6)) (fun v6 => (ax_bd (fX3_isDigit v6 m5) (fun v7 m8 => (if v7 = 0 then (Option.bind (ax_rd m8 1 700 (m8.1 15 6)) (fun v9 => (if v9 = (59 : Int32) then (fX3_readToken_K148 (3 : Int32) m8) else (fX3_readToken_K148 (4 : Int32) m8)))) else (ax_bd (fX3_readDigits m8) (fun _ m14 => (fX3_readToken_K161 m14)))))))) else (ax_bd (fX3_readWord m5) (fun _ m17 => (fX3_readToken_K161 m17)))))))) else (ax_let (ax_wi m2 15 7 (0 : Int32)) (fun m19 => (fX3_readToken_K161 m19))))))))
theorem pX3_readToken_K52 {x : ax_X} {G : ax_G} (hG : ax_ok G) (μ : ax_M) : ax_Rf mX3_readToken 2 x (ax_Z ax_jV x G) G 0 0 52 [some (.ref 15)] [] μ (fX3_readToken_K52 μ) := by
  unfold fX3_readToken_K52
  refine rf_aload_n (n := 53) 0 dX3_readToken_52 rfl rfl rfl ?_
  refine rf_aload_n (n := 54) 0 dX3_readToken_53 rfl rfl rfl ?_
  refine rf_getI (n := 57) hG dX3_readToken_54 flX3_35 ki_3_6 sS_15 kk_15 rfl ?_
  refine rf_pfI (n := 60) hG rfl dX3_readToken_57 flX3_181 ki_3_8 nf_3_8 sS_15 kk_15 rfl (fun m1 => ?_)
  refine rf_aload_n (n := 61) 0 dX3_readToken_60 rfl rfl rfl ?_
  refine rf_iconst (n := 62) (0 : Int32) dX3_readToken_61 cciconst_0 rfl ?_
  refine rf_pfI (n := 65) hG rfl dX3_readToken_62 flX3_66 ki_3_9 nf_3_9 sS_15 kk_15 rfl (fun m2 => ?_)
  refine rf_aload_n (n := 66) 0 dX3_readToken_65 rfl rfl rfl ?_
  refine rf_getI (n := 69) hG dX3_readToken_66 flX3_35 ki_3_6 sS_15 kk_15 rfl ?_
  refine rf_aload_n (n := 70) 0 dX3_readToken_69 rfl rfl rfl ?_
  refine rf_getI (n := 73) hG dX3_readToken_70 flX3_32 ki_3_5 sS_15 kk_15 rfl ?_
  refine rf_icmp_lt (tg := 84) (n := 76) dX3_readToken_73 rfl rfl (fun c20 => ?_) (fun c20 => ?_)
  · refine rf_aload_n (n := 85) 0 dX3_readToken_84 rfl rfl rfl ?_
    refine rf_getR (n := 88) rr_15_4 kk_1 hG dX3_readToken_85 flX3_22 ki_3_4 sS_15 kk_15 rfl ?_
    refine rf_aload_n (n := 89) 0 dX3_readToken_88 rfl rfl rfl ?_
    refine rf_getI (n := 92) hG dX3_readToken_89 flX3_35 ki_3_6 sS_15 kk_15 rfl ?_
    refine rf_iald (n := 93) hG dX3_readToken_92 sS_1 kk_1 rfl (fun v3 => ?_)
    refine rf_cS1I (n := 96) hG (okX3_isLetter _ _) lSX3_184 hhX3_isLetter dX3_readToken_93 rfl (Nat.le_of_ble_eq_true rfl) (Nat.le_of_ble_eq_true rfl) (fun v4 m5 => ?_)
    refine rf_if_eq (tg := 106) (n := 99) dX3_readToken_96 rfl rfl (fun c18 => ?_) (fun c18 => ?_)
    · refine rf_aload_n (n := 107) 0 dX3_readToken_106 rfl rfl rfl ?_
      refine rf_getR (n := 110) rr_15_4 kk_1 hG dX3_readToken_107 flX3_22 ki_3_4 sS_15 kk_15 rfl ?_
      refine rf_aload_n (n := 111) 0 dX3_readToken_110 rfl rfl rfl ?_
      refine rf_getI (n := 114) hG dX3_readToken_111 flX3_35 ki_3_6 sS_15 kk_15 rfl ?_
      refine rf_iald (n := 115) hG dX3_readToken_114 sS_1 kk_1 rfl (fun v6 => ?_)
      refine rf_cS1I (n := 118) hG (okX3_isDigit _ _) lSX3_190 hhX3_isDigit dX3_readToken_115 rfl (Nat.le_of_ble_eq_true rfl) (Nat.le_of_ble_eq_true rfl) (fun v7 m8 => ?_)
      refine rf_if_eq (tg := 128) (n := 121) dX3_readToken_118 rfl rfl (fun c15 => ?_) (fun c15 => ?_)
      · refine rf_aload_n (n := 129) 0 dX3_readToken_128 rfl rfl rfl ?_
        refine rf_aload_n (n := 130) 0 dX3_readToken_129 rfl rfl rfl ?_
        refine rf_getR (n := 133) rr_15_4 kk_1 hG dX3_readToken_130 flX3_22 ki_3_4 sS_15 kk_15 rfl ?_
        refine rf_aload_n (n := 134) 0 dX3_readToken_133 rfl rfl rfl ?_
        refine rf_getI (n := 137) hG dX3_readToken_134 flX3_35 ki_3_6 sS_15 kk_15 rfl ?_
        refine rf_iald (n := 138) hG dX3_readToken_137 sS_1 kk_1 rfl (fun v9 => ?_)
        refine rf_bipush (n := 140) (59 : Int32) dX3_readToken_138 ccbipush_59 rfl ?_
        refine rf_icmp_ne (tg := 147) (n := 143) dX3_readToken_140 rfl rfl (fun c12 => ?_) (fun c12 => ?_)
        · refine rf_iconst (n := 148) (4 : Int32) dX3_readToken_147 cciconst_4 rfl ?_
          exact pX3_readToken_K148 hG _ _
        · refine rf_iconst (n := 144) (3 : Int32) dX3_readToken_143 cciconst_3 rfl ?_
          refine rf_goto (tg := 148) dX3_readToken_144 rfl ?_
          exact pX3_readToken_K148 hG _ _
      · refine rf_aload_n (n := 122) 0 dX3_readToken_121 rfl rfl rfl ?_
        refine rf_cV0V (n := 125) hG (okX3_readDigits _) lVX3_193 hhX3_readDigits kk_15 sS_15 ⟨_, rfl, rfl⟩ dX3_readToken_122 rfl (Nat.le_of_ble_eq_true rfl) (Nat.le_of_ble_eq_true rfl) (fun _ m14 => ?_)
        refine rf_goto (tg := 161) dX3_readToken_125 rfl ?_
        refine rf_mask (lc2 := [none]) [false] rfl ?_
        exact pX3_readToken_K161 hG _
    · refine rf_aload_n (n := 100) 0 dX3_readToken_99 rfl rfl rfl ?_
      refine rf_cV0V (n := 103) hG (okX3_readWord _) lVX3_187 hhX3_readWord kk_15 sS_15 ⟨_, rfl, rfl⟩ dX3_readToken_100 rfl (Nat.le_of_ble_eq_true rfl) (Nat.le_of_ble_eq_true rfl) (fun _ m17 => ?_)
      refine rf_goto (tg := 161) dX3_readToken_103 rfl ?_
      refine rf_mask (lc2 := [none]) [false] rfl ?_
      exact pX3_readToken_K161 hG _
  · refine rf_aload_n (n := 77) 0 dX3_readToken_76 rfl rfl rfl ?_
    refine rf_iconst (n := 78) (0 : Int32) dX3_readToken_77 cciconst_0 rfl ?_
    refine rf_pfI (n := 81) hG rfl dX3_readToken_78 flX3_60 ki_3_7 nf_3_7 sS_15 kk_15 rfl (fun m19 => ?_)
    refine rf_goto (tg := 161) dX3_readToken_81 rfl ?_
    refine rf_mask (lc2 := [none]) [false] rfl ?_
    exact pX3_readToken_K161 hG _
def fX3_readToken_K39 (r0 : ax_M → Option (Unit × ax_M)) (μ : ax_M) : Option (Unit × ax_M) :=
  (ax_let (ax_wi μ 15 6 ((μ.1 15 6) + (1 : Int32))) (fun m22 => (r0 m22)))
theorem pX3_readToken_K39 {x : ax_X} {G : ax_G} (hG : ax_ok G) (r0 : ax_M → Option (Unit × ax_M)) (hr0 : ∀  (μ : ax_M), ax_Rf mX3_readToken 2 x (ax_Z ax_jV x G) G 0 0 0 [some (.ref 15)] [] μ (r0  μ)) (μ : ax_M) : ax_Rf mX3_readToken 2 x (ax_Z ax_jV x G) G 0 0 39 [some (.ref 15)] [] μ (fX3_readToken_K39 r0 μ) := by
  unfold fX3_readToken_K39
  refine rf_aload_n (n := 40) 0 dX3_readToken_39 rfl rfl rfl ?_
  refine rf_dupR (n := 41) dX3_readToken_40 rfl ?_
  refine rf_getI (n := 44) hG dX3_readToken_41 flX3_35 ki_3_6 sS_15 kk_15 rfl ?_
  refine rf_iconst (n := 45) (1 : Int32) dX3_readToken_44 cciconst_1 rfl ?_
  refine rf_iadd (n := 46) dX3_readToken_45 rfl ?_
  refine rf_pfI (n := 49) hG rfl dX3_readToken_46 flX3_35 ki_3_6 nf_3_6 sS_15 kk_15 rfl (fun m22 => ?_)
  refine rf_goto (tg := 0) dX3_readToken_49 rfl ?_
  exact hr0 _
def fX3_readToken_B0 (r0 : ax_M → Option (Unit × ax_M)) (μ : ax_M) : Option (Unit × ax_M) :=
  (if (μ.1 15 5) ≤ (μ.1 15 6) then (fX3_readToken_K52 μ) else (Option.bind (ax_rd μ 1 700 (μ.1 15 6)) (fun v21 => (if v21 = (32 : Int32) then (fX3_readToken_K39 r0 μ) else (Option.bind (ax_rd μ 1 700 (μ.1 15 6)) (fun v23 => (if v23 = (10 : Int32) then (fX3_readToken_K39 r0 μ) else (fX3_readToken_K52 μ))))))))
theorem pX3_readToken_B0 {x : ax_X} {G : ax_G} (hG : ax_ok G) (r0 : ax_M → Option (Unit × ax_M)) (hr0 : ∀  (μ : ax_M), ax_Rf mX3_readToken 2 x (ax_Z ax_jV x G) G 0 0 0 [some (.ref 15)] [] μ (r0  μ)) (μ : ax_M) : ax_Rf mX3_readToken 2 x (ax_Z ax_jV x G) G 0 0 0 [some (.ref 15)] [] μ (fX3_readToken_B0 r0  μ) := by
  unfold fX3_readToken_B0
  refine rf_aload_n (n := 1) 0 dX3_readToken_0 rfl rfl rfl ?_
  refine rf_getI (n := 4) hG dX3_readToken_1 flX3_35 ki_3_6 sS_15 kk_15 rfl ?_
  refine rf_aload_n (n := 5) 0 dX3_readToken_4 rfl rfl rfl ?_
  refine rf_getI (n := 8) hG dX3_readToken_5 flX3_32 ki_3_5 sS_15 kk_15 rfl ?_
  refine rf_icmp_ge (tg := 52) (n := 11) dX3_readToken_8 rfl rfl (fun c26 => ?_) (fun c26 => ?_)
  · exact pX3_readToken_K52 hG _
  · refine rf_aload_n (n := 12) 0 dX3_readToken_11 rfl rfl rfl ?_
    refine rf_getR (n := 15) rr_15_4 kk_1 hG dX3_readToken_12 flX3_22 ki_3_4 sS_15 kk_15 rfl ?_
    refine rf_aload_n (n := 16) 0 dX3_readToken_15 rfl rfl rfl ?_
    refine rf_getI (n := 19) hG dX3_readToken_16 flX3_35 ki_3_6 sS_15 kk_15 rfl ?_
    refine rf_iald (n := 20) hG dX3_readToken_19 sS_1 kk_1 rfl (fun v21 => ?_)
    refine rf_bipush (n := 22) (32 : Int32) dX3_readToken_20 ccbipush_32 rfl ?_
    refine rf_icmp_eq (tg := 39) (n := 25) dX3_readToken_22 rfl rfl (fun c25 => ?_) (fun c25 => ?_)
    · exact pX3_readToken_K39 hG r0 hr0 _
    · refine rf_aload_n (n := 26) 0 dX3_readToken_25 rfl rfl rfl ?_
      refine rf_getR (n := 29) rr_15_4 kk_1 hG dX3_readToken_26 flX3_22 ki_3_4 sS_15 kk_15 rfl ?_
      refine rf_aload_n (n := 30) 0 dX3_readToken_29 rfl rfl rfl ?_
      refine rf_getI (n := 33) hG dX3_readToken_30 flX3_35 ki_3_6 sS_15 kk_15 rfl ?_
      refine rf_iald (n := 34) hG dX3_readToken_33 sS_1 kk_1 rfl (fun v23 => ?_)
      refine rf_bipush (n := 36) (10 : Int32) dX3_readToken_34 ccbipush_10 rfl ?_
      refine rf_icmp_ne (tg := 52) (n := 39) dX3_readToken_36 rfl rfl (fun c24 => ?_) (fun c24 => ?_)
      · exact pX3_readToken_K52 hG _
      · exact pX3_readToken_K39 hG r0 hr0 _
theorem pX3_readToken_L0 {x : ax_X} {G : ax_G} (hG : ax_ok G) (n : Nat) (μ : ax_M) : ax_Rf mX3_readToken 2 x (ax_Z ax_jV x G) G 0 0 0 [some (.ref 15)] [] μ (ax_lp0 (fX3_readToken_B0) n  μ) :=
  rf_lp0 (P := fun  μ t => ax_Rf mX3_readToken 2 x (ax_Z ax_jV x G) G 0 0 0 [some (.ref 15)] [] μ t) (fun  _ => rf_none) (fun rc hrc  μ => pX3_readToken_B0 hG rc hrc  μ) n  μ
def fX3_readToken (μ : ax_M) : Option (Unit × ax_M) :=
  (ax_lp0 (fX3_readToken_B0) ax_FU μ)
theorem okX3_readToken (μ : ax_M) : ax_Ok mX3_readToken 2 ax_jV [.ref 15] μ (fX3_readToken μ) := by
  refine ax_start (lc := [some (.ref 15)]) 0 (by decide +kernel) rfl (Nat.le_of_ble_eq_true rfl) (fun x G hG => ?_)
  unfold fX3_readToken
  exact pX3_readToken_L0 hG _ _
def fX3_refuse_K20 (μ : ax_M) : Option (Unit × ax_M) :=
  (some ((), μ))
theorem pX3_refuse_K20 {x : ax_X} {G : ax_G} (hG : ax_ok G) (μ : ax_M) : ax_Rf mX3_refuse 0 x (ax_Z ax_jV x G) G 0 0 20 [none, none] [] μ (fX3_refuse_K20 μ) := by
  unfold fX3_refuse_K20
  exact rf_retV rfl dX3_refuse_20
def fX3_refuse (p1 : Int32) (μ : ax_M) : Option (Unit × ax_M) :=
  (if (μ.1 15 2) = 0 then (ax_let (ax_wi μ 15 2 p1) (fun m1 => (ax_let (ax_wi m1 15 3 (m1.1 15 8)) (fun m2 => (fX3_refuse_K20 m2))))) else (fX3_refuse_K20 μ))
theorem okX3_refuse (p1 : Int32) (μ : ax_M) : ax_Ok mX3_refuse 0 ax_jV [.ref 15, .int p1] μ (fX3_refuse p1 μ) := by
  refine ax_start (lc := [some (.ref 15), some (.int p1)]) 0 (by decide +kernel) rfl (Nat.le_of_ble_eq_true rfl) (fun x G hG => ?_)
  unfold fX3_refuse
  refine rf_aload_n (n := 1) 0 dX3_refuse_0 rfl rfl rfl ?_
  refine rf_getI (n := 4) hG dX3_refuse_1 flX3_41 ki_3_2 sS_15 kk_15 rfl ?_
  refine rf_if_ne (tg := 20) (n := 7) dX3_refuse_4 rfl rfl (fun c3 => ?_) (fun c3 => ?_)
  · refine rf_mask (lc2 := [none, none]) [false, false] rfl ?_
    exact pX3_refuse_K20 hG _
  · refine rf_aload_n (n := 8) 0 dX3_refuse_7 rfl rfl rfl ?_
    refine rf_iload_n (n := 9) 1 dX3_refuse_8 rfl rfl rfl ?_
    refine rf_pfI (n := 12) hG rfl dX3_refuse_9 flX3_41 ki_3_2 nf_3_2 sS_15 kk_15 rfl (fun m1 => ?_)
    refine rf_aload_n (n := 13) 0 dX3_refuse_12 rfl rfl rfl ?_
    refine rf_aload_n (n := 14) 0 dX3_refuse_13 rfl rfl rfl ?_
    refine rf_getI (n := 17) hG dX3_refuse_14 flX3_181 ki_3_8 sS_15 kk_15 rfl ?_
    refine rf_pfI (n := 20) hG rfl dX3_refuse_17 flX3_18 ki_3_3 nf_3_3 sS_15 kk_15 rfl (fun m2 => ?_)
    refine rf_mask (lc2 := [none, none]) [false, false] rfl ?_
    exact pX3_refuse_K20 hG _
def fX3_refuseIf_K9 (μ : ax_M) : Option (Unit × ax_M) :=
  (some ((), μ))
theorem pX3_refuseIf_K9 {x : ax_X} {G : ax_G} (hG : ax_ok G) (μ : ax_M) : ax_Rf mX3_refuseIf 1 x (ax_Z ax_jV x G) G 0 0 9 [none, none, none] [] μ (fX3_refuseIf_K9 μ) := by
  unfold fX3_refuseIf_K9
  exact rf_retV rfl dX3_refuseIf_9
def fX3_refuseIf (p1 : Int32) (p2 : Int32) (μ : ax_M) : Option (Unit × ax_M) :=
  (if p1 = 0 then (fX3_refuseIf_K9 μ) else (ax_bd (fX3_refuse p2 μ) (fun _ m2 => (fX3_refuseIf_K9 m2))))
theorem okX3_refuseIf (p1 : Int32) (p2 : Int32) (μ : ax_M) : ax_Ok mX3_refuseIf 1 ax_jV [.ref 15, .int p1, .int p2] μ (fX3_refuseIf p1 p2 μ) := by
  refine ax_start (lc := [some (.ref 15), some (.int p1), some (.int p2)]) 0 (by decide +kernel) rfl (Nat.le_of_ble_eq_true rfl) (fun x G hG => ?_)
  unfold fX3_refuseIf
  refine rf_iload_n (n := 1) 1 dX3_refuseIf_0 rfl rfl rfl ?_
  refine rf_if_eq (tg := 9) (n := 4) dX3_refuseIf_1 rfl rfl (fun c3 => ?_) (fun c3 => ?_)
  · refine rf_mask (lc2 := [none, none, none]) [false, false, false] rfl ?_
    exact pX3_refuseIf_K9 hG _
  · refine rf_aload_n (n := 5) 0 dX3_refuseIf_4 rfl rfl rfl ?_
    refine rf_iload_n (n := 6) 2 dX3_refuseIf_5 rfl rfl rfl ?_
    refine rf_cV1V (n := 9) hG (okX3_refuse _ _) lVX3_88 hhX3_refuse kk_15 sS_15 ⟨_, rfl, rfl⟩ dX3_refuseIf_6 rfl (Nat.le_of_ble_eq_true rfl) (Nat.le_of_ble_eq_true rfl) (fun _ m2 => ?_)
    refine rf_mask (lc2 := [none, none, none]) [false, false, false] rfl ?_
    exact pX3_refuseIf_K9 hG _
def fX8_find_B2 (l1 : Int32) (l2 : Int32) (r2 : Int32 → ax_M → Option (Int32 × ax_M)) (l3 : Int32) (μ : ax_M) : Option (Int32 × ax_M) :=
  (if l1 ≤ l3 then (some ((-1 : Int32), μ)) else (Option.bind (ax_rd μ 20 10 l3) (fun v1 => (if v1 = l2 then (some (l3, μ)) else (r2 (l3 + (1 : Int32)) μ)))))
theorem pX8_find_B2 {x : ax_X} {G : ax_G} (hG : ax_ok G) (l1 : Int32) (l2 : Int32) (r2 : Int32 → ax_M → Option (Int32 × ax_M)) (hr2 : ∀ (a3 : Int32) (μ : ax_M), ax_Rf mX8_find 0 x (ax_Z ax_jI x G) G 0 0 2 [some (.ref 20), some (.int l1), some (.int l2), some (.int a3)] [] μ (r2 a3 μ)) (l3 : Int32) (μ : ax_M) : ax_Rf mX8_find 0 x (ax_Z ax_jI x G) G 0 0 2 [some (.ref 20), some (.int l1), some (.int l2), some (.int l3)] [] μ (fX8_find_B2 l1 l2 r2 l3 μ) := by
  unfold fX8_find_B2
  refine rf_iload_n (n := 3) 3 dX8_find_2 rfl rfl rfl ?_
  refine rf_iload_n (n := 4) 1 dX8_find_3 rfl rfl rfl ?_
  refine rf_icmp_ge (tg := 22) (n := 7) dX8_find_4 rfl rfl (fun c3 => ?_) (fun c3 => ?_)
  · refine rf_iconst (n := 23) (-1 : Int32) dX8_find_22 cciconst_m1 rfl ?_
    exact rf_retI rfl dX8_find_23
  · refine rf_aload_n (n := 8) 0 dX8_find_7 rfl rfl rfl ?_
    refine rf_iload_n (n := 9) 3 dX8_find_8 rfl rfl rfl ?_
    refine rf_iald (n := 10) hG dX8_find_9 sS_20 kk_20 rfl (fun v1 => ?_)
    refine rf_iload_n (n := 11) 2 dX8_find_10 rfl rfl rfl ?_
    refine rf_icmp_ne (tg := 16) (n := 14) dX8_find_11 rfl rfl (fun c2 => ?_) (fun c2 => ?_)
    · refine rf_iinc (lc2 := [some (.ref 20), some (.int l1), some (.int l2), some (.int (l3 + (1 : Int32)))]) (n := 19) (w := (1 : Int32)) 3 dX8_find_16 rfl rfl rfl (Nat.le_of_ble_eq_true rfl) rfl rfl ?_
      refine rf_goto (tg := 2) dX8_find_19 rfl ?_
      exact hr2 _ _
    · refine rf_iload_n (n := 15) 3 dX8_find_14 rfl rfl rfl ?_
      exact rf_retI rfl dX8_find_15
theorem pX8_find_L2 {x : ax_X} {G : ax_G} (hG : ax_ok G) (l1 : Int32) (l2 : Int32) (n : Nat) (a3 : Int32) (μ : ax_M) : ax_Rf mX8_find 0 x (ax_Z ax_jI x G) G 0 0 2 [some (.ref 20), some (.int l1), some (.int l2), some (.int a3)] [] μ (ax_lp1 (fX8_find_B2 l1 l2) n a3 μ) :=
  rf_lp1 (P := fun a3 μ t => ax_Rf mX8_find 0 x (ax_Z ax_jI x G) G 0 0 2 [some (.ref 20), some (.int l1), some (.int l2), some (.int a3)] [] μ t) (fun _ _ => rf_none) (fun rc hrc a3 μ => pX8_find_B2 hG l1 l2 rc hrc a3 μ) n a3 μ
def fX8_find (p1 : Int32) (p2 : Int32) (μ : ax_M) : Option (Int32 × ax_M) :=
  (ax_lp1 (fX8_find_B2 p1 p2) ax_FU (0 : Int32) μ)
theorem okX8_find (p1 : Int32) (p2 : Int32) (μ : ax_M) : ax_Ok mX8_find 0 ax_jI [.ref 20, .int p1, .int p2] μ (fX8_find p1 p2 μ) := by
  refine ax_start (lc := [some (.ref 20), some (.int p1), some (.int p2), none]) 1 (by decide +kernel) rfl (Nat.le_of_ble_eq_true rfl) (fun x G hG => ?_)
  unfold fX8_find
  refine rf_iconst (n := 1) (0 : Int32) dX8_find_0 cciconst_0 rfl ?_
  refine rf_istore_n (lc2 := [some (.ref 20), some (.int p1), some (.int p2), some (.int (0 : Int32))]) (n := 2) 3 dX8_find_1 rfl rfl (Nat.le_of_ble_eq_true rfl) rfl rfl ?_
  exact pX8_find_L2 hG _ _ _ _ _
def fX3_isOfLanguage_K47 (s0 : Int32) (μ : ax_M) : Option (Int32 × ax_M) :=
  (some (vp_nar .boolean s0, μ))
theorem pX3_isOfLanguage_K47 {x : ax_X} {G : ax_G} (hG : ax_ok G) (s0 : Int32) (μ : ax_M) : ax_Rf mX3_isOfLanguage 0 x (ax_Z ax_jI x G) G 0 0 47 [none] [.int s0] μ (fX3_isOfLanguage_K47 s0 μ) := by
  unfold fX3_isOfLanguage_K47
  exact rf_retZ rfl dX3_isOfLanguage_47
def fX3_isOfLanguage_K42 (μ : ax_M) : Option (Int32 × ax_M) :=
  (fX3_isOfLanguage_K47 (1 : Int32) μ)
theorem pX3_isOfLanguage_K42 {x : ax_X} {G : ax_G} (hG : ax_ok G) (μ : ax_M) : ax_Rf mX3_isOfLanguage 0 x (ax_Z ax_jI x G) G 0 0 42 [none] [] μ (fX3_isOfLanguage_K42 μ) := by
  unfold fX3_isOfLanguage_K42
  refine rf_iconst (n := 43) (1 : Int32) dX3_isOfLanguage_42 cciconst_1 rfl ?_
  refine rf_goto (tg := 47) dX3_isOfLanguage_43 rfl ?_
  exact pX3_isOfLanguage_K47 hG _ _
def fX3_isOfLanguage (p0 : Int32) (μ : ax_M) : Option (Int32 × ax_M) :=
  (if p0 = (542713316 : Int32) then (fX3_isOfLanguage_K42 μ) else (if p0 = (545311904 : Int32) then (fX3_isOfLanguage_K42 μ) else (if p0 = (404360448 : Int32) then (fX3_isOfLanguage_K42 μ) else (if p0 = (214417408 : Int32) then (fX3_isOfLanguage_K42 μ) else (if p0 = (538583040 : Int32) then (fX3_isOfLanguage_K42 μ) else (if p0 = (649255936 : Int32) then (fX3_isOfLanguage_K42 μ) else (if p0 = (642945024 : Int32) then (fX3_isOfLanguage_K42 μ) else (fX3_isOfLanguage_K47 (0 : Int32) μ))))))))
theorem okX3_isOfLanguage (p0 : Int32) (μ : ax_M) : ax_Ok mX3_isOfLanguage 0 ax_jI [.int p0] μ (fX3_isOfLanguage p0 μ) := by
  refine ax_start (lc := [some (.int p0)]) 0 (by decide +kernel) rfl (Nat.le_of_ble_eq_true rfl) (fun x G hG => ?_)
  unfold fX3_isOfLanguage
  refine rf_iload_n (n := 1) 0 dX3_isOfLanguage_0 rfl rfl rfl ?_
  refine rf_ldc (n := 3) dX3_isOfLanguage_1 ctX3_174 rfl ?_
  refine rf_icmp_eq (tg := 42) (n := 6) dX3_isOfLanguage_3 rfl rfl (fun c7 => ?_) (fun c7 => ?_)
  · refine rf_mask (lc2 := [none]) [false] rfl ?_
    exact pX3_isOfLanguage_K42 hG _
  · refine rf_iload_n (n := 7) 0 dX3_isOfLanguage_6 rfl rfl rfl ?_
    refine rf_ldc (n := 9) dX3_isOfLanguage_7 ctX3_175 rfl ?_
    refine rf_icmp_eq (tg := 42) (n := 12) dX3_isOfLanguage_9 rfl rfl (fun c6 => ?_) (fun c6 => ?_)
    · refine rf_mask (lc2 := [none]) [false] rfl ?_
      exact pX3_isOfLanguage_K42 hG _
    · refine rf_iload_n (n := 13) 0 dX3_isOfLanguage_12 rfl rfl rfl ?_
      refine rf_ldc (n := 15) dX3_isOfLanguage_13 ctX3_176 rfl ?_
      refine rf_icmp_eq (tg := 42) (n := 18) dX3_isOfLanguage_15 rfl rfl (fun c5 => ?_) (fun c5 => ?_)
      · refine rf_mask (lc2 := [none]) [false] rfl ?_
        exact pX3_isOfLanguage_K42 hG _
      · refine rf_iload_n (n := 19) 0 dX3_isOfLanguage_18 rfl rfl rfl ?_
        refine rf_ldc (n := 21) dX3_isOfLanguage_19 ctX3_177 rfl ?_
        refine rf_icmp_eq (tg := 42) (n := 24) dX3_isOfLanguage_21 rfl rfl (fun c4 => ?_) (fun c4 => ?_)
        · refine rf_mask (lc2 := [none]) [false] rfl ?_
          exact pX3_isOfLanguage_K42 hG _
        · refine rf_iload_n (n := 25) 0 dX3_isOfLanguage_24 rfl rfl rfl ?_
          refine rf_ldc (n := 27) dX3_isOfLanguage_25 ctX3_178 rfl ?_
          refine rf_icmp_eq (tg := 42) (n := 30) dX3_isOfLanguage_27 rfl rfl (fun c3 => ?_) (fun c3 => ?_)
          · refine rf_mask (lc2 := [none]) [false] rfl ?_
            exact pX3_isOfLanguage_K42 hG _
          · refine rf_iload_n (n := 31) 0 dX3_isOfLanguage_30 rfl rfl rfl ?_
            refine rf_ldc (n := 33) dX3_isOfLanguage_31 ctX3_179 rfl ?_
            refine rf_icmp_eq (tg := 42) (n := 36) dX3_isOfLanguage_33 rfl rfl (fun c2 => ?_) (fun c2 => ?_)
            · refine rf_mask (lc2 := [none]) [false] rfl ?_
              exact pX3_isOfLanguage_K42 hG _
            · refine rf_iload_n (n := 37) 0 dX3_isOfLanguage_36 rfl rfl rfl ?_
              refine rf_ldc (n := 39) dX3_isOfLanguage_37 ctX3_180 rfl ?_
              refine rf_icmp_ne (tg := 46) (n := 42) dX3_isOfLanguage_39 rfl rfl (fun c1 => ?_) (fun c1 => ?_)
              · refine rf_iconst (n := 47) (0 : Int32) dX3_isOfLanguage_46 cciconst_0 rfl ?_
                refine rf_mask (lc2 := [none]) [false] rfl ?_
                exact pX3_isOfLanguage_K47 hG _ _
              · refine rf_mask (lc2 := [none]) [false] rfl ?_
                exact pX3_isOfLanguage_K42 hG _
def fX3_readName_K28 (l2 : Int32) (s1 : Int32) (μ : ax_M) : Option (Int32 × ax_M) :=
  (ax_bd (fX3_refuseIf s1 (1 : Int32) μ) (fun _ m4 => (ax_bd (fX8_find l2 (m4.1 15 9) m4) (fun v5 m6 => (some (v5, m6))))))
theorem pX3_readName_K28 {x : ax_X} {G : ax_G} (hG : ax_ok G) (l2 : Int32) (s1 : Int32) (μ : ax_M) : ax_Rf mX3_readName 3 x (ax_Z ax_jI x G) G 0 0 28 [some (.ref 15), some (.ref 20), some (.int l2)] [.int s1, .ref 15] μ (fX3_readName_K28 l2 s1 μ) := by
  unfold fX3_readName_K28
  refine rf_iconst (n := 29) (1 : Int32) dX3_readName_28 cciconst_1 rfl ?_
  refine rf_cV2V (n := 32) hG (okX3_refuseIf _ _ _) lVX3_91 hhX3_refuseIf kk_15 sS_15 ⟨_, rfl, rfl⟩ dX3_readName_29 rfl (Nat.le_of_ble_eq_true rfl) (Nat.le_of_ble_eq_true rfl) (fun _ m4 => ?_)
  refine rf_aload_n (n := 33) 1 dX3_readName_32 rfl rfl rfl ?_
  refine rf_iload_n (n := 34) 2 dX3_readName_33 rfl rfl rfl ?_
  refine rf_aload_n (n := 35) 0 dX3_readName_34 rfl rfl rfl ?_
  refine rf_getI (n := 38) hG dX3_readName_35 flX3_66 ki_3_9 sS_15 kk_15 rfl ?_
  refine rf_cN3I (n := 41) hG (okX8_find _ _ _) lNX3_170 hhX8_find dX3_readName_38 rfl (Nat.le_of_ble_eq_true rfl) (Nat.le_of_ble_eq_true rfl) (fun v5 m6 => ?_)
  exact rf_retI rfl dX3_readName_41
def fX3_readName_K23 (l2 : Int32) (μ : ax_M) : Option (Int32 × ax_M) :=
  (fX3_readName_K28 l2 (1 : Int32) μ)
theorem pX3_readName_K23 {x : ax_X} {G : ax_G} (hG : ax_ok G) (l2 : Int32) (μ : ax_M) : ax_Rf mX3_readName 3 x (ax_Z ax_jI x G) G 0 0 23 [some (.ref 15), some (.ref 20), some (.int l2)] [.ref 15] μ (fX3_readName_K23 l2 μ) := by
  unfold fX3_readName_K23
  refine rf_iconst (n := 24) (1 : Int32) dX3_readName_23 cciconst_1 rfl ?_
  refine rf_goto (tg := 28) dX3_readName_24 rfl ?_
  exact pX3_readName_K28 hG _ _ _
def fX3_readName (p2 : Int32) (μ : ax_M) : Option (Int32 × ax_M) :=
  (ax_bd (fX3_readToken μ) (fun _ m2 => (if (m2.1 15 7) = (1 : Int32) then (ax_bd (fX3_isOfLanguage (m2.1 15 9) m2) (fun v7 m8 => (if v7 = 0 then (fX3_readName_K28 p2 (0 : Int32) m8) else (fX3_readName_K23 p2 m8)))) else (fX3_readName_K23 p2 m2))))
theorem okX3_readName (p2 : Int32) (μ : ax_M) : ax_Ok mX3_readName 3 ax_jI [.ref 15, .ref 20, .int p2] μ (fX3_readName p2 μ) := by
  refine ax_start (lc := [some (.ref 15), some (.ref 20), some (.int p2)]) 0 (by decide +kernel) rfl (Nat.le_of_ble_eq_true rfl) (fun x G hG => ?_)
  unfold fX3_readName
  refine rf_aload_n (n := 1) 0 dX3_readName_0 rfl rfl rfl ?_
  refine rf_cV0V (n := 4) hG (okX3_readToken _) lVX3_57 hhX3_readToken kk_15 sS_15 ⟨_, rfl, rfl⟩ dX3_readName_1 rfl (Nat.le_of_ble_eq_true rfl) (Nat.le_of_ble_eq_true rfl) (fun _ m2 => ?_)
  refine rf_aload_n (n := 5) 0 dX3_readName_4 rfl rfl rfl ?_
  refine rf_aload_n (n := 6) 0 dX3_readName_5 rfl rfl rfl ?_
  refine rf_getI (n := 9) hG dX3_readName_6 flX3_60 ki_3_7 sS_15 kk_15 rfl ?_
  refine rf_iconst (n := 10) (1 : Int32) dX3_readName_9 cciconst_1 rfl ?_
  refine rf_icmp_ne (tg := 23) (n := 13) dX3_readName_10 rfl rfl (fun c10 => ?_) (fun c10 => ?_)
  · exact pX3_readName_K23 hG _ _
  · refine rf_aload_n (n := 14) 0 dX3_readName_13 rfl rfl rfl ?_
    refine rf_getI (n := 17) hG dX3_readName_14 flX3_66 ki_3_9 sS_15 kk_15 rfl ?_
    refine rf_cS1I (n := 20) hG (okX3_isOfLanguage _ _) lSX3_166 hhX3_isOfLanguage dX3_readName_17 rfl (Nat.le_of_ble_eq_true rfl) (Nat.le_of_ble_eq_true rfl) (fun v7 m8 => ?_)
    refine rf_if_eq (tg := 27) (n := 23) dX3_readName_20 rfl rfl (fun c9 => ?_) (fun c9 => ?_)
    · refine rf_iconst (n := 28) (0 : Int32) dX3_readName_27 cciconst_0 rfl ?_
      exact pX3_readName_K28 hG _ _ _
    · exact pX3_readName_K23 hG _ _
def fX8_find_1_B2 (l1 : Int32) (l2 : Int32) (r2 : Int32 → ax_M → Option (Int32 × ax_M)) (l3 : Int32) (μ : ax_M) : Option (Int32 × ax_M) :=
  (if l1 ≤ l3 then (some ((-1 : Int32), μ)) else (Option.bind (ax_rd μ 17 4 l3) (fun v1 => (if v1 = l2 then (some (l3, μ)) else (r2 (l3 + (1 : Int32)) μ)))))
theorem pX8_find_1_B2 {x : ax_X} {G : ax_G} (hG : ax_ok G) (l1 : Int32) (l2 : Int32) (r2 : Int32 → ax_M → Option (Int32 × ax_M)) (hr2 : ∀ (a3 : Int32) (μ : ax_M), ax_Rf mX8_find 0 x (ax_Z ax_jI x G) G 0 0 2 [some (.ref 17), some (.int l1), some (.int l2), some (.int a3)] [] μ (r2 a3 μ)) (l3 : Int32) (μ : ax_M) : ax_Rf mX8_find 0 x (ax_Z ax_jI x G) G 0 0 2 [some (.ref 17), some (.int l1), some (.int l2), some (.int l3)] [] μ (fX8_find_1_B2 l1 l2 r2 l3 μ) := by
  unfold fX8_find_1_B2
  refine rf_iload_n (n := 3) 3 dX8_find_2 rfl rfl rfl ?_
  refine rf_iload_n (n := 4) 1 dX8_find_3 rfl rfl rfl ?_
  refine rf_icmp_ge (tg := 22) (n := 7) dX8_find_4 rfl rfl (fun c3 => ?_) (fun c3 => ?_)
  · refine rf_iconst (n := 23) (-1 : Int32) dX8_find_22 cciconst_m1 rfl ?_
    exact rf_retI rfl dX8_find_23
  · refine rf_aload_n (n := 8) 0 dX8_find_7 rfl rfl rfl ?_
    refine rf_iload_n (n := 9) 3 dX8_find_8 rfl rfl rfl ?_
    refine rf_iald (n := 10) hG dX8_find_9 sS_17 kk_17 rfl (fun v1 => ?_)
    refine rf_iload_n (n := 11) 2 dX8_find_10 rfl rfl rfl ?_
    refine rf_icmp_ne (tg := 16) (n := 14) dX8_find_11 rfl rfl (fun c2 => ?_) (fun c2 => ?_)
    · refine rf_iinc (lc2 := [some (.ref 17), some (.int l1), some (.int l2), some (.int (l3 + (1 : Int32)))]) (n := 19) (w := (1 : Int32)) 3 dX8_find_16 rfl rfl rfl (Nat.le_of_ble_eq_true rfl) rfl rfl ?_
      refine rf_goto (tg := 2) dX8_find_19 rfl ?_
      exact hr2 _ _
    · refine rf_iload_n (n := 15) 3 dX8_find_14 rfl rfl rfl ?_
      exact rf_retI rfl dX8_find_15
theorem pX8_find_1_L2 {x : ax_X} {G : ax_G} (hG : ax_ok G) (l1 : Int32) (l2 : Int32) (n : Nat) (a3 : Int32) (μ : ax_M) : ax_Rf mX8_find 0 x (ax_Z ax_jI x G) G 0 0 2 [some (.ref 17), some (.int l1), some (.int l2), some (.int a3)] [] μ (ax_lp1 (fX8_find_1_B2 l1 l2) n a3 μ) :=
  rf_lp1 (P := fun a3 μ t => ax_Rf mX8_find 0 x (ax_Z ax_jI x G) G 0 0 2 [some (.ref 17), some (.int l1), some (.int l2), some (.int a3)] [] μ t) (fun _ _ => rf_none) (fun rc hrc a3 μ => pX8_find_1_B2 hG l1 l2 rc hrc a3 μ) n a3 μ
def fX8_find_1 (p1 : Int32) (p2 : Int32) (μ : ax_M) : Option (Int32 × ax_M) :=
  (ax_lp1 (fX8_find_1_B2 p1 p2) ax_FU (0 : Int32) μ)
theorem okX8_find_1 (p1 : Int32) (p2 : Int32) (μ : ax_M) : ax_Ok mX8_find 0 ax_jI [.ref 17, .int p1, .int p2] μ (fX8_find_1 p1 p2 μ) := by
  refine ax_start (lc := [some (.ref 17), some (.int p1), some (.int p2), none]) 1 (by decide +kernel) rfl (Nat.le_of_ble_eq_true rfl) (fun x G hG => ?_)
  unfold fX8_find_1
  refine rf_iconst (n := 1) (0 : Int32) dX8_find_0 cciconst_0 rfl ?_
  refine rf_istore_n (lc2 := [some (.ref 17), some (.int p1), some (.int p2), some (.int (0 : Int32))]) (n := 2) 3 dX8_find_1 rfl rfl (Nat.le_of_ble_eq_true rfl) rfl rfl ?_
  exact pX8_find_1_L2 hG _ _ _ _ _
def fX3_readName_1_K28 (l2 : Int32) (s1 : Int32) (μ : ax_M) : Option (Int32 × ax_M) :=
  (ax_bd (fX3_refuseIf s1 (1 : Int32) μ) (fun _ m4 => (ax_bd (fX8_find_1 l2 (m4.1 15 9) m4) (fun v5 m6 => (some (v5, m6))))))
theorem pX3_readName_1_K28 {x : ax_X} {G : ax_G} (hG : ax_ok G) (l2 : Int32) (s1 : Int32) (μ : ax_M) : ax_Rf mX3_readName 3 x (ax_Z ax_jI x G) G 0 0 28 [some (.ref 15), some (.ref 17), some (.int l2)] [.int s1, .ref 15] μ (fX3_readName_1_K28 l2 s1 μ) := by
  unfold fX3_readName_1_K28
  refine rf_iconst (n := 29) (1 : Int32) dX3_readName_28 cciconst_1 rfl ?_
  refine rf_cV2V (n := 32) hG (okX3_refuseIf _ _ _) lVX3_91 hhX3_refuseIf kk_15 sS_15 ⟨_, rfl, rfl⟩ dX3_readName_29 rfl (Nat.le_of_ble_eq_true rfl) (Nat.le_of_ble_eq_true rfl) (fun _ m4 => ?_)
  refine rf_aload_n (n := 33) 1 dX3_readName_32 rfl rfl rfl ?_
  refine rf_iload_n (n := 34) 2 dX3_readName_33 rfl rfl rfl ?_
  refine rf_aload_n (n := 35) 0 dX3_readName_34 rfl rfl rfl ?_
  refine rf_getI (n := 38) hG dX3_readName_35 flX3_66 ki_3_9 sS_15 kk_15 rfl ?_
  refine rf_cN3I (n := 41) hG (okX8_find_1 _ _ _) lNX3_170 hhX8_find dX3_readName_38 rfl (Nat.le_of_ble_eq_true rfl) (Nat.le_of_ble_eq_true rfl) (fun v5 m6 => ?_)
  exact rf_retI rfl dX3_readName_41
def fX3_readName_1_K23 (l2 : Int32) (μ : ax_M) : Option (Int32 × ax_M) :=
  (fX3_readName_1_K28 l2 (1 : Int32) μ)
theorem pX3_readName_1_K23 {x : ax_X} {G : ax_G} (hG : ax_ok G) (l2 : Int32) (μ : ax_M) : ax_Rf mX3_readName 3 x (ax_Z ax_jI x G) G 0 0 23 [some (.ref 15), some (.ref 17), some (.int l2)] [.ref 15] μ (fX3_readName_1_K23 l2 μ) := by
  unfold fX3_readName_1_K23
  refine rf_iconst (n := 24) (1 : Int32) dX3_readName_23 cciconst_1 rfl ?_
  refine rf_goto (tg := 28) dX3_readName_24 rfl ?_
  exact pX3_readName_1_K28 hG _ _ _
def fX3_readName_1 (p2 : Int32) (μ : ax_M) : Option (Int32 × ax_M) :=
  (ax_bd (fX3_readToken μ) (fun _ m2 => (if (m2.1 15 7) = (1 : Int32) then (ax_bd (fX3_isOfLanguage (m2.1 15 9) m2) (fun v7 m8 => (if v7 = 0 then (fX3_readName_1_K28 p2 (0 : Int32) m8) else (fX3_readName_1_K23 p2 m8)))) else (fX3_readName_1_K23 p2 m2))))
theorem okX3_readName_1 (p2 : Int32) (μ : ax_M) : ax_Ok mX3_readName 3 ax_jI [.ref 15, .ref 17, .int p2] μ (fX3_readName_1 p2 μ) := by
  refine ax_start (lc := [some (.ref 15), some (.ref 17), some (.int p2)]) 0 (by decide +kernel) rfl (Nat.le_of_ble_eq_true rfl) (fun x G hG => ?_)
  unfold fX3_readName_1
  refine rf_aload_n (n := 1) 0 dX3_readName_0 rfl rfl rfl ?_
  refine rf_cV0V (n := 4) hG (okX3_readToken _) lVX3_57 hhX3_readToken kk_15 sS_15 ⟨_, rfl, rfl⟩ dX3_readName_1 rfl (Nat.le_of_ble_eq_true rfl) (Nat.le_of_ble_eq_true rfl) (fun _ m2 => ?_)
  refine rf_aload_n (n := 5) 0 dX3_readName_4 rfl rfl rfl ?_
  refine rf_aload_n (n := 6) 0 dX3_readName_5 rfl rfl rfl ?_
  refine rf_getI (n := 9) hG dX3_readName_6 flX3_60 ki_3_7 sS_15 kk_15 rfl ?_
  refine rf_iconst (n := 10) (1 : Int32) dX3_readName_9 cciconst_1 rfl ?_
  refine rf_icmp_ne (tg := 23) (n := 13) dX3_readName_10 rfl rfl (fun c10 => ?_) (fun c10 => ?_)
  · exact pX3_readName_1_K23 hG _ _
  · refine rf_aload_n (n := 14) 0 dX3_readName_13 rfl rfl rfl ?_
    refine rf_getI (n := 17) hG dX3_readName_14 flX3_66 ki_3_9 sS_15 kk_15 rfl ?_
    refine rf_cS1I (n := 20) hG (okX3_isOfLanguage _ _) lSX3_166 hhX3_isOfLanguage dX3_readName_17 rfl (Nat.le_of_ble_eq_true rfl) (Nat.le_of_ble_eq_true rfl) (fun v7 m8 => ?_)
    refine rf_if_eq (tg := 27) (n := 23) dX3_readName_20 rfl rfl (fun c9 => ?_) (fun c9 => ?_)
    · refine rf_iconst (n := 28) (0 : Int32) dX3_readName_27 cciconst_0 rfl ?_
      exact pX3_readName_1_K28 hG _ _ _
    · exact pX3_readName_1_K23 hG _ _
def fX3_readNumber_K44 (s1 : Int32) (μ : ax_M) : Option (Int32 × ax_M) :=
  (ax_bd (fX3_refuseIf s1 (2 : Int32) μ) (fun _ m6 => (some ((m6.1 15 9), m6))))
theorem pX3_readNumber_K44 {x : ax_X} {G : ax_G} (hG : ax_ok G) (s1 : Int32) (μ : ax_M) : ax_Rf mX3_readNumber 3 x (ax_Z ax_jI x G) G 0 0 44 [some (.ref 15), none, none] [.int s1, .ref 15] μ (fX3_readNumber_K44 s1 μ) := by
  unfold fX3_readNumber_K44
  refine rf_iconst (n := 45) (2 : Int32) dX3_readNumber_44 cciconst_2 rfl ?_
  refine rf_cV2V (n := 48) hG (okX3_refuseIf _ _ _) lVX3_91 hhX3_refuseIf kk_15 sS_15 ⟨_, rfl, rfl⟩ dX3_readNumber_45 rfl (Nat.le_of_ble_eq_true rfl) (Nat.le_of_ble_eq_true rfl) (fun _ m6 => ?_)
  refine rf_aload_n (n := 49) 0 dX3_readNumber_48 rfl rfl rfl ?_
  refine rf_getI (n := 52) hG dX3_readNumber_49 flX3_66 ki_3_9 sS_15 kk_15 rfl ?_
  exact rf_retI rfl dX3_readNumber_52
def fX3_readNumber_K39 (μ : ax_M) : Option (Int32 × ax_M) :=
  (fX3_readNumber_K44 (1 : Int32) μ)
theorem pX3_readNumber_K39 {x : ax_X} {G : ax_G} (hG : ax_ok G) (μ : ax_M) : ax_Rf mX3_readNumber 3 x (ax_Z ax_jI x G) G 0 0 39 [some (.ref 15), none, none] [.ref 15] μ (fX3_readNumber_K39 μ) := by
  unfold fX3_readNumber_K39
  refine rf_iconst (n := 40) (1 : Int32) dX3_readNumber_39 cciconst_1 rfl ?_
  refine rf_goto (tg := 44) dX3_readNumber_40 rfl ?_
  exact pX3_readNumber_K44 hG _ _
def fX3_readNumber_K18 (l1 : Int32) (l2 : Int32) (s1 : Int32) (μ : ax_M) : Option (Int32 × ax_M) :=
  (ax_bd (fX3_refuseIf s1 (1 : Int32) μ) (fun _ m4 => (if (m4.1 15 9) < l1 then (fX3_readNumber_K39 m4) else (if (m4.1 15 9) ≤ l2 then (fX3_readNumber_K44 (0 : Int32) m4) else (fX3_readNumber_K39 m4)))))
theorem pX3_readNumber_K18 {x : ax_X} {G : ax_G} (hG : ax_ok G) (l1 : Int32) (l2 : Int32) (s1 : Int32) (μ : ax_M) : ax_Rf mX3_readNumber 3 x (ax_Z ax_jI x G) G 0 0 18 [some (.ref 15), some (.int l1), some (.int l2)] [.int s1, .ref 15] μ (fX3_readNumber_K18 l1 l2 s1 μ) := by
  unfold fX3_readNumber_K18
  refine rf_iconst (n := 19) (1 : Int32) dX3_readNumber_18 cciconst_1 rfl ?_
  refine rf_cV2V (n := 22) hG (okX3_refuseIf _ _ _) lVX3_91 hhX3_refuseIf kk_15 sS_15 ⟨_, rfl, rfl⟩ dX3_readNumber_19 rfl (Nat.le_of_ble_eq_true rfl) (Nat.le_of_ble_eq_true rfl) (fun _ m4 => ?_)
  refine rf_aload_n (n := 23) 0 dX3_readNumber_22 rfl rfl rfl ?_
  refine rf_aload_n (n := 24) 0 dX3_readNumber_23 rfl rfl rfl ?_
  refine rf_getI (n := 27) hG dX3_readNumber_24 flX3_66 ki_3_9 sS_15 kk_15 rfl ?_
  refine rf_iload_n (n := 28) 1 dX3_readNumber_27 rfl rfl rfl ?_
  refine rf_icmp_lt (tg := 39) (n := 31) dX3_readNumber_28 rfl rfl (fun c8 => ?_) (fun c8 => ?_)
  · refine rf_mask (lc2 := [some (.ref 15), none, none]) [true, false, false] rfl ?_
    exact pX3_readNumber_K39 hG _
  · refine rf_aload_n (n := 32) 0 dX3_readNumber_31 rfl rfl rfl ?_
    refine rf_getI (n := 35) hG dX3_readNumber_32 flX3_66 ki_3_9 sS_15 kk_15 rfl ?_
    refine rf_iload_n (n := 36) 2 dX3_readNumber_35 rfl rfl rfl ?_
    refine rf_icmp_le (tg := 43) (n := 39) dX3_readNumber_36 rfl rfl (fun c7 => ?_) (fun c7 => ?_)
    · refine rf_iconst (n := 44) (0 : Int32) dX3_readNumber_43 cciconst_0 rfl ?_
      refine rf_mask (lc2 := [some (.ref 15), none, none]) [true, false, false] rfl ?_
      exact pX3_readNumber_K44 hG _ _
    · refine rf_mask (lc2 := [some (.ref 15), none, none]) [true, false, false] rfl ?_
      exact pX3_readNumber_K39 hG _
def fX3_readNumber (p1 : Int32) (p2 : Int32) (μ : ax_M) : Option (Int32 × ax_M) :=
  (ax_bd (fX3_readToken μ) (fun _ m2 => (if (m2.1 15 7) = (2 : Int32) then (fX3_readNumber_K18 p1 p2 (0 : Int32) m2) else (fX3_readNumber_K18 p1 p2 (1 : Int32) m2))))
theorem okX3_readNumber (p1 : Int32) (p2 : Int32) (μ : ax_M) : ax_Ok mX3_readNumber 3 ax_jI [.ref 15, .int p1, .int p2] μ (fX3_readNumber p1 p2 μ) := by
  refine ax_start (lc := [some (.ref 15), some (.int p1), some (.int p2)]) 0 (by decide +kernel) rfl (Nat.le_of_ble_eq_true rfl) (fun x G hG => ?_)
  unfold fX3_readNumber
  refine rf_aload_n (n := 1) 0 dX3_readNumber_0 rfl rfl rfl ?_
  refine rf_cV0V (n := 4) hG (okX3_readToken _) lVX3_57 hhX3_readToken kk_15 sS_15 ⟨_, rfl, rfl⟩ dX3_readNumber_1 rfl (Nat.le_of_ble_eq_true rfl) (Nat.le_of_ble_eq_true rfl) (fun _ m2 => ?_)
  refine rf_aload_n (n := 5) 0 dX3_readNumber_4 rfl rfl rfl ?_
  refine rf_aload_n (n := 6) 0 dX3_readNumber_5 rfl rfl rfl ?_
  refine rf_getI (n := 9) hG dX3_readNumber_6 flX3_60 ki_3_7 sS_15 kk_15 rfl ?_
  refine rf_iconst (n := 10) (2 : Int32) dX3_readNumber_9 cciconst_2 rfl ?_
  refine rf_icmp_eq (tg := 17) (n := 13) dX3_readNumber_10 rfl rfl (fun c9 => ?_) (fun c9 => ?_)
  · refine rf_iconst (n := 18) (0 : Int32) dX3_readNumber_17 cciconst_0 rfl ?_
    exact pX3_readNumber_K18 hG _ _ _ _
  · refine rf_iconst (n := 14) (1 : Int32) dX3_readNumber_13 cciconst_1 rfl ?_
    refine rf_goto (tg := 18) dX3_readNumber_14 rfl ?_
    exact pX3_readNumber_K18 hG _ _ _ _
def fX3_readStop_K18 (s1 : Int32) (μ : ax_M) : Option (Unit × ax_M) :=
  (ax_bd (fX3_refuseIf s1 (1 : Int32) μ) (fun _ m4 => (some ((), m4))))
theorem pX3_readStop_K18 {x : ax_X} {G : ax_G} (hG : ax_ok G) (s1 : Int32) (μ : ax_M) : ax_Rf mX3_readStop 3 x (ax_Z ax_jV x G) G 0 0 18 [none] [.int s1, .ref 15] μ (fX3_readStop_K18 s1 μ) := by
  unfold fX3_readStop_K18
  refine rf_iconst (n := 19) (1 : Int32) dX3_readStop_18 cciconst_1 rfl ?_
  refine rf_cV2V (n := 22) hG (okX3_refuseIf _ _ _) lVX3_91 hhX3_refuseIf kk_15 sS_15 ⟨_, rfl, rfl⟩ dX3_readStop_19 rfl (Nat.le_of_ble_eq_true rfl) (Nat.le_of_ble_eq_true rfl) (fun _ m4 => ?_)
  exact rf_retV rfl dX3_readStop_22
def fX3_readStop (μ : ax_M) : Option (Unit × ax_M) :=
  (ax_bd (fX3_readToken μ) (fun _ m2 => (if (m2.1 15 7) = (3 : Int32) then (fX3_readStop_K18 (0 : Int32) m2) else (fX3_readStop_K18 (1 : Int32) m2))))
theorem okX3_readStop (μ : ax_M) : ax_Ok mX3_readStop 3 ax_jV [.ref 15] μ (fX3_readStop μ) := by
  refine ax_start (lc := [some (.ref 15)]) 0 (by decide +kernel) rfl (Nat.le_of_ble_eq_true rfl) (fun x G hG => ?_)
  unfold fX3_readStop
  refine rf_aload_n (n := 1) 0 dX3_readStop_0 rfl rfl rfl ?_
  refine rf_cV0V (n := 4) hG (okX3_readToken _) lVX3_57 hhX3_readToken kk_15 sS_15 ⟨_, rfl, rfl⟩ dX3_readStop_1 rfl (Nat.le_of_ble_eq_true rfl) (Nat.le_of_ble_eq_true rfl) (fun _ m2 => ?_)
  refine rf_aload_n (n := 5) 0 dX3_readStop_4 rfl rfl rfl ?_
  refine rf_aload_n (n := 6) 0 dX3_readStop_5 rfl rfl rfl ?_
  refine rf_getI (n := 9) hG dX3_readStop_6 flX3_60 ki_3_7 sS_15 kk_15 rfl ?_
  refine rf_iconst (n := 10) (3 : Int32) dX3_readStop_9 cciconst_3 rfl ?_
  refine rf_icmp_eq (tg := 17) (n := 13) dX3_readStop_10 rfl rfl (fun c5 => ?_) (fun c5 => ?_)
  · refine rf_iconst (n := 18) (0 : Int32) dX3_readStop_17 cciconst_0 rfl ?_
    refine rf_mask (lc2 := [none]) [false] rfl ?_
    exact pX3_readStop_K18 hG _ _
  · refine rf_iconst (n := 14) (1 : Int32) dX3_readStop_13 cciconst_1 rfl ?_
    refine rf_goto (tg := 18) dX3_readStop_14 rfl ?_
    refine rf_mask (lc2 := [none]) [false] rfl ?_
    exact pX3_readStop_K18 hG _ _
def fX3_readCell_K227 (μ : ax_M) : Option (Unit × ax_M) :=
  (some ((), μ))
theorem pX3_readCell_K227 {x : ax_X} {G : ax_G} (hG : ax_ok G) (μ : ax_M) : ax_Rf mX3_readCell 4 x (ax_Z ax_jV x G) G 0 0 227 [none, none, none, none, none, none, none, none] [] μ (fX3_readCell_K227 μ) := by
  unfold fX3_readCell_K227
  exact rf_retV rfl dX3_readCell_227
def fX3_readCell_K89 (l1 : Int32) (l2 : Int32) (l3 : Int32) (s1 : Int32) (μ : ax_M) : Option (Unit × ax_M) :=
  (ax_bd (fX3_refuseIf s1 (4 : Int32) μ) (fun _ m11 => (ax_bd (fX3_readNumber (0 : Int32) (99 : Int32) m11) (fun v12 m13 => (ax_bd (fX3_readNumber (0 : Int32) (99 : Int32) m13) (fun v14 m15 => (ax_bd (fX3_readNumber (0 : Int32) (99 : Int32) m15) (fun v16 m17 => (ax_bd (fX3_readStop m17) (fun _ m19 => (if (m19.1 15 2) = 0 then (ax_let (m19.1 16 13) (fun v20 => (Option.bind (ax_wr m19 20 10 v20 l2) (fun m21 => (Option.bind (ax_wr m21 21 10 v20 l3) (fun m22 => (Option.bind (ax_wr m22 22 10 v20 v12) (fun m23 => (Option.bind (ax_wr m23 23 10 v20 v14) (fun m24 => (Option.bind (ax_wr m24 24 10 v20 v16) (fun m25 => (ax_let (ax_wi m25 16 15 ((m25.1 16 15) ||| (l1 <<< (v20 &&& 31)))) (fun m26 => (ax_let (ax_wi m26 16 13 ((m26.1 16 13) + (1 : Int32))) (fun m27 => (fX3_readCell_K227 m27))))))))))))))))) else (fX3_readCell_K227 m19))))))))))))
theorem pX3_readCell_K89 {x : ax_X} {G : ax_G} (hG : ax_ok G) (l1 : Int32) (l2 : Int32) (l3 : Int32) (s1 : Int32) (μ : ax_M) : ax_Rf mX3_readCell 4 x (ax_Z ax_jV x G) G 0 0 89 [some (.ref 15), some (.int l1), some (.int l2), some (.int l3), none, none, none, none] [.int s1, .ref 15] μ (fX3_readCell_K89 l1 l2 l3 s1 μ) := by
  unfold fX3_readCell_K89
  refine rf_iconst (n := 90) (4 : Int32) dX3_readCell_89 cciconst_4 rfl ?_
  refine rf_cV2V (n := 93) hG (okX3_refuseIf _ _ _) lVX3_91 hhX3_refuseIf kk_15 sS_15 ⟨_, rfl, rfl⟩ dX3_readCell_90 rfl (Nat.le_of_ble_eq_true rfl) (Nat.le_of_ble_eq_true rfl) (fun _ m11 => ?_)
  refine rf_aload_n (n := 94) 0 dX3_readCell_93 rfl rfl rfl ?_
  refine rf_iconst (n := 95) (0 : Int32) dX3_readCell_94 cciconst_0 rfl ?_
  refine rf_bipush (n := 97) (99 : Int32) dX3_readCell_95 ccbipush_99 rfl ?_
  refine rf_cV2I (n := 100) hG (okX3_readNumber _ _ _) lVX3_95 hhX3_readNumber kk_15 sS_15 ⟨_, rfl, rfl⟩ dX3_readCell_97 rfl (Nat.le_of_ble_eq_true rfl) (Nat.le_of_ble_eq_true rfl) (fun v12 m13 => ?_)
  refine rf_istore (lc2 := [some (.ref 15), some (.int l1), some (.int l2), some (.int l3), some (.int v12), none, none, none]) (n := 102) 4 dX3_readCell_100 rfl (Nat.le_of_ble_eq_true rfl) rfl rfl ?_
  refine rf_aload_n (n := 103) 0 dX3_readCell_102 rfl rfl rfl ?_
  refine rf_iconst (n := 104) (0 : Int32) dX3_readCell_103 cciconst_0 rfl ?_
  refine rf_bipush (n := 106) (99 : Int32) dX3_readCell_104 ccbipush_99 rfl ?_
  refine rf_cV2I (n := 109) hG (okX3_readNumber _ _ _) lVX3_95 hhX3_readNumber kk_15 sS_15 ⟨_, rfl, rfl⟩ dX3_readCell_106 rfl (Nat.le_of_ble_eq_true rfl) (Nat.le_of_ble_eq_true rfl) (fun v14 m15 => ?_)
  refine rf_istore (lc2 := [some (.ref 15), some (.int l1), some (.int l2), some (.int l3), some (.int v12), some (.int v14), none, none]) (n := 111) 5 dX3_readCell_109 rfl (Nat.le_of_ble_eq_true rfl) rfl rfl ?_
  refine rf_aload_n (n := 112) 0 dX3_readCell_111 rfl rfl rfl ?_
  refine rf_iconst (n := 113) (0 : Int32) dX3_readCell_112 cciconst_0 rfl ?_
  refine rf_bipush (n := 115) (99 : Int32) dX3_readCell_113 ccbipush_99 rfl ?_
  refine rf_cV2I (n := 118) hG (okX3_readNumber _ _ _) lVX3_95 hhX3_readNumber kk_15 sS_15 ⟨_, rfl, rfl⟩ dX3_readCell_115 rfl (Nat.le_of_ble_eq_true rfl) (Nat.le_of_ble_eq_true rfl) (fun v16 m17 => ?_)
  refine rf_istore (lc2 := [some (.ref 15), some (.int l1), some (.int l2), some (.int l3), some (.int v12), some (.int v14), some (.int v16), none]) (n := 120) 6 dX3_readCell_118 rfl (Nat.le_of_ble_eq_true rfl) rfl rfl ?_
  refine rf_aload_n (n := 121) 0 dX3_readCell_120 rfl rfl rfl ?_
  refine rf_cV0V (n := 124) hG (okX3_readStop _) lVX3_101 hhX3_readStop kk_15 sS_15 ⟨_, rfl, rfl⟩ dX3_readCell_121 rfl (Nat.le_of_ble_eq_true rfl) (Nat.le_of_ble_eq_true rfl) (fun _ m19 => ?_)
  refine rf_aload_n (n := 125) 0 dX3_readCell_124 rfl rfl rfl ?_
  refine rf_getI (n := 128) hG dX3_readCell_125 flX3_41 ki_3_2 sS_15 kk_15 rfl ?_
  refine rf_if_ne (tg := 227) (n := 131) dX3_readCell_128 rfl rfl (fun c28 => ?_) (fun c28 => ?_)
  · refine rf_mask (lc2 := [none, none, none, none, none, none, none, none]) [false, false, false, false, false, false, false, true] rfl ?_
    exact pX3_readCell_K227 hG _
  · refine rf_aload_n (n := 132) 0 dX3_readCell_131 rfl rfl rfl ?_
    refine rf_getR (n := 135) rr_15_0 kk_16 hG dX3_readCell_132 flX3_12 ki_3_0 sS_15 kk_15 rfl ?_
    refine rf_getI (n := 138) hG dX3_readCell_135 flX3_127 ki_1_13 sS_16 kk_16 rfl ?_
    refine rf_letI (fun v20 => ?_)
    refine rf_istore (lc2 := [some (.ref 15), some (.int l1), some (.int l2), some (.int l3), some (.int v12), some (.int v14), some (.int v16), some (.int v20)]) (n := 140) 7 dX3_readCell_138 rfl (Nat.le_of_ble_eq_true rfl) rfl rfl ?_
    refine rf_aload_n (n := 141) 0 dX3_readCell_140 rfl rfl rfl ?_
    refine rf_getR (n := 144) rr_15_0 kk_16 hG dX3_readCell_141 flX3_12 ki_3_0 sS_15 kk_15 rfl ?_
    refine rf_getR (n := 147) rr_16_3 kk_20 hG dX3_readCell_144 flX3_130 ki_1_3 sS_16 kk_16 rfl ?_
    refine rf_iload (n := 149) 7 dX3_readCell_147 rfl rfl ?_
    refine rf_iload_n (n := 150) 2 dX3_readCell_149 rfl rfl rfl ?_
    refine rf_iast (n := 151) hG dX3_readCell_150 sS_20 kk_20 rfl (fun m21 => ?_)
    refine rf_aload_n (n := 152) 0 dX3_readCell_151 rfl rfl rfl ?_
    refine rf_getR (n := 155) rr_15_0 kk_16 hG dX3_readCell_152 flX3_12 ki_3_0 sS_15 kk_15 rfl ?_
    refine rf_getR (n := 158) rr_16_4 kk_21 hG dX3_readCell_155 flX3_133 ki_1_4 sS_16 kk_16 rfl ?_
    refine rf_iload (n := 160) 7 dX3_readCell_158 rfl rfl ?_
    refine rf_iload_n (n := 161) 3 dX3_readCell_160 rfl rfl rfl ?_
    refine rf_iast (n := 162) hG dX3_readCell_161 sS_21 kk_21 rfl (fun m22 => ?_)
    refine rf_aload_n (n := 163) 0 dX3_readCell_162 rfl rfl rfl ?_
    refine rf_getR (n := 166) rr_15_0 kk_16 hG dX3_readCell_163 flX3_12 ki_3_0 sS_15 kk_15 rfl ?_
    refine rf_getR (n := 169) rr_16_5 kk_22 hG dX3_readCell_166 flX3_136 ki_1_5 sS_16 kk_16 rfl ?_
    refine rf_iload (n := 171) 7 dX3_readCell_169 rfl rfl ?_
    refine rf_iload (n := 173) 4 dX3_readCell_171 rfl rfl ?_
    refine rf_iast (n := 174) hG dX3_readCell_173 sS_22 kk_22 rfl (fun m23 => ?_)
    refine rf_aload_n (n := 175) 0 dX3_readCell_174 rfl rfl rfl ?_
    refine rf_getR (n := 178) rr_15_0 kk_16 hG dX3_readCell_175 flX3_12 ki_3_0 sS_15 kk_15 rfl ?_
    refine rf_getR (n := 181) rr_16_6 kk_23 hG dX3_readCell_178 flX3_139 ki_1_6 sS_16 kk_16 rfl ?_
    refine rf_iload (n := 183) 7 dX3_readCell_181 rfl rfl ?_
    refine rf_iload (n := 185) 5 dX3_readCell_183 rfl rfl ?_
    refine rf_iast (n := 186) hG dX3_readCell_185 sS_23 kk_23 rfl (fun m24 => ?_)
    refine rf_aload_n (n := 187) 0 dX3_readCell_186 rfl rfl rfl ?_
    refine rf_getR (n := 190) rr_15_0 kk_16 hG dX3_readCell_187 flX3_12 ki_3_0 sS_15 kk_15 rfl ?_
    refine rf_getR (n := 193) rr_16_7 kk_24 hG dX3_readCell_190 flX3_142 ki_1_7 sS_16 kk_16 rfl ?_
    refine rf_iload (n := 195) 7 dX3_readCell_193 rfl rfl ?_
    refine rf_iload (n := 197) 6 dX3_readCell_195 rfl rfl ?_
    refine rf_iast (n := 198) hG dX3_readCell_197 sS_24 kk_24 rfl (fun m25 => ?_)
    refine rf_aload_n (n := 199) 0 dX3_readCell_198 rfl rfl rfl ?_
    refine rf_getR (n := 202) rr_15_0 kk_16 hG dX3_readCell_199 flX3_12 ki_3_0 sS_15 kk_15 rfl ?_
    refine rf_dupR (n := 203) dX3_readCell_202 rfl ?_
    refine rf_getI (n := 206) hG dX3_readCell_203 flX3_145 ki_1_15 sS_16 kk_16 rfl ?_
    refine rf_iload_n (n := 207) 1 dX3_readCell_206 rfl rfl rfl ?_
    refine rf_iload (n := 209) 7 dX3_readCell_207 rfl rfl ?_
    refine rf_ishl (n := 210) dX3_readCell_209 rfl ?_
    refine rf_ior (n := 211) dX3_readCell_210 rfl ?_
    refine rf_pfI (n := 214) hG rfl dX3_readCell_211 flX3_145 ki_1_15 nf_1_15 sS_16 kk_16 rfl (fun m26 => ?_)
    refine rf_aload_n (n := 215) 0 dX3_readCell_214 rfl rfl rfl ?_
    refine rf_getR (n := 218) rr_15_0 kk_16 hG dX3_readCell_215 flX3_12 ki_3_0 sS_15 kk_15 rfl ?_
    refine rf_dupR (n := 219) dX3_readCell_218 rfl ?_
    refine rf_getI (n := 222) hG dX3_readCell_219 flX3_127 ki_1_13 sS_16 kk_16 rfl ?_
    refine rf_iconst (n := 223) (1 : Int32) dX3_readCell_222 cciconst_1 rfl ?_
    refine rf_iadd (n := 224) dX3_readCell_223 rfl ?_
    refine rf_pfI (n := 227) hG rfl dX3_readCell_224 flX3_127 ki_1_13 nf_1_13 sS_16 kk_16 rfl (fun m27 => ?_)
    refine rf_mask (lc2 := [none, none, none, none, none, none, none, none]) [false, false, false, false, false, false, false, false] rfl ?_
    exact pX3_readCell_K227 hG _
def fX3_readCell_K50 (l1 : Int32) (s1 : Int32) (μ : ax_M) : Option (Unit × ax_M) :=
  (ax_bd (fX3_refuseIf s1 (3 : Int32) μ) (fun _ m6 => (ax_let (m6.1 15 9) (fun v7 => (ax_bd (fX3_readName_1 (m6.1 16 12) m6) (fun v8 m9 => (if v8 = (-1 : Int32) then (fX3_readCell_K89 l1 v7 v8 (1 : Int32) m9) else (fX3_readCell_K89 l1 v7 v8 (0 : Int32) m9))))))))
theorem pX3_readCell_K50 {x : ax_X} {G : ax_G} (hG : ax_ok G) (l1 : Int32) (s1 : Int32) (μ : ax_M) : ax_Rf mX3_readCell 4 x (ax_Z ax_jV x G) G 0 0 50 [some (.ref 15), some (.int l1), none, none, none, none, none, none] [.int s1, .ref 15] μ (fX3_readCell_K50 l1 s1 μ) := by
  unfold fX3_readCell_K50
  refine rf_iconst (n := 51) (3 : Int32) dX3_readCell_50 cciconst_3 rfl ?_
  refine rf_cV2V (n := 54) hG (okX3_refuseIf _ _ _) lVX3_91 hhX3_refuseIf kk_15 sS_15 ⟨_, rfl, rfl⟩ dX3_readCell_51 rfl (Nat.le_of_ble_eq_true rfl) (Nat.le_of_ble_eq_true rfl) (fun _ m6 => ?_)
  refine rf_aload_n (n := 55) 0 dX3_readCell_54 rfl rfl rfl ?_
  refine rf_getI (n := 58) hG dX3_readCell_55 flX3_66 ki_3_9 sS_15 kk_15 rfl ?_
  refine rf_letI (fun v7 => ?_)
  refine rf_istore_n (lc2 := [some (.ref 15), some (.int l1), some (.int v7), none, none, none, none, none]) (n := 59) 2 dX3_readCell_58 rfl rfl (Nat.le_of_ble_eq_true rfl) rfl rfl ?_
  refine rf_aload_n (n := 60) 0 dX3_readCell_59 rfl rfl rfl ?_
  refine rf_aload_n (n := 61) 0 dX3_readCell_60 rfl rfl rfl ?_
  refine rf_getR (n := 64) rr_15_0 kk_16 hG dX3_readCell_61 flX3_12 ki_3_0 sS_15 kk_15 rfl ?_
  refine rf_getR (n := 67) rr_16_0 kk_17 hG dX3_readCell_64 flX3_114 ki_1_0 sS_16 kk_16 rfl ?_
  refine rf_aload_n (n := 68) 0 dX3_readCell_67 rfl rfl rfl ?_
  refine rf_getR (n := 71) rr_15_0 kk_16 hG dX3_readCell_68 flX3_12 ki_3_0 sS_15 kk_15 rfl ?_
  refine rf_getI (n := 74) hG dX3_readCell_71 flX3_111 ki_1_12 sS_16 kk_16 rfl ?_
  refine rf_cV2I (n := 77) hG (okX3_readName_1 _ _) lVX3_117 hhX3_readName kk_15 sS_15 ⟨_, rfl, rfl⟩ dX3_readCell_74 rfl (Nat.le_of_ble_eq_true rfl) (Nat.le_of_ble_eq_true rfl) (fun v8 m9 => ?_)
  refine rf_istore_n (lc2 := [some (.ref 15), some (.int l1), some (.int v7), some (.int v8), none, none, none, none]) (n := 78) 3 dX3_readCell_77 rfl rfl (Nat.le_of_ble_eq_true rfl) rfl rfl ?_
  refine rf_aload_n (n := 79) 0 dX3_readCell_78 rfl rfl rfl ?_
  refine rf_iload_n (n := 80) 3 dX3_readCell_79 rfl rfl rfl ?_
  refine rf_iconst (n := 81) (-1 : Int32) dX3_readCell_80 cciconst_m1 rfl ?_
  refine rf_icmp_ne (tg := 88) (n := 84) dX3_readCell_81 rfl rfl (fun c29 => ?_) (fun c29 => ?_)
  · refine rf_iconst (n := 89) (0 : Int32) dX3_readCell_88 cciconst_0 rfl ?_
    exact pX3_readCell_K89 hG _ _ _ _ _
  · refine rf_iconst (n := 85) (1 : Int32) dX3_readCell_84 cciconst_1 rfl ?_
    refine rf_goto (tg := 89) dX3_readCell_85 rfl ?_
    exact pX3_readCell_K89 hG _ _ _ _ _
def fX3_readCell_K18 (l1 : Int32) (s1 : Int32) (μ : ax_M) : Option (Unit × ax_M) :=
  (ax_bd (fX3_refuseIf s1 (2 : Int32) μ) (fun _ m2 => (ax_bd (fX3_readName (m2.1 16 13) m2) (fun v3 m4 => (if v3 = (-1 : Int32) then (fX3_readCell_K50 l1 (0 : Int32) m4) else (fX3_readCell_K50 l1 (1 : Int32) m4))))))
theorem pX3_readCell_K18 {x : ax_X} {G : ax_G} (hG : ax_ok G) (l1 : Int32) (s1 : Int32) (μ : ax_M) : ax_Rf mX3_readCell 4 x (ax_Z ax_jV x G) G 0 0 18 [some (.ref 15), some (.int l1), none, none, none, none, none, none] [.int s1, .ref 15] μ (fX3_readCell_K18 l1 s1 μ) := by
  unfold fX3_readCell_K18
  refine rf_iconst (n := 19) (2 : Int32) dX3_readCell_18 cciconst_2 rfl ?_
  refine rf_cV2V (n := 22) hG (okX3_refuseIf _ _ _) lVX3_91 hhX3_refuseIf kk_15 sS_15 ⟨_, rfl, rfl⟩ dX3_readCell_19 rfl (Nat.le_of_ble_eq_true rfl) (Nat.le_of_ble_eq_true rfl) (fun _ m2 => ?_)
  refine rf_aload_n (n := 23) 0 dX3_readCell_22 rfl rfl rfl ?_
  refine rf_aload_n (n := 24) 0 dX3_readCell_23 rfl rfl rfl ?_
  refine rf_aload_n (n := 25) 0 dX3_readCell_24 rfl rfl rfl ?_
  refine rf_getR (n := 28) rr_15_0 kk_16 hG dX3_readCell_25 flX3_12 ki_3_0 sS_15 kk_15 rfl ?_
  refine rf_getR (n := 31) rr_16_3 kk_20 hG dX3_readCell_28 flX3_130 ki_1_3 sS_16 kk_16 rfl ?_
  refine rf_aload_n (n := 32) 0 dX3_readCell_31 rfl rfl rfl ?_
  refine rf_getR (n := 35) rr_15_0 kk_16 hG dX3_readCell_32 flX3_12 ki_3_0 sS_15 kk_15 rfl ?_
  refine rf_getI (n := 38) hG dX3_readCell_35 flX3_127 ki_1_13 sS_16 kk_16 rfl ?_
  refine rf_cV2I (n := 41) hG (okX3_readName _ _) lVX3_117 hhX3_readName kk_15 sS_15 ⟨_, rfl, rfl⟩ dX3_readCell_38 rfl (Nat.le_of_ble_eq_true rfl) (Nat.le_of_ble_eq_true rfl) (fun v3 m4 => ?_)
  refine rf_iconst (n := 42) (-1 : Int32) dX3_readCell_41 cciconst_m1 rfl ?_
  refine rf_icmp_eq (tg := 49) (n := 45) dX3_readCell_42 rfl rfl (fun c30 => ?_) (fun c30 => ?_)
  · refine rf_iconst (n := 50) (0 : Int32) dX3_readCell_49 cciconst_0 rfl ?_
    exact pX3_readCell_K50 hG _ _ _
  · refine rf_iconst (n := 46) (1 : Int32) dX3_readCell_45 cciconst_1 rfl ?_
    refine rf_goto (tg := 50) dX3_readCell_46 rfl ?_
    exact pX3_readCell_K50 hG _ _ _
def fX3_readCell (p1 : Int32) (μ : ax_M) : Option (Unit × ax_M) :=
  (if (μ.1 16 13) < (10 : Int32) then (fX3_readCell_K18 p1 (0 : Int32) μ) else (fX3_readCell_K18 p1 (1 : Int32) μ))
theorem okX3_readCell (p1 : Int32) (μ : ax_M) : ax_Ok mX3_readCell 4 ax_jV [.ref 15, .int p1] μ (fX3_readCell p1 μ) := by
  refine ax_start (lc := [some (.ref 15), some (.int p1), none, none, none, none, none, none]) 6 (by decide +kernel) rfl (Nat.le_of_ble_eq_true rfl) (fun x G hG => ?_)
  unfold fX3_readCell
  refine rf_aload_n (n := 1) 0 dX3_readCell_0 rfl rfl rfl ?_
  refine rf_aload_n (n := 2) 0 dX3_readCell_1 rfl rfl rfl ?_
  refine rf_getR (n := 5) rr_15_0 kk_16 hG dX3_readCell_2 flX3_12 ki_3_0 sS_15 kk_15 rfl ?_
  refine rf_getI (n := 8) hG dX3_readCell_5 flX3_127 ki_1_13 sS_16 kk_16 rfl ?_
  refine rf_bipush (n := 10) (10 : Int32) dX3_readCell_8 ccbipush_10 rfl ?_
  refine rf_icmp_lt (tg := 17) (n := 13) dX3_readCell_10 rfl rfl (fun c31 => ?_) (fun c31 => ?_)
  · refine rf_iconst (n := 18) (0 : Int32) dX3_readCell_17 cciconst_0 rfl ?_
    exact pX3_readCell_K18 hG _ _ _
  · refine rf_iconst (n := 14) (1 : Int32) dX3_readCell_13 cciconst_1 rfl ?_
    refine rf_goto (tg := 18) dX3_readCell_14 rfl ?_
    exact pX3_readCell_K18 hG _ _ _
def fX1_pathBetween_K32 (l1 : Int32) (l2 : Int32) (l3 : Int32) (r2 : Int32 → ax_M → Option (Int32 × ax_M)) (μ : ax_M) : Option (Int32 × ax_M) :=
  (r2 (l3 + (1 : Int32)) μ)
theorem pX1_pathBetween_K32 {x : ax_X} {G : ax_G} (hG : ax_ok G) (l1 : Int32) (l2 : Int32) (l3 : Int32) (r2 : Int32 → ax_M → Option (Int32 × ax_M)) (hr2 : ∀ (a3 : Int32) (μ : ax_M), ax_Rf mX1_pathBetween 0 x (ax_Z ax_jI x G) G 0 0 2 [some (.ref 16), some (.int l1), some (.int l2), some (.int a3)] [] μ (r2 a3 μ)) (μ : ax_M) : ax_Rf mX1_pathBetween 0 x (ax_Z ax_jI x G) G 0 0 32 [some (.ref 16), some (.int l1), some (.int l2), some (.int l3)] [] μ (fX1_pathBetween_K32 l1 l2 l3 r2 μ) := by
  unfold fX1_pathBetween_K32
  refine rf_iinc (lc2 := [some (.ref 16), some (.int l1), some (.int l2), some (.int (l3 + (1 : Int32)))]) (n := 35) (w := (1 : Int32)) 3 dX1_pathBetween_32 rfl rfl rfl (Nat.le_of_ble_eq_true rfl) rfl rfl ?_
  refine rf_goto (tg := 2) dX1_pathBetween_35 rfl ?_
  exact hr2 _ _
def fX1_pathBetween_B2 (l1 : Int32) (l2 : Int32) (r2 : Int32 → ax_M → Option (Int32 × ax_M)) (l3 : Int32) (μ : ax_M) : Option (Int32 × ax_M) :=
  (if (μ.1 16 14) ≤ l3 then (some ((-1 : Int32), μ)) else (Option.bind (ax_rd μ 25 24 l3) (fun v1 => (if v1 = l1 then (Option.bind (ax_rd μ 26 24 l3) (fun v2 => (if v2 = l2 then (some (l3, μ)) else (fX1_pathBetween_K32 l1 l2 l3 r2 μ)))) else (fX1_pathBetween_K32 l1 l2 l3 r2 μ)))))
theorem pX1_pathBetween_B2 {x : ax_X} {G : ax_G} (hG : ax_ok G) (l1 : Int32) (l2 : Int32) (r2 : Int32 → ax_M → Option (Int32 × ax_M)) (hr2 : ∀ (a3 : Int32) (μ : ax_M), ax_Rf mX1_pathBetween 0 x (ax_Z ax_jI x G) G 0 0 2 [some (.ref 16), some (.int l1), some (.int l2), some (.int a3)] [] μ (r2 a3 μ)) (l3 : Int32) (μ : ax_M) : ax_Rf mX1_pathBetween 0 x (ax_Z ax_jI x G) G 0 0 2 [some (.ref 16), some (.int l1), some (.int l2), some (.int l3)] [] μ (fX1_pathBetween_B2 l1 l2 r2 l3 μ) := by
  unfold fX1_pathBetween_B2
  refine rf_iload_n (n := 3) 3 dX1_pathBetween_2 rfl rfl rfl ?_
  refine rf_aload_n (n := 4) 0 dX1_pathBetween_3 rfl rfl rfl ?_
  refine rf_getI (n := 7) hG dX1_pathBetween_4 flX1_58 ki_1_14 sS_16 kk_16 rfl ?_
  refine rf_icmp_ge (tg := 38) (n := 10) dX1_pathBetween_7 rfl rfl (fun c5 => ?_) (fun c5 => ?_)
  · refine rf_iconst (n := 39) (-1 : Int32) dX1_pathBetween_38 cciconst_m1 rfl ?_
    exact rf_retI rfl dX1_pathBetween_39
  · refine rf_aload_n (n := 11) 0 dX1_pathBetween_10 rfl rfl rfl ?_
    refine rf_getR (n := 14) rr_16_8 kk_25 hG dX1_pathBetween_11 flX1_36 ki_1_8 sS_16 kk_16 rfl ?_
    refine rf_iload_n (n := 15) 3 dX1_pathBetween_14 rfl rfl rfl ?_
    refine rf_iald (n := 16) hG dX1_pathBetween_15 sS_25 kk_25 rfl (fun v1 => ?_)
    refine rf_iload_n (n := 17) 1 dX1_pathBetween_16 rfl rfl rfl ?_
    refine rf_icmp_ne (tg := 32) (n := 20) dX1_pathBetween_17 rfl rfl (fun c4 => ?_) (fun c4 => ?_)
    · exact pX1_pathBetween_K32 hG _ _ _ r2 hr2 _
    · refine rf_aload_n (n := 21) 0 dX1_pathBetween_20 rfl rfl rfl ?_
      refine rf_getR (n := 24) rr_16_9 kk_26 hG dX1_pathBetween_21 flX1_39 ki_1_9 sS_16 kk_16 rfl ?_
      refine rf_iload_n (n := 25) 3 dX1_pathBetween_24 rfl rfl rfl ?_
      refine rf_iald (n := 26) hG dX1_pathBetween_25 sS_26 kk_26 rfl (fun v2 => ?_)
      refine rf_iload_n (n := 27) 2 dX1_pathBetween_26 rfl rfl rfl ?_
      refine rf_icmp_ne (tg := 32) (n := 30) dX1_pathBetween_27 rfl rfl (fun c3 => ?_) (fun c3 => ?_)
      · exact pX1_pathBetween_K32 hG _ _ _ r2 hr2 _
      · refine rf_iload_n (n := 31) 3 dX1_pathBetween_30 rfl rfl rfl ?_
        exact rf_retI rfl dX1_pathBetween_31
theorem pX1_pathBetween_L2 {x : ax_X} {G : ax_G} (hG : ax_ok G) (l1 : Int32) (l2 : Int32) (n : Nat) (a3 : Int32) (μ : ax_M) : ax_Rf mX1_pathBetween 0 x (ax_Z ax_jI x G) G 0 0 2 [some (.ref 16), some (.int l1), some (.int l2), some (.int a3)] [] μ (ax_lp1 (fX1_pathBetween_B2 l1 l2) n a3 μ) :=
  rf_lp1 (P := fun a3 μ t => ax_Rf mX1_pathBetween 0 x (ax_Z ax_jI x G) G 0 0 2 [some (.ref 16), some (.int l1), some (.int l2), some (.int a3)] [] μ t) (fun _ _ => rf_none) (fun rc hrc a3 μ => pX1_pathBetween_B2 hG l1 l2 rc hrc a3 μ) n a3 μ
def fX1_pathBetween (p1 : Int32) (p2 : Int32) (μ : ax_M) : Option (Int32 × ax_M) :=
  (ax_lp1 (fX1_pathBetween_B2 p1 p2) ax_FU (0 : Int32) μ)
theorem okX1_pathBetween (p1 : Int32) (p2 : Int32) (μ : ax_M) : ax_Ok mX1_pathBetween 0 ax_jI [.ref 16, .int p1, .int p2] μ (fX1_pathBetween p1 p2 μ) := by
  refine ax_start (lc := [some (.ref 16), some (.int p1), some (.int p2), none]) 1 (by decide +kernel) rfl (Nat.le_of_ble_eq_true rfl) (fun x G hG => ?_)
  unfold fX1_pathBetween
  refine rf_iconst (n := 1) (0 : Int32) dX1_pathBetween_0 cciconst_0 rfl ?_
  refine rf_istore_n (lc2 := [some (.ref 16), some (.int p1), some (.int p2), some (.int (0 : Int32))]) (n := 2) 3 dX1_pathBetween_1 rfl rfl (Nat.le_of_ble_eq_true rfl) rfl rfl ?_
  exact pX1_pathBetween_L2 hG _ _ _ _ _
def fX3_readPath_K208 (μ : ax_M) : Option (Unit × ax_M) :=
  (some ((), μ))
theorem pX3_readPath_K208 {x : ax_X} {G : ax_G} (hG : ax_ok G) (μ : ax_M) : ax_Rf mX3_readPath 4 x (ax_Z ax_jV x G) G 0 0 208 [none, none, none, none, none, none] [] μ (fX3_readPath_K208 μ) := by
  unfold fX3_readPath_K208
  exact rf_retV rfl dX3_readPath_208
def fX3_readPath_K109 (l1 : Int32) (l2 : Int32) (s1 : Int32) (μ : ax_M) : Option (Unit × ax_M) :=
  (ax_bd (fX3_refuseIf s1 (3 : Int32) μ) (fun _ m14 => (ax_bd (fX3_readNumber (0 : Int32) (999 : Int32) m14) (fun v15 m16 => (ax_bd (fX3_readNumber (0 : Int32) v15 m16) (fun v17 m18 => (ax_bd (fX3_readStop m18) (fun _ m20 => (if (m20.1 15 2) = 0 then (ax_let (m20.1 16 14) (fun v21 => (Option.bind (ax_wr m20 25 24 v21 l1) (fun m22 => (Option.bind (ax_wr m22 26 24 v21 l2) (fun m23 => (Option.bind (ax_wr m23 27 24 v21 v15) (fun m24 => (Option.bind (ax_wr m24 28 24 v21 v17) (fun m25 => (ax_let (ax_wi m25 16 14 ((m25.1 16 14) + (1 : Int32))) (fun m26 => (fX3_readPath_K208 m26))))))))))))) else (fX3_readPath_K208 m20))))))))))
theorem pX3_readPath_K109 {x : ax_X} {G : ax_G} (hG : ax_ok G) (l1 : Int32) (l2 : Int32) (s1 : Int32) (μ : ax_M) : ax_Rf mX3_readPath 4 x (ax_Z ax_jV x G) G 0 0 109 [some (.ref 15), some (.int l1), some (.int l2), none, none, none] [.int s1, .ref 15] μ (fX3_readPath_K109 l1 l2 s1 μ) := by
  unfold fX3_readPath_K109
  refine rf_iconst (n := 110) (3 : Int32) dX3_readPath_109 cciconst_3 rfl ?_
  refine rf_cV2V (n := 113) hG (okX3_refuseIf _ _ _) lVX3_91 hhX3_refuseIf kk_15 sS_15 ⟨_, rfl, rfl⟩ dX3_readPath_110 rfl (Nat.le_of_ble_eq_true rfl) (Nat.le_of_ble_eq_true rfl) (fun _ m14 => ?_)
  refine rf_aload_n (n := 114) 0 dX3_readPath_113 rfl rfl rfl ?_
  refine rf_iconst (n := 115) (0 : Int32) dX3_readPath_114 cciconst_0 rfl ?_
  refine rf_sipush (n := 118) (999 : Int32) dX3_readPath_115 ccsipush_999 rfl ?_
  refine rf_cV2I (n := 121) hG (okX3_readNumber _ _ _) lVX3_95 hhX3_readNumber kk_15 sS_15 ⟨_, rfl, rfl⟩ dX3_readPath_118 rfl (Nat.le_of_ble_eq_true rfl) (Nat.le_of_ble_eq_true rfl) (fun v15 m16 => ?_)
  refine rf_istore_n (lc2 := [some (.ref 15), some (.int l1), some (.int l2), some (.int v15), none, none]) (n := 122) 3 dX3_readPath_121 rfl rfl (Nat.le_of_ble_eq_true rfl) rfl rfl ?_
  refine rf_aload_n (n := 123) 0 dX3_readPath_122 rfl rfl rfl ?_
  refine rf_iconst (n := 124) (0 : Int32) dX3_readPath_123 cciconst_0 rfl ?_
  refine rf_iload_n (n := 125) 3 dX3_readPath_124 rfl rfl rfl ?_
  refine rf_cV2I (n := 128) hG (okX3_readNumber _ _ _) lVX3_95 hhX3_readNumber kk_15 sS_15 ⟨_, rfl, rfl⟩ dX3_readPath_125 rfl (Nat.le_of_ble_eq_true rfl) (Nat.le_of_ble_eq_true rfl) (fun v17 m18 => ?_)
  refine rf_istore (lc2 := [some (.ref 15), some (.int l1), some (.int l2), some (.int v15), some (.int v17), none]) (n := 130) 4 dX3_readPath_128 rfl (Nat.le_of_ble_eq_true rfl) rfl rfl ?_
  refine rf_aload_n (n := 131) 0 dX3_readPath_130 rfl rfl rfl ?_
  refine rf_cV0V (n := 134) hG (okX3_readStop _) lVX3_101 hhX3_readStop kk_15 sS_15 ⟨_, rfl, rfl⟩ dX3_readPath_131 rfl (Nat.le_of_ble_eq_true rfl) (Nat.le_of_ble_eq_true rfl) (fun _ m20 => ?_)
  refine rf_aload_n (n := 135) 0 dX3_readPath_134 rfl rfl rfl ?_
  refine rf_getI (n := 138) hG dX3_readPath_135 flX3_41 ki_3_2 sS_15 kk_15 rfl ?_
  refine rf_if_ne (tg := 208) (n := 141) dX3_readPath_138 rfl rfl (fun c27 => ?_) (fun c27 => ?_)
  · refine rf_mask (lc2 := [none, none, none, none, none, none]) [false, false, false, false, false, true] rfl ?_
    exact pX3_readPath_K208 hG _
  · refine rf_aload_n (n := 142) 0 dX3_readPath_141 rfl rfl rfl ?_
    refine rf_getR (n := 145) rr_15_0 kk_16 hG dX3_readPath_142 flX3_12 ki_3_0 sS_15 kk_15 rfl ?_
    refine rf_getI (n := 148) hG dX3_readPath_145 flX3_148 ki_1_14 sS_16 kk_16 rfl ?_
    refine rf_letI (fun v21 => ?_)
    refine rf_istore (lc2 := [some (.ref 15), some (.int l1), some (.int l2), some (.int v15), some (.int v17), some (.int v21)]) (n := 150) 5 dX3_readPath_148 rfl (Nat.le_of_ble_eq_true rfl) rfl rfl ?_
    refine rf_aload_n (n := 151) 0 dX3_readPath_150 rfl rfl rfl ?_
    refine rf_getR (n := 154) rr_15_0 kk_16 hG dX3_readPath_151 flX3_12 ki_3_0 sS_15 kk_15 rfl ?_
    refine rf_getR (n := 157) rr_16_8 kk_25 hG dX3_readPath_154 flX3_154 ki_1_8 sS_16 kk_16 rfl ?_
    refine rf_iload (n := 159) 5 dX3_readPath_157 rfl rfl ?_
    refine rf_iload_n (n := 160) 1 dX3_readPath_159 rfl rfl rfl ?_
    refine rf_iast (n := 161) hG dX3_readPath_160 sS_25 kk_25 rfl (fun m22 => ?_)
    refine rf_aload_n (n := 162) 0 dX3_readPath_161 rfl rfl rfl ?_
    refine rf_getR (n := 165) rr_15_0 kk_16 hG dX3_readPath_162 flX3_12 ki_3_0 sS_15 kk_15 rfl ?_
    refine rf_getR (n := 168) rr_16_9 kk_26 hG dX3_readPath_165 flX3_157 ki_1_9 sS_16 kk_16 rfl ?_
    refine rf_iload (n := 170) 5 dX3_readPath_168 rfl rfl ?_
    refine rf_iload_n (n := 171) 2 dX3_readPath_170 rfl rfl rfl ?_
    refine rf_iast (n := 172) hG dX3_readPath_171 sS_26 kk_26 rfl (fun m23 => ?_)
    refine rf_aload_n (n := 173) 0 dX3_readPath_172 rfl rfl rfl ?_
    refine rf_getR (n := 176) rr_15_0 kk_16 hG dX3_readPath_173 flX3_12 ki_3_0 sS_15 kk_15 rfl ?_
    refine rf_getR (n := 179) rr_16_10 kk_27 hG dX3_readPath_176 flX3_160 ki_1_10 sS_16 kk_16 rfl ?_
    refine rf_iload (n := 181) 5 dX3_readPath_179 rfl rfl ?_
    refine rf_iload_n (n := 182) 3 dX3_readPath_181 rfl rfl rfl ?_
    refine rf_iast (n := 183) hG dX3_readPath_182 sS_27 kk_27 rfl (fun m24 => ?_)
    refine rf_aload_n (n := 184) 0 dX3_readPath_183 rfl rfl rfl ?_
    refine rf_getR (n := 187) rr_15_0 kk_16 hG dX3_readPath_184 flX3_12 ki_3_0 sS_15 kk_15 rfl ?_
    refine rf_getR (n := 190) rr_16_11 kk_28 hG dX3_readPath_187 flX3_163 ki_1_11 sS_16 kk_16 rfl ?_
    refine rf_iload (n := 192) 5 dX3_readPath_190 rfl rfl ?_
    refine rf_iload (n := 194) 4 dX3_readPath_192 rfl rfl ?_
    refine rf_iast (n := 195) hG dX3_readPath_194 sS_28 kk_28 rfl (fun m25 => ?_)
    refine rf_aload_n (n := 196) 0 dX3_readPath_195 rfl rfl rfl ?_
    refine rf_getR (n := 199) rr_15_0 kk_16 hG dX3_readPath_196 flX3_12 ki_3_0 sS_15 kk_15 rfl ?_
    refine rf_dupR (n := 200) dX3_readPath_199 rfl ?_
    refine rf_getI (n := 203) hG dX3_readPath_200 flX3_148 ki_1_14 sS_16 kk_16 rfl ?_
    refine rf_iconst (n := 204) (1 : Int32) dX3_readPath_203 cciconst_1 rfl ?_
    refine rf_iadd (n := 205) dX3_readPath_204 rfl ?_
    refine rf_pfI (n := 208) hG rfl dX3_readPath_205 flX3_148 ki_1_14 nf_1_14 sS_16 kk_16 rfl (fun m26 => ?_)
    refine rf_mask (lc2 := [none, none, none, none, none, none]) [false, false, false, false, false, false] rfl ?_
    exact pX3_readPath_K208 hG _
def fX3_readPath_K86 (l1 : Int32) (l2 : Int32) (s1 : Int32) (μ : ax_M) : Option (Unit × ax_M) :=
  (ax_bd (fX3_refuseIf s1 (4 : Int32) μ) (fun _ m10 => (ax_bd (fX1_pathBetween l1 l2 m10) (fun v11 m12 => (if v11 = (-1 : Int32) then (fX3_readPath_K109 l1 l2 (0 : Int32) m12) else (fX3_readPath_K109 l1 l2 (1 : Int32) m12))))))
theorem pX3_readPath_K86 {x : ax_X} {G : ax_G} (hG : ax_ok G) (l1 : Int32) (l2 : Int32) (s1 : Int32) (μ : ax_M) : ax_Rf mX3_readPath 4 x (ax_Z ax_jV x G) G 0 0 86 [some (.ref 15), some (.int l1), some (.int l2), none, none, none] [.int s1, .ref 15] μ (fX3_readPath_K86 l1 l2 s1 μ) := by
  unfold fX3_readPath_K86
  refine rf_iconst (n := 87) (4 : Int32) dX3_readPath_86 cciconst_4 rfl ?_
  refine rf_cV2V (n := 90) hG (okX3_refuseIf _ _ _) lVX3_91 hhX3_refuseIf kk_15 sS_15 ⟨_, rfl, rfl⟩ dX3_readPath_87 rfl (Nat.le_of_ble_eq_true rfl) (Nat.le_of_ble_eq_true rfl) (fun _ m10 => ?_)
  refine rf_aload_n (n := 91) 0 dX3_readPath_90 rfl rfl rfl ?_
  refine rf_aload_n (n := 92) 0 dX3_readPath_91 rfl rfl rfl ?_
  refine rf_getR (n := 95) rr_15_0 kk_16 hG dX3_readPath_92 flX3_12 ki_3_0 sS_15 kk_15 rfl ?_
  refine rf_iload_n (n := 96) 1 dX3_readPath_95 rfl rfl rfl ?_
  refine rf_iload_n (n := 97) 2 dX3_readPath_96 rfl rfl rfl ?_
  refine rf_cV2I (n := 100) hG (okX1_pathBetween _ _ _) lVX3_151 hhX1_pathBetween kk_16 sS_16 ⟨_, rfl, rfl⟩ dX3_readPath_97 rfl (Nat.le_of_ble_eq_true rfl) (Nat.le_of_ble_eq_true rfl) (fun v11 m12 => ?_)
  refine rf_iconst (n := 101) (-1 : Int32) dX3_readPath_100 cciconst_m1 rfl ?_
  refine rf_icmp_eq (tg := 108) (n := 104) dX3_readPath_101 rfl rfl (fun c28 => ?_) (fun c28 => ?_)
  · refine rf_iconst (n := 109) (0 : Int32) dX3_readPath_108 cciconst_0 rfl ?_
    exact pX3_readPath_K109 hG _ _ _ _
  · refine rf_iconst (n := 105) (1 : Int32) dX3_readPath_104 cciconst_1 rfl ?_
    refine rf_goto (tg := 109) dX3_readPath_105 rfl ?_
    exact pX3_readPath_K109 hG _ _ _ _
def fX3_readPath_K52 (l1 : Int32) (s1 : Int32) (μ : ax_M) : Option (Unit × ax_M) :=
  (ax_bd (fX3_refuseIf s1 (4 : Int32) μ) (fun _ m6 => (ax_bd (fX3_readName (m6.1 16 13) m6) (fun v7 m8 => (if v7 = (-1 : Int32) then (fX3_readPath_K86 l1 v7 (1 : Int32) m8) else (fX3_readPath_K86 l1 v7 (0 : Int32) m8))))))
theorem pX3_readPath_K52 {x : ax_X} {G : ax_G} (hG : ax_ok G) (l1 : Int32) (s1 : Int32) (μ : ax_M) : ax_Rf mX3_readPath 4 x (ax_Z ax_jV x G) G 0 0 52 [some (.ref 15), some (.int l1), none, none, none, none] [.int s1, .ref 15] μ (fX3_readPath_K52 l1 s1 μ) := by
  unfold fX3_readPath_K52
  refine rf_iconst (n := 53) (4 : Int32) dX3_readPath_52 cciconst_4 rfl ?_
  refine rf_cV2V (n := 56) hG (okX3_refuseIf _ _ _) lVX3_91 hhX3_refuseIf kk_15 sS_15 ⟨_, rfl, rfl⟩ dX3_readPath_53 rfl (Nat.le_of_ble_eq_true rfl) (Nat.le_of_ble_eq_true rfl) (fun _ m6 => ?_)
  refine rf_aload_n (n := 57) 0 dX3_readPath_56 rfl rfl rfl ?_
  refine rf_aload_n (n := 58) 0 dX3_readPath_57 rfl rfl rfl ?_
  refine rf_getR (n := 61) rr_15_0 kk_16 hG dX3_readPath_58 flX3_12 ki_3_0 sS_15 kk_15 rfl ?_
  refine rf_getR (n := 64) rr_16_3 kk_20 hG dX3_readPath_61 flX3_130 ki_1_3 sS_16 kk_16 rfl ?_
  refine rf_aload_n (n := 65) 0 dX3_readPath_64 rfl rfl rfl ?_
  refine rf_getR (n := 68) rr_15_0 kk_16 hG dX3_readPath_65 flX3_12 ki_3_0 sS_15 kk_15 rfl ?_
  refine rf_getI (n := 71) hG dX3_readPath_68 flX3_127 ki_1_13 sS_16 kk_16 rfl ?_
  refine rf_cV2I (n := 74) hG (okX3_readName _ _) lVX3_117 hhX3_readName kk_15 sS_15 ⟨_, rfl, rfl⟩ dX3_readPath_71 rfl (Nat.le_of_ble_eq_true rfl) (Nat.le_of_ble_eq_true rfl) (fun v7 m8 => ?_)
  refine rf_istore_n (lc2 := [some (.ref 15), some (.int l1), some (.int v7), none, none, none]) (n := 75) 2 dX3_readPath_74 rfl rfl (Nat.le_of_ble_eq_true rfl) rfl rfl ?_
  refine rf_aload_n (n := 76) 0 dX3_readPath_75 rfl rfl rfl ?_
  refine rf_iload_n (n := 77) 2 dX3_readPath_76 rfl rfl rfl ?_
  refine rf_iconst (n := 78) (-1 : Int32) dX3_readPath_77 cciconst_m1 rfl ?_
  refine rf_icmp_ne (tg := 85) (n := 81) dX3_readPath_78 rfl rfl (fun c29 => ?_) (fun c29 => ?_)
  · refine rf_iconst (n := 86) (0 : Int32) dX3_readPath_85 cciconst_0 rfl ?_
    exact pX3_readPath_K86 hG _ _ _ _
  · refine rf_iconst (n := 82) (1 : Int32) dX3_readPath_81 cciconst_1 rfl ?_
    refine rf_goto (tg := 86) dX3_readPath_82 rfl ?_
    exact pX3_readPath_K86 hG _ _ _ _
def fX3_readPath_K18 (s1 : Int32) (μ : ax_M) : Option (Unit × ax_M) :=
  (ax_bd (fX3_refuseIf s1 (2 : Int32) μ) (fun _ m2 => (ax_bd (fX3_readName (m2.1 16 13) m2) (fun v3 m4 => (if v3 = (-1 : Int32) then (fX3_readPath_K52 v3 (1 : Int32) m4) else (fX3_readPath_K52 v3 (0 : Int32) m4))))))
theorem pX3_readPath_K18 {x : ax_X} {G : ax_G} (hG : ax_ok G) (s1 : Int32) (μ : ax_M) : ax_Rf mX3_readPath 4 x (ax_Z ax_jV x G) G 0 0 18 [some (.ref 15), none, none, none, none, none] [.int s1, .ref 15] μ (fX3_readPath_K18 s1 μ) := by
  unfold fX3_readPath_K18
  refine rf_iconst (n := 19) (2 : Int32) dX3_readPath_18 cciconst_2 rfl ?_
  refine rf_cV2V (n := 22) hG (okX3_refuseIf _ _ _) lVX3_91 hhX3_refuseIf kk_15 sS_15 ⟨_, rfl, rfl⟩ dX3_readPath_19 rfl (Nat.le_of_ble_eq_true rfl) (Nat.le_of_ble_eq_true rfl) (fun _ m2 => ?_)
  refine rf_aload_n (n := 23) 0 dX3_readPath_22 rfl rfl rfl ?_
  refine rf_aload_n (n := 24) 0 dX3_readPath_23 rfl rfl rfl ?_
  refine rf_getR (n := 27) rr_15_0 kk_16 hG dX3_readPath_24 flX3_12 ki_3_0 sS_15 kk_15 rfl ?_
  refine rf_getR (n := 30) rr_16_3 kk_20 hG dX3_readPath_27 flX3_130 ki_1_3 sS_16 kk_16 rfl ?_
  refine rf_aload_n (n := 31) 0 dX3_readPath_30 rfl rfl rfl ?_
  refine rf_getR (n := 34) rr_15_0 kk_16 hG dX3_readPath_31 flX3_12 ki_3_0 sS_15 kk_15 rfl ?_
  refine rf_getI (n := 37) hG dX3_readPath_34 flX3_127 ki_1_13 sS_16 kk_16 rfl ?_
  refine rf_cV2I (n := 40) hG (okX3_readName _ _) lVX3_117 hhX3_readName kk_15 sS_15 ⟨_, rfl, rfl⟩ dX3_readPath_37 rfl (Nat.le_of_ble_eq_true rfl) (Nat.le_of_ble_eq_true rfl) (fun v3 m4 => ?_)
  refine rf_istore_n (lc2 := [some (.ref 15), some (.int v3), none, none, none, none]) (n := 41) 1 dX3_readPath_40 rfl rfl (Nat.le_of_ble_eq_true rfl) rfl rfl ?_
  refine rf_aload_n (n := 42) 0 dX3_readPath_41 rfl rfl rfl ?_
  refine rf_iload_n (n := 43) 1 dX3_readPath_42 rfl rfl rfl ?_
  refine rf_iconst (n := 44) (-1 : Int32) dX3_readPath_43 cciconst_m1 rfl ?_
  refine rf_icmp_ne (tg := 51) (n := 47) dX3_readPath_44 rfl rfl (fun c30 => ?_) (fun c30 => ?_)
  · refine rf_iconst (n := 52) (0 : Int32) dX3_readPath_51 cciconst_0 rfl ?_
    exact pX3_readPath_K52 hG _ _ _
  · refine rf_iconst (n := 48) (1 : Int32) dX3_readPath_47 cciconst_1 rfl ?_
    refine rf_goto (tg := 52) dX3_readPath_48 rfl ?_
    exact pX3_readPath_K52 hG _ _ _
def fX3_readPath (μ : ax_M) : Option (Unit × ax_M) :=
  (if (μ.1 16 14) < (24 : Int32) then (fX3_readPath_K18 (0 : Int32) μ) else (fX3_readPath_K18 (1 : Int32) μ))
theorem okX3_readPath (μ : ax_M) : ax_Ok mX3_readPath 4 ax_jV [.ref 15] μ (fX3_readPath μ) := by
  refine ax_start (lc := [some (.ref 15), none, none, none, none, none]) 5 (by decide +kernel) rfl (Nat.le_of_ble_eq_true rfl) (fun x G hG => ?_)
  unfold fX3_readPath
  refine rf_aload_n (n := 1) 0 dX3_readPath_0 rfl rfl rfl ?_
  refine rf_aload_n (n := 2) 0 dX3_readPath_1 rfl rfl rfl ?_
  refine rf_getR (n := 5) rr_15_0 kk_16 hG dX3_readPath_2 flX3_12 ki_3_0 sS_15 kk_15 rfl ?_
  refine rf_getI (n := 8) hG dX3_readPath_5 flX3_148 ki_1_14 sS_16 kk_16 rfl ?_
  refine rf_bipush (n := 10) (24 : Int32) dX3_readPath_8 ccbipush_24 rfl ?_
  refine rf_icmp_lt (tg := 17) (n := 13) dX3_readPath_10 rfl rfl (fun c31 => ?_) (fun c31 => ?_)
  · refine rf_iconst (n := 18) (0 : Int32) dX3_readPath_17 cciconst_0 rfl ?_
    exact pX3_readPath_K18 hG _ _
  · refine rf_iconst (n := 14) (1 : Int32) dX3_readPath_13 cciconst_1 rfl ?_
    refine rf_goto (tg := 18) dX3_readPath_14 rfl ?_
    exact pX3_readPath_K18 hG _ _
def fX3_readPeriod (μ : ax_M) : Option (Unit × ax_M) :=
  (ax_bd (fX3_refuseIf (μ.1 15 10) (3 : Int32) μ) (fun _ m2 => (ax_let (ax_wi m2 15 10 (1 : Int32)) (fun m3 => (ax_bd (fX3_readNumber (1 : Int32) (9999 : Int32) m3) (fun v4 m5 => (ax_let (ax_wi m5 16 16 v4) (fun m6 => (ax_bd (fX3_readStop m6) (fun _ m8 => (some ((), m8))))))))))))
theorem okX3_readPeriod (μ : ax_M) : ax_Ok mX3_readPeriod 4 ax_jV [.ref 15] μ (fX3_readPeriod μ) := by
  refine ax_start (lc := [some (.ref 15)]) 0 (by decide +kernel) rfl (Nat.le_of_ble_eq_true rfl) (fun x G hG => ?_)
  unfold fX3_readPeriod
  refine rf_aload_n (n := 1) 0 dX3_readPeriod_0 rfl rfl rfl ?_
  refine rf_aload_n (n := 2) 0 dX3_readPeriod_1 rfl rfl rfl ?_
  refine rf_getI (n := 5) hG dX3_readPeriod_2 flX3_44 ki_3_10 sS_15 kk_15 rfl ?_
  refine rf_iconst (n := 6) (3 : Int32) dX3_readPeriod_5 cciconst_3 rfl ?_
  refine rf_cV2V (n := 9) hG (okX3_refuseIf _ _ _) lVX3_91 hhX3_refuseIf kk_15 sS_15 ⟨_, rfl, rfl⟩ dX3_readPeriod_6 rfl (Nat.le_of_ble_eq_true rfl) (Nat.le_of_ble_eq_true rfl) (fun _ m2 => ?_)
  refine rf_aload_n (n := 10) 0 dX3_readPeriod_9 rfl rfl rfl ?_
  refine rf_iconst (n := 11) (1 : Int32) dX3_readPeriod_10 cciconst_1 rfl ?_
  refine rf_pfZ (n := 14) hG rfl (Or.inr rfl) dX3_readPeriod_11 flX3_44 ki_3_10 nf_3_10 sS_15 kk_15 rfl (fun m3 => ?_)
  refine rf_aload_n (n := 15) 0 dX3_readPeriod_14 rfl rfl rfl ?_
  refine rf_getR (n := 18) rr_15_0 kk_16 hG dX3_readPeriod_15 flX3_12 ki_3_0 sS_15 kk_15 rfl ?_
  refine rf_aload_n (n := 19) 0 dX3_readPeriod_18 rfl rfl rfl ?_
  refine rf_iconst (n := 20) (1 : Int32) dX3_readPeriod_19 cciconst_1 rfl ?_
  refine rf_sipush (n := 23) (9999 : Int32) dX3_readPeriod_20 ccsipush_9999 rfl ?_
  refine rf_cV2I (n := 26) hG (okX3_readNumber _ _ _) lVX3_95 hhX3_readNumber kk_15 sS_15 ⟨_, rfl, rfl⟩ dX3_readPeriod_23 rfl (Nat.le_of_ble_eq_true rfl) (Nat.le_of_ble_eq_true rfl) (fun v4 m5 => ?_)
  refine rf_pfI (n := 29) hG rfl dX3_readPeriod_26 flX3_98 ki_1_16 nf_1_16 sS_16 kk_16 rfl (fun m6 => ?_)
  refine rf_aload_n (n := 30) 0 dX3_readPeriod_29 rfl rfl rfl ?_
  refine rf_cV0V (n := 33) hG (okX3_readStop _) lVX3_101 hhX3_readStop kk_15 sS_15 ⟨_, rfl, rfl⟩ dX3_readPeriod_30 rfl (Nat.le_of_ble_eq_true rfl) (Nat.le_of_ble_eq_true rfl) (fun _ m8 => ?_)
  exact rf_retV rfl dX3_readPeriod_33
def fX3_readPhase_K140 (μ : ax_M) : Option (Unit × ax_M) :=
  (some ((), μ))
theorem pX3_readPhase_K140 {x : ax_X} {G : ax_G} (hG : ax_ok G) (μ : ax_M) : ax_Rf mX3_readPhase 4 x (ax_Z ax_jV x G) G 0 0 140 [none, none, none, none, none] [] μ (fX3_readPhase_K140 μ) := by
  unfold fX3_readPhase_K140
  exact rf_retV rfl dX3_readPhase_140
def fX3_readPhase_K49 (s1 : Int32) (μ : ax_M) : Option (Unit × ax_M) :=
  (ax_bd (fX3_refuseIf s1 (3 : Int32) μ) (fun _ m6 => (ax_let (m6.1 15 9) (fun v7 => (ax_bd (fX3_readNumber (0 : Int32) (63 : Int32) m6) (fun v8 m9 => (ax_bd (fX3_readNumber (1 : Int32) (63 : Int32) m9) (fun v10 m11 => (ax_bd (fX3_readStop m11) (fun _ m13 => (if (m13.1 15 2) = 0 then (ax_let (m13.1 16 12) (fun v14 => (Option.bind (ax_wr m13 17 4 v14 v7) (fun m15 => (Option.bind (ax_wr m15 18 4 v14 v8) (fun m16 => (Option.bind (ax_wr m16 19 4 v14 v10) (fun m17 => (ax_let (ax_wi m17 16 12 ((m17.1 16 12) + (1 : Int32))) (fun m18 => (fX3_readPhase_K140 m18))))))))))) else (fX3_readPhase_K140 m13))))))))))))
theorem pX3_readPhase_K49 {x : ax_X} {G : ax_G} (hG : ax_ok G) (s1 : Int32) (μ : ax_M) : ax_Rf mX3_readPhase 4 x (ax_Z ax_jV x G) G 0 0 49 [some (.ref 15), none, none, none, none] [.int s1, .ref 15] μ (fX3_readPhase_K49 s1 μ) := by
  unfold fX3_readPhase_K49
  refine rf_iconst (n := 50) (3 : Int32) dX3_readPhase_49 cciconst_3 rfl ?_
  refine rf_cV2V (n := 53) hG (okX3_refuseIf _ _ _) lVX3_91 hhX3_refuseIf kk_15 sS_15 ⟨_, rfl, rfl⟩ dX3_readPhase_50 rfl (Nat.le_of_ble_eq_true rfl) (Nat.le_of_ble_eq_true rfl) (fun _ m6 => ?_)
  refine rf_aload_n (n := 54) 0 dX3_readPhase_53 rfl rfl rfl ?_
  refine rf_getI (n := 57) hG dX3_readPhase_54 flX3_66 ki_3_9 sS_15 kk_15 rfl ?_
  refine rf_letI (fun v7 => ?_)
  refine rf_istore_n (lc2 := [some (.ref 15), some (.int v7), none, none, none]) (n := 58) 1 dX3_readPhase_57 rfl rfl (Nat.le_of_ble_eq_true rfl) rfl rfl ?_
  refine rf_aload_n (n := 59) 0 dX3_readPhase_58 rfl rfl rfl ?_
  refine rf_iconst (n := 60) (0 : Int32) dX3_readPhase_59 cciconst_0 rfl ?_
  refine rf_bipush (n := 62) (63 : Int32) dX3_readPhase_60 ccbipush_63 rfl ?_
  refine rf_cV2I (n := 65) hG (okX3_readNumber _ _ _) lVX3_95 hhX3_readNumber kk_15 sS_15 ⟨_, rfl, rfl⟩ dX3_readPhase_62 rfl (Nat.le_of_ble_eq_true rfl) (Nat.le_of_ble_eq_true rfl) (fun v8 m9 => ?_)
  refine rf_istore_n (lc2 := [some (.ref 15), some (.int v7), some (.int v8), none, none]) (n := 66) 2 dX3_readPhase_65 rfl rfl (Nat.le_of_ble_eq_true rfl) rfl rfl ?_
  refine rf_aload_n (n := 67) 0 dX3_readPhase_66 rfl rfl rfl ?_
  refine rf_iconst (n := 68) (1 : Int32) dX3_readPhase_67 cciconst_1 rfl ?_
  refine rf_bipush (n := 70) (63 : Int32) dX3_readPhase_68 ccbipush_63 rfl ?_
  refine rf_cV2I (n := 73) hG (okX3_readNumber _ _ _) lVX3_95 hhX3_readNumber kk_15 sS_15 ⟨_, rfl, rfl⟩ dX3_readPhase_70 rfl (Nat.le_of_ble_eq_true rfl) (Nat.le_of_ble_eq_true rfl) (fun v10 m11 => ?_)
  refine rf_istore_n (lc2 := [some (.ref 15), some (.int v7), some (.int v8), some (.int v10), none]) (n := 74) 3 dX3_readPhase_73 rfl rfl (Nat.le_of_ble_eq_true rfl) rfl rfl ?_
  refine rf_aload_n (n := 75) 0 dX3_readPhase_74 rfl rfl rfl ?_
  refine rf_cV0V (n := 78) hG (okX3_readStop _) lVX3_101 hhX3_readStop kk_15 sS_15 ⟨_, rfl, rfl⟩ dX3_readPhase_75 rfl (Nat.le_of_ble_eq_true rfl) (Nat.le_of_ble_eq_true rfl) (fun _ m13 => ?_)
  refine rf_aload_n (n := 79) 0 dX3_readPhase_78 rfl rfl rfl ?_
  refine rf_getI (n := 82) hG dX3_readPhase_79 flX3_41 ki_3_2 sS_15 kk_15 rfl ?_
  refine rf_if_ne (tg := 140) (n := 85) dX3_readPhase_82 rfl rfl (fun c19 => ?_) (fun c19 => ?_)
  · refine rf_mask (lc2 := [none, none, none, none, none]) [false, false, false, false, true] rfl ?_
    exact pX3_readPhase_K140 hG _
  · refine rf_aload_n (n := 86) 0 dX3_readPhase_85 rfl rfl rfl ?_
    refine rf_getR (n := 89) rr_15_0 kk_16 hG dX3_readPhase_86 flX3_12 ki_3_0 sS_15 kk_15 rfl ?_
    refine rf_getI (n := 92) hG dX3_readPhase_89 flX3_111 ki_1_12 sS_16 kk_16 rfl ?_
    refine rf_letI (fun v14 => ?_)
    refine rf_istore (lc2 := [some (.ref 15), some (.int v7), some (.int v8), some (.int v10), some (.int v14)]) (n := 94) 4 dX3_readPhase_92 rfl (Nat.le_of_ble_eq_true rfl) rfl rfl ?_
    refine rf_aload_n (n := 95) 0 dX3_readPhase_94 rfl rfl rfl ?_
    refine rf_getR (n := 98) rr_15_0 kk_16 hG dX3_readPhase_95 flX3_12 ki_3_0 sS_15 kk_15 rfl ?_
    refine rf_getR (n := 101) rr_16_0 kk_17 hG dX3_readPhase_98 flX3_114 ki_1_0 sS_16 kk_16 rfl ?_
    refine rf_iload (n := 103) 4 dX3_readPhase_101 rfl rfl ?_
    refine rf_iload_n (n := 104) 1 dX3_readPhase_103 rfl rfl rfl ?_
    refine rf_iast (n := 105) hG dX3_readPhase_104 sS_17 kk_17 rfl (fun m15 => ?_)
    refine rf_aload_n (n := 106) 0 dX3_readPhase_105 rfl rfl rfl ?_
    refine rf_getR (n := 109) rr_15_0 kk_16 hG dX3_readPhase_106 flX3_12 ki_3_0 sS_15 kk_15 rfl ?_
    refine rf_getR (n := 112) rr_16_1 kk_18 hG dX3_readPhase_109 flX3_121 ki_1_1 sS_16 kk_16 rfl ?_
    refine rf_iload (n := 114) 4 dX3_readPhase_112 rfl rfl ?_
    refine rf_iload_n (n := 115) 2 dX3_readPhase_114 rfl rfl rfl ?_
    refine rf_iast (n := 116) hG dX3_readPhase_115 sS_18 kk_18 rfl (fun m16 => ?_)
    refine rf_aload_n (n := 117) 0 dX3_readPhase_116 rfl rfl rfl ?_
    refine rf_getR (n := 120) rr_15_0 kk_16 hG dX3_readPhase_117 flX3_12 ki_3_0 sS_15 kk_15 rfl ?_
    refine rf_getR (n := 123) rr_16_2 kk_19 hG dX3_readPhase_120 flX3_124 ki_1_2 sS_16 kk_16 rfl ?_
    refine rf_iload (n := 125) 4 dX3_readPhase_123 rfl rfl ?_
    refine rf_iload_n (n := 126) 3 dX3_readPhase_125 rfl rfl rfl ?_
    refine rf_iast (n := 127) hG dX3_readPhase_126 sS_19 kk_19 rfl (fun m17 => ?_)
    refine rf_aload_n (n := 128) 0 dX3_readPhase_127 rfl rfl rfl ?_
    refine rf_getR (n := 131) rr_15_0 kk_16 hG dX3_readPhase_128 flX3_12 ki_3_0 sS_15 kk_15 rfl ?_
    refine rf_dupR (n := 132) dX3_readPhase_131 rfl ?_
    refine rf_getI (n := 135) hG dX3_readPhase_132 flX3_111 ki_1_12 sS_16 kk_16 rfl ?_
    refine rf_iconst (n := 136) (1 : Int32) dX3_readPhase_135 cciconst_1 rfl ?_
    refine rf_iadd (n := 137) dX3_readPhase_136 rfl ?_
    refine rf_pfI (n := 140) hG rfl dX3_readPhase_137 flX3_111 ki_1_12 nf_1_12 sS_16 kk_16 rfl (fun m18 => ?_)
    refine rf_mask (lc2 := [none, none, none, none, none]) [false, false, false, false, false] rfl ?_
    exact pX3_readPhase_K140 hG _
def fX3_readPhase_K17 (s1 : Int32) (μ : ax_M) : Option (Unit × ax_M) :=
  (ax_bd (fX3_refuseIf s1 (2 : Int32) μ) (fun _ m2 => (ax_bd (fX3_readName_1 (m2.1 16 12) m2) (fun v3 m4 => (if v3 = (-1 : Int32) then (fX3_readPhase_K49 (0 : Int32) m4) else (fX3_readPhase_K49 (1 : Int32) m4))))))
theorem pX3_readPhase_K17 {x : ax_X} {G : ax_G} (hG : ax_ok G) (s1 : Int32) (μ : ax_M) : ax_Rf mX3_readPhase 4 x (ax_Z ax_jV x G) G 0 0 17 [some (.ref 15), none, none, none, none] [.int s1, .ref 15] μ (fX3_readPhase_K17 s1 μ) := by
  unfold fX3_readPhase_K17
  refine rf_iconst (n := 18) (2 : Int32) dX3_readPhase_17 cciconst_2 rfl ?_
  refine rf_cV2V (n := 21) hG (okX3_refuseIf _ _ _) lVX3_91 hhX3_refuseIf kk_15 sS_15 ⟨_, rfl, rfl⟩ dX3_readPhase_18 rfl (Nat.le_of_ble_eq_true rfl) (Nat.le_of_ble_eq_true rfl) (fun _ m2 => ?_)
  refine rf_aload_n (n := 22) 0 dX3_readPhase_21 rfl rfl rfl ?_
  refine rf_aload_n (n := 23) 0 dX3_readPhase_22 rfl rfl rfl ?_
  refine rf_aload_n (n := 24) 0 dX3_readPhase_23 rfl rfl rfl ?_
  refine rf_getR (n := 27) rr_15_0 kk_16 hG dX3_readPhase_24 flX3_12 ki_3_0 sS_15 kk_15 rfl ?_
  refine rf_getR (n := 30) rr_16_0 kk_17 hG dX3_readPhase_27 flX3_114 ki_1_0 sS_16 kk_16 rfl ?_
  refine rf_aload_n (n := 31) 0 dX3_readPhase_30 rfl rfl rfl ?_
  refine rf_getR (n := 34) rr_15_0 kk_16 hG dX3_readPhase_31 flX3_12 ki_3_0 sS_15 kk_15 rfl ?_
  refine rf_getI (n := 37) hG dX3_readPhase_34 flX3_111 ki_1_12 sS_16 kk_16 rfl ?_
  refine rf_cV2I (n := 40) hG (okX3_readName_1 _ _) lVX3_117 hhX3_readName kk_15 sS_15 ⟨_, rfl, rfl⟩ dX3_readPhase_37 rfl (Nat.le_of_ble_eq_true rfl) (Nat.le_of_ble_eq_true rfl) (fun v3 m4 => ?_)
  refine rf_iconst (n := 41) (-1 : Int32) dX3_readPhase_40 cciconst_m1 rfl ?_
  refine rf_icmp_eq (tg := 48) (n := 44) dX3_readPhase_41 rfl rfl (fun c20 => ?_) (fun c20 => ?_)
  · refine rf_iconst (n := 49) (0 : Int32) dX3_readPhase_48 cciconst_0 rfl ?_
    exact pX3_readPhase_K49 hG _ _
  · refine rf_iconst (n := 45) (1 : Int32) dX3_readPhase_44 cciconst_1 rfl ?_
    refine rf_goto (tg := 49) dX3_readPhase_45 rfl ?_
    exact pX3_readPhase_K49 hG _ _
def fX3_readPhase (μ : ax_M) : Option (Unit × ax_M) :=
  (if (μ.1 16 12) < (4 : Int32) then (fX3_readPhase_K17 (0 : Int32) μ) else (fX3_readPhase_K17 (1 : Int32) μ))
theorem okX3_readPhase (μ : ax_M) : ax_Ok mX3_readPhase 4 ax_jV [.ref 15] μ (fX3_readPhase μ) := by
  refine ax_start (lc := [some (.ref 15), none, none, none, none]) 4 (by decide +kernel) rfl (Nat.le_of_ble_eq_true rfl) (fun x G hG => ?_)
  unfold fX3_readPhase
  refine rf_aload_n (n := 1) 0 dX3_readPhase_0 rfl rfl rfl ?_
  refine rf_aload_n (n := 2) 0 dX3_readPhase_1 rfl rfl rfl ?_
  refine rf_getR (n := 5) rr_15_0 kk_16 hG dX3_readPhase_2 flX3_12 ki_3_0 sS_15 kk_15 rfl ?_
  refine rf_getI (n := 8) hG dX3_readPhase_5 flX3_111 ki_1_12 sS_16 kk_16 rfl ?_
  refine rf_iconst (n := 9) (4 : Int32) dX3_readPhase_8 cciconst_4 rfl ?_
  refine rf_icmp_lt (tg := 16) (n := 12) dX3_readPhase_9 rfl rfl (fun c21 => ?_) (fun c21 => ?_)
  · refine rf_iconst (n := 17) (0 : Int32) dX3_readPhase_16 cciconst_0 rfl ?_
    exact pX3_readPhase_K17 hG _ _
  · refine rf_iconst (n := 13) (1 : Int32) dX3_readPhase_12 cciconst_1 rfl ?_
    refine rf_goto (tg := 17) dX3_readPhase_13 rfl ?_
    exact pX3_readPhase_K17 hG _ _
def fX3_readSeed (μ : ax_M) : Option (Unit × ax_M) :=
  (ax_bd (fX3_refuseIf (μ.1 15 12) (3 : Int32) μ) (fun _ m2 => (ax_let (ax_wi m2 15 12 (1 : Int32)) (fun m3 => (ax_bd (fX3_readNumber (0 : Int32) (99999 : Int32) m3) (fun v4 m5 => (ax_let (ax_wi m5 16 18 v4) (fun m6 => (ax_bd (fX3_readStop m6) (fun _ m8 => (some ((), m8))))))))))))
theorem okX3_readSeed (μ : ax_M) : ax_Ok mX3_readSeed 4 ax_jV [.ref 15] μ (fX3_readSeed μ) := by
  refine ax_start (lc := [some (.ref 15)]) 0 (by decide +kernel) rfl (Nat.le_of_ble_eq_true rfl) (fun x G hG => ?_)
  unfold fX3_readSeed
  refine rf_aload_n (n := 1) 0 dX3_readSeed_0 rfl rfl rfl ?_
  refine rf_aload_n (n := 2) 0 dX3_readSeed_1 rfl rfl rfl ?_
  refine rf_getI (n := 5) hG dX3_readSeed_2 flX3_51 ki_3_12 sS_15 kk_15 rfl ?_
  refine rf_iconst (n := 6) (3 : Int32) dX3_readSeed_5 cciconst_3 rfl ?_
  refine rf_cV2V (n := 9) hG (okX3_refuseIf _ _ _) lVX3_91 hhX3_refuseIf kk_15 sS_15 ⟨_, rfl, rfl⟩ dX3_readSeed_6 rfl (Nat.le_of_ble_eq_true rfl) (Nat.le_of_ble_eq_true rfl) (fun _ m2 => ?_)
  refine rf_aload_n (n := 10) 0 dX3_readSeed_9 rfl rfl rfl ?_
  refine rf_iconst (n := 11) (1 : Int32) dX3_readSeed_10 cciconst_1 rfl ?_
  refine rf_pfZ (n := 14) hG rfl (Or.inr rfl) dX3_readSeed_11 flX3_51 ki_3_12 nf_3_12 sS_15 kk_15 rfl (fun m3 => ?_)
  refine rf_aload_n (n := 15) 0 dX3_readSeed_14 rfl rfl rfl ?_
  refine rf_getR (n := 18) rr_15_0 kk_16 hG dX3_readSeed_15 flX3_12 ki_3_0 sS_15 kk_15 rfl ?_
  refine rf_aload_n (n := 19) 0 dX3_readSeed_18 rfl rfl rfl ?_
  refine rf_iconst (n := 20) (0 : Int32) dX3_readSeed_19 cciconst_0 rfl ?_
  refine rf_ldc (n := 22) dX3_readSeed_20 ctX3_107 rfl ?_
  refine rf_cV2I (n := 25) hG (okX3_readNumber _ _ _) lVX3_95 hhX3_readNumber kk_15 sS_15 ⟨_, rfl, rfl⟩ dX3_readSeed_22 rfl (Nat.le_of_ble_eq_true rfl) (Nat.le_of_ble_eq_true rfl) (fun v4 m5 => ?_)
  refine rf_pfI (n := 28) hG rfl dX3_readSeed_25 flX3_108 ki_1_18 nf_1_18 sS_16 kk_16 rfl (fun m6 => ?_)
  refine rf_aload_n (n := 29) 0 dX3_readSeed_28 rfl rfl rfl ?_
  refine rf_cV0V (n := 32) hG (okX3_readStop _) lVX3_101 hhX3_readStop kk_15 sS_15 ⟨_, rfl, rfl⟩ dX3_readSeed_29 rfl (Nat.le_of_ble_eq_true rfl) (Nat.le_of_ble_eq_true rfl) (fun _ m8 => ?_)
  exact rf_retV rfl dX3_readSeed_32
def fX3_readSkew (μ : ax_M) : Option (Unit × ax_M) :=
  (ax_bd (fX3_refuseIf (μ.1 15 11) (3 : Int32) μ) (fun _ m2 => (ax_let (ax_wi m2 15 11 (1 : Int32)) (fun m3 => (ax_bd (fX3_readNumber (0 : Int32) (99 : Int32) m3) (fun v4 m5 => (ax_let (ax_wi m5 16 17 v4) (fun m6 => (ax_bd (fX3_readStop m6) (fun _ m8 => (some ((), m8))))))))))))
theorem okX3_readSkew (μ : ax_M) : ax_Ok mX3_readSkew 4 ax_jV [.ref 15] μ (fX3_readSkew μ) := by
  refine ax_start (lc := [some (.ref 15)]) 0 (by decide +kernel) rfl (Nat.le_of_ble_eq_true rfl) (fun x G hG => ?_)
  unfold fX3_readSkew
  refine rf_aload_n (n := 1) 0 dX3_readSkew_0 rfl rfl rfl ?_
  refine rf_aload_n (n := 2) 0 dX3_readSkew_1 rfl rfl rfl ?_
  refine rf_getI (n := 5) hG dX3_readSkew_2 flX3_48 ki_3_11 sS_15 kk_15 rfl ?_
  refine rf_iconst (n := 6) (3 : Int32) dX3_readSkew_5 cciconst_3 rfl ?_
  refine rf_cV2V (n := 9) hG (okX3_refuseIf _ _ _) lVX3_91 hhX3_refuseIf kk_15 sS_15 ⟨_, rfl, rfl⟩ dX3_readSkew_6 rfl (Nat.le_of_ble_eq_true rfl) (Nat.le_of_ble_eq_true rfl) (fun _ m2 => ?_)
  refine rf_aload_n (n := 10) 0 dX3_readSkew_9 rfl rfl rfl ?_
  refine rf_iconst (n := 11) (1 : Int32) dX3_readSkew_10 cciconst_1 rfl ?_
  refine rf_pfZ (n := 14) hG rfl (Or.inr rfl) dX3_readSkew_11 flX3_48 ki_3_11 nf_3_11 sS_15 kk_15 rfl (fun m3 => ?_)
  refine rf_aload_n (n := 15) 0 dX3_readSkew_14 rfl rfl rfl ?_
  refine rf_getR (n := 18) rr_15_0 kk_16 hG dX3_readSkew_15 flX3_12 ki_3_0 sS_15 kk_15 rfl ?_
  refine rf_aload_n (n := 19) 0 dX3_readSkew_18 rfl rfl rfl ?_
  refine rf_iconst (n := 20) (0 : Int32) dX3_readSkew_19 cciconst_0 rfl ?_
  refine rf_bipush (n := 22) (99 : Int32) dX3_readSkew_20 ccbipush_99 rfl ?_
  refine rf_cV2I (n := 25) hG (okX3_readNumber _ _ _) lVX3_95 hhX3_readNumber kk_15 sS_15 ⟨_, rfl, rfl⟩ dX3_readSkew_22 rfl (Nat.le_of_ble_eq_true rfl) (Nat.le_of_ble_eq_true rfl) (fun v4 m5 => ?_)
  refine rf_pfI (n := 28) hG rfl dX3_readSkew_25 flX3_104 ki_1_17 nf_1_17 sS_16 kk_16 rfl (fun m6 => ?_)
  refine rf_aload_n (n := 29) 0 dX3_readSkew_28 rfl rfl rfl ?_
  refine rf_cV0V (n := 32) hG (okX3_readStop _) lVX3_101 hhX3_readStop kk_15 sS_15 ⟨_, rfl, rfl⟩ dX3_readSkew_29 rfl (Nat.le_of_ble_eq_true rfl) (Nat.le_of_ble_eq_true rfl) (fun _ m8 => ?_)
  exact rf_retV rfl dX3_readSkew_32
def fX3_readLine_K140 (μ : ax_M) : Option (Unit × ax_M) :=
  (some ((), μ))
theorem pX3_readLine_K140 {x : ax_X} {G : ax_G} (hG : ax_ok G) (μ : ax_M) : ax_Rf mX3_readLine 5 x (ax_Z ax_jV x G) G 0 0 140 [none] [] μ (fX3_readLine_K140 μ) := by
  unfold fX3_readLine_K140
  exact rf_retV rfl dX3_readLine_140
def fX3_readLine_K16 (s0 : Int32) (μ : ax_M) : Option (Unit × ax_M) :=
  (if s0 = (214417408 : Int32) then (ax_bd (fX3_readCell (1 : Int32) μ) (fun _ m3 => (fX3_readLine_K140 m3))) else (if s0 = (404360448 : Int32) then (ax_bd (fX3_readCell (0 : Int32) μ) (fun _ m6 => (fX3_readLine_K140 m6))) else (if s0 = (538583040 : Int32) then (ax_bd (fX3_readPath μ) (fun _ m9 => (fX3_readLine_K140 m9))) else (if s0 = (542713316 : Int32) then (ax_bd (fX3_readPeriod μ) (fun _ m12 => (fX3_readLine_K140 m12))) else (if s0 = (545311904 : Int32) then (ax_bd (fX3_readPhase μ) (fun _ m15 => (fX3_readLine_K140 m15))) else (if s0 = (642945024 : Int32) then (ax_bd (fX3_readSeed μ) (fun _ m18 => (fX3_readLine_K140 m18))) else (if s0 = (649255936 : Int32) then (ax_bd (fX3_readSkew μ) (fun _ m21 => (fX3_readLine_K140 m21))) else (ax_bd (fX3_refuse (1 : Int32) μ) (fun _ m23 => (fX3_readLine_K140 m23))))))))))
theorem pX3_readLine_K16 {x : ax_X} {G : ax_G} (hG : ax_ok G) (s0 : Int32) (μ : ax_M) : ax_Rf mX3_readLine 5 x (ax_Z ax_jV x G) G 0 0 16 [some (.ref 15)] [.int s0] μ (fX3_readLine_K16 s0 μ) := by
  unfold fX3_readLine_K16
  refine rf_split (fun c1 => ?_) (fun c1 => ?_)
  · refine rf_lookup (tg := 106) dX3_readLine_16 (by decide) (off := 90) (by rw [c1]; decide) rfl ?_
    refine rf_aload_n (n := 107) 0 dX3_readLine_106 rfl rfl rfl ?_
    refine rf_iconst (n := 108) (1 : Int32) dX3_readLine_107 cciconst_1 rfl ?_
    refine rf_cV1V (n := 111) hG (okX3_readCell _ _) lVX3_75 hhX3_readCell kk_15 sS_15 ⟨_, rfl, rfl⟩ dX3_readLine_108 rfl (Nat.le_of_ble_eq_true rfl) (Nat.le_of_ble_eq_true rfl) (fun _ m3 => ?_)
    refine rf_goto (tg := 140) dX3_readLine_111 rfl ?_
    refine rf_mask (lc2 := [none]) [false] rfl ?_
    exact pX3_readLine_K140 hG _
  · refine rf_split (fun c4 => ?_) (fun c4 => ?_)
    · refine rf_lookup (tg := 98) dX3_readLine_16 (by decide) (off := 82) (by rw [c4]; decide) rfl ?_
      refine rf_aload_n (n := 99) 0 dX3_readLine_98 rfl rfl rfl ?_
      refine rf_iconst (n := 100) (0 : Int32) dX3_readLine_99 cciconst_0 rfl ?_
      refine rf_cV1V (n := 103) hG (okX3_readCell _ _) lVX3_75 hhX3_readCell kk_15 sS_15 ⟨_, rfl, rfl⟩ dX3_readLine_100 rfl (Nat.le_of_ble_eq_true rfl) (Nat.le_of_ble_eq_true rfl) (fun _ m6 => ?_)
      refine rf_goto (tg := 140) dX3_readLine_103 rfl ?_
      refine rf_mask (lc2 := [none]) [false] rfl ?_
      exact pX3_readLine_K140 hG _
    · refine rf_split (fun c7 => ?_) (fun c7 => ?_)
      · refine rf_lookup (tg := 114) dX3_readLine_16 (by decide) (off := 98) (by rw [c7]; decide) rfl ?_
        refine rf_aload_n (n := 115) 0 dX3_readLine_114 rfl rfl rfl ?_
        refine rf_cV0V (n := 118) hG (okX3_readPath _) lVX3_79 hhX3_readPath kk_15 sS_15 ⟨_, rfl, rfl⟩ dX3_readLine_115 rfl (Nat.le_of_ble_eq_true rfl) (Nat.le_of_ble_eq_true rfl) (fun _ m9 => ?_)
        refine rf_goto (tg := 140) dX3_readLine_118 rfl ?_
        refine rf_mask (lc2 := [none]) [false] rfl ?_
        exact pX3_readLine_K140 hG _
      · refine rf_split (fun c10 => ?_) (fun c10 => ?_)
        · refine rf_lookup (tg := 84) dX3_readLine_16 (by decide) (off := 68) (by rw [c10]; decide) rfl ?_
          refine rf_aload_n (n := 85) 0 dX3_readLine_84 rfl rfl rfl ?_
          refine rf_cV0V (n := 88) hG (okX3_readPeriod _) lVX3_69 hhX3_readPeriod kk_15 sS_15 ⟨_, rfl, rfl⟩ dX3_readLine_85 rfl (Nat.le_of_ble_eq_true rfl) (Nat.le_of_ble_eq_true rfl) (fun _ m12 => ?_)
          refine rf_goto (tg := 140) dX3_readLine_88 rfl ?_
          refine rf_mask (lc2 := [none]) [false] rfl ?_
          exact pX3_readLine_K140 hG _
        · refine rf_split (fun c13 => ?_) (fun c13 => ?_)
          · refine rf_lookup (tg := 91) dX3_readLine_16 (by decide) (off := 75) (by rw [c13]; decide) rfl ?_
            refine rf_aload_n (n := 92) 0 dX3_readLine_91 rfl rfl rfl ?_
            refine rf_cV0V (n := 95) hG (okX3_readPhase _) lVX3_72 hhX3_readPhase kk_15 sS_15 ⟨_, rfl, rfl⟩ dX3_readLine_92 rfl (Nat.le_of_ble_eq_true rfl) (Nat.le_of_ble_eq_true rfl) (fun _ m15 => ?_)
            refine rf_goto (tg := 140) dX3_readLine_95 rfl ?_
            refine rf_mask (lc2 := [none]) [false] rfl ?_
            exact pX3_readLine_K140 hG _
          · refine rf_split (fun c16 => ?_) (fun c16 => ?_)
            · refine rf_lookup (tg := 128) dX3_readLine_16 (by decide) (off := 112) (by rw [c16]; decide) rfl ?_
              refine rf_aload_n (n := 129) 0 dX3_readLine_128 rfl rfl rfl ?_
              refine rf_cV0V (n := 132) hG (okX3_readSeed _) lVX3_85 hhX3_readSeed kk_15 sS_15 ⟨_, rfl, rfl⟩ dX3_readLine_129 rfl (Nat.le_of_ble_eq_true rfl) (Nat.le_of_ble_eq_true rfl) (fun _ m18 => ?_)
              refine rf_goto (tg := 140) dX3_readLine_132 rfl ?_
              refine rf_mask (lc2 := [none]) [false] rfl ?_
              exact pX3_readLine_K140 hG _
            · refine rf_split (fun c19 => ?_) (fun c19 => ?_)
              · refine rf_lookup (tg := 121) dX3_readLine_16 (by decide) (off := 105) (by rw [c19]; decide) rfl ?_
                refine rf_aload_n (n := 122) 0 dX3_readLine_121 rfl rfl rfl ?_
                refine rf_cV0V (n := 125) hG (okX3_readSkew _) lVX3_82 hhX3_readSkew kk_15 sS_15 ⟨_, rfl, rfl⟩ dX3_readLine_122 rfl (Nat.le_of_ble_eq_true rfl) (Nat.le_of_ble_eq_true rfl) (fun _ m21 => ?_)
                refine rf_goto (tg := 140) dX3_readLine_125 rfl ?_
                refine rf_mask (lc2 := [none]) [false] rfl ?_
                exact pX3_readLine_K140 hG _
              · refine rf_lookup (tg := 135) dX3_readLine_16 (by decide) (off := 119) (by simp only []; rw [lv_osw (k := (214417408 : Int32)) (a := 214417408) c1 rfl, lv_osw (k := (404360448 : Int32)) (a := 404360448) c4 rfl, lv_osw (k := (538583040 : Int32)) (a := 538583040) c7 rfl, lv_osw (k := (542713316 : Int32)) (a := 542713316) c10 rfl, lv_osw (k := (545311904 : Int32)) (a := 545311904) c13 rfl, lv_osw (k := (642945024 : Int32)) (a := 642945024) c16 rfl, lv_osw (k := (649255936 : Int32)) (a := 649255936) c19 rfl]; rfl) rfl ?_
                refine rf_aload_n (n := 136) 0 dX3_readLine_135 rfl rfl rfl ?_
                refine rf_iconst (n := 137) (1 : Int32) dX3_readLine_136 cciconst_1 rfl ?_
                refine rf_cV1V (n := 140) hG (okX3_refuse _ _) lVX3_88 hhX3_refuse kk_15 sS_15 ⟨_, rfl, rfl⟩ dX3_readLine_137 rfl (Nat.le_of_ble_eq_true rfl) (Nat.le_of_ble_eq_true rfl) (fun _ m23 => ?_)
                refine rf_mask (lc2 := [none]) [false] rfl ?_
                exact pX3_readLine_K140 hG _
def fX3_readLine (μ : ax_M) : Option (Unit × ax_M) :=
  (if (μ.1 15 7) = (1 : Int32) then (fX3_readLine_K16 (μ.1 15 9) μ) else (fX3_readLine_K16 (0 : Int32) μ))
theorem okX3_readLine (μ : ax_M) : ax_Ok mX3_readLine 5 ax_jV [.ref 15] μ (fX3_readLine μ) := by
  refine ax_start (lc := [some (.ref 15)]) 0 (by decide +kernel) rfl (Nat.le_of_ble_eq_true rfl) (fun x G hG => ?_)
  unfold fX3_readLine
  refine rf_aload_n (n := 1) 0 dX3_readLine_0 rfl rfl rfl ?_
  refine rf_getI (n := 4) hG dX3_readLine_1 flX3_60 ki_3_7 sS_15 kk_15 rfl ?_
  refine rf_iconst (n := 5) (1 : Int32) dX3_readLine_4 cciconst_1 rfl ?_
  refine rf_icmp_ne (tg := 15) (n := 8) dX3_readLine_5 rfl rfl (fun c24 => ?_) (fun c24 => ?_)
  · refine rf_iconst (n := 16) (0 : Int32) dX3_readLine_15 cciconst_0 rfl ?_
    exact pX3_readLine_K16 hG _ _
  · refine rf_aload_n (n := 9) 0 dX3_readLine_8 rfl rfl rfl ?_
    refine rf_getI (n := 12) hG dX3_readLine_9 flX3_66 ki_3_9 sS_15 kk_15 rfl ?_
    refine rf_goto (tg := 16) dX3_readLine_12 rfl ?_
    exact pX3_readLine_K16 hG _ _
def fX3_read_K108 (μ : ax_M) : Option (Int32 × ax_M) :=
  (some ((1 : Int32), μ))
theorem pX3_read_K108 {x : ax_X} {G : ax_G} (hG : ax_ok G) (μ : ax_M) : ax_Rf mX3_read 6 x (ax_Z ax_jI x G) G 0 0 108 [none, none, none] [] μ (fX3_read_K108 μ) := by
  unfold fX3_read_K108
  refine rf_iconst (n := 109) (1 : Int32) dX3_read_108 cciconst_1 rfl ?_
  exact rf_retB rfl (Or.inr rfl) dX3_read_109
def fX3_read_B57 (r57 : Int32 → ax_M → Option (Int32 × ax_M)) (l2 : Int32) (μ : ax_M) : Option (Int32 × ax_M) :=
  (if (μ.1 15 5) < l2 then (fX3_read_K108 μ) else (ax_bd (fX3_readToken μ) (fun _ m12 => (if (m12.1 15 7) = 0 then (fX3_read_K108 m12) else (ax_bd (fX3_readLine m12) (fun _ m14 => (if (m14.1 15 2) = 0 then (ax_let (ax_wi m14 15 1 ((m14.1 15 1) + (1 : Int32))) (fun m15 => (r57 (l2 + (1 : Int32)) m15))) else (some ((0 : Int32), m14)))))))))
theorem pX3_read_B57 {x : ax_X} {G : ax_G} (hG : ax_ok G) (r57 : Int32 → ax_M → Option (Int32 × ax_M)) (hr57 : ∀ (a2 : Int32) (μ : ax_M), ax_Rf mX3_read 6 x (ax_Z ax_jI x G) G 0 0 57 [some (.ref 15), none, some (.int a2)] [] μ (r57 a2 μ)) (l2 : Int32) (μ : ax_M) : ax_Rf mX3_read 6 x (ax_Z ax_jI x G) G 0 0 57 [some (.ref 15), none, some (.int l2)] [] μ (fX3_read_B57 r57 l2 μ) := by
  unfold fX3_read_B57
  refine rf_iload_n (n := 58) 2 dX3_read_57 rfl rfl rfl ?_
  refine rf_aload_n (n := 59) 0 dX3_read_58 rfl rfl rfl ?_
  refine rf_getI (n := 62) hG dX3_read_59 flX3_32 ki_3_5 sS_15 kk_15 rfl ?_
  refine rf_icmp_gt (tg := 108) (n := 65) dX3_read_62 rfl rfl (fun c18 => ?_) (fun c18 => ?_)
  · refine rf_mask (lc2 := [none, none, none]) [false, true, false] rfl ?_
    exact pX3_read_K108 hG _
  · refine rf_aload_n (n := 66) 0 dX3_read_65 rfl rfl rfl ?_
    refine rf_cV0V (n := 69) hG (okX3_readToken _) lVX3_57 hhX3_readToken kk_15 sS_15 ⟨_, rfl, rfl⟩ dX3_read_66 rfl (Nat.le_of_ble_eq_true rfl) (Nat.le_of_ble_eq_true rfl) (fun _ m12 => ?_)
    refine rf_aload_n (n := 70) 0 dX3_read_69 rfl rfl rfl ?_
    refine rf_getI (n := 73) hG dX3_read_70 flX3_60 ki_3_7 sS_15 kk_15 rfl ?_
    refine rf_if_ne (tg := 79) (n := 76) dX3_read_73 rfl rfl (fun c17 => ?_) (fun c17 => ?_)
    · refine rf_aload_n (n := 80) 0 dX3_read_79 rfl rfl rfl ?_
      refine rf_cV0V (n := 83) hG (okX3_readLine _) lVX3_63 hhX3_readLine kk_15 sS_15 ⟨_, rfl, rfl⟩ dX3_read_80 rfl (Nat.le_of_ble_eq_true rfl) (Nat.le_of_ble_eq_true rfl) (fun _ m14 => ?_)
      refine rf_aload_n (n := 84) 0 dX3_read_83 rfl rfl rfl ?_
      refine rf_getI (n := 87) hG dX3_read_84 flX3_41 ki_3_2 sS_15 kk_15 rfl ?_
      refine rf_if_eq (tg := 92) (n := 90) dX3_read_87 rfl rfl (fun c16 => ?_) (fun c16 => ?_)
      · refine rf_aload_n (n := 93) 0 dX3_read_92 rfl rfl rfl ?_
        refine rf_dupR (n := 94) dX3_read_93 rfl ?_
        refine rf_getI (n := 97) hG dX3_read_94 flX3_38 ki_3_1 sS_15 kk_15 rfl ?_
        refine rf_iconst (n := 98) (1 : Int32) dX3_read_97 cciconst_1 rfl ?_
        refine rf_iadd (n := 99) dX3_read_98 rfl ?_
        refine rf_pfI (n := 102) hG rfl dX3_read_99 flX3_38 ki_3_1 nf_3_1 sS_15 kk_15 rfl (fun m15 => ?_)
        refine rf_iinc (lc2 := [some (.ref 15), none, some (.int (l2 + (1 : Int32)))]) (n := 105) (w := (1 : Int32)) 2 dX3_read_102 rfl rfl rfl (Nat.le_of_ble_eq_true rfl) rfl rfl ?_
        refine rf_goto (tg := 57) dX3_read_105 rfl ?_
        exact hr57 _ _
      · refine rf_iconst (n := 91) (0 : Int32) dX3_read_90 cciconst_0 rfl ?_
        exact rf_retB rfl (Or.inl rfl) dX3_read_91
    · refine rf_goto (tg := 108) dX3_read_76 rfl ?_
      refine rf_mask (lc2 := [none, none, none]) [false, true, false] rfl ?_
      exact pX3_read_K108 hG _
theorem pX3_read_L57 {x : ax_X} {G : ax_G} (hG : ax_ok G) (n : Nat) (a2 : Int32) (μ : ax_M) : ax_Rf mX3_read 6 x (ax_Z ax_jI x G) G 0 0 57 [some (.ref 15), none, some (.int a2)] [] μ (ax_lp1 (fX3_read_B57) n a2 μ) :=
  rf_lp1 (P := fun a2 μ t => ax_Rf mX3_read 6 x (ax_Z ax_jI x G) G 0 0 57 [some (.ref 15), none, some (.int a2)] [] μ t) (fun _ _ => rf_none) (fun rc hrc a2 μ => pX3_read_B57 hG rc hrc a2 μ) n a2 μ
def fX3_read (p1 : Int32) (μ : ax_M) : Option (Int32 × ax_M) :=
  (ax_let (ax_wi μ 15 5 (ax_mn p1 (700 : Int32))) (fun m1 => (ax_let (ax_wi m1 15 6 (0 : Int32)) (fun m2 => (ax_let (ax_wi m2 15 1 (0 : Int32)) (fun m3 => (ax_let (ax_wi m3 15 2 (0 : Int32)) (fun m4 => (ax_let (ax_wi m4 15 3 (-1 : Int32)) (fun m5 => (ax_let (ax_wi m5 15 10 (0 : Int32)) (fun m6 => (ax_let (ax_wi m6 15 11 (0 : Int32)) (fun m7 => (ax_let (ax_wi m7 15 12 (0 : Int32)) (fun m8 => (ax_bd (fX1_clear m8) (fun _ m10 => (ax_lp1 (fX3_read_B57) ax_FU (0 : Int32) m10)))))))))))))))))))
theorem okX3_read (p1 : Int32) (μ : ax_M) : ax_Ok mX3_read 6 ax_jI [.ref 15, .int p1] μ (fX3_read p1 μ) := by
  refine ax_start (lc := [some (.ref 15), some (.int p1), none]) 1 (by decide +kernel) rfl (Nat.le_of_ble_eq_true rfl) (fun x G hG => ?_)
  unfold fX3_read
  refine rf_aload_n (n := 1) 0 dX3_read_0 rfl rfl rfl ?_
  refine rf_iload_n (n := 2) 1 dX3_read_1 rfl rfl rfl ?_
  refine rf_aload_n (n := 3) 0 dX3_read_2 rfl rfl rfl ?_
  refine rf_getR (n := 6) rr_15_4 kk_1 hG dX3_read_3 flX3_22 ki_3_4 sS_15 kk_15 rfl ?_
  refine rf_alen1 (n := 7) (v := (700 : Int32)) hG dX3_read_6 sS_1 rfl kk_1 rfl ?_
  refine rf_min (n := 10) dX3_read_7 mxX3_26 ax_minw (Nat.le_of_ble_eq_true rfl) (Nat.le_of_ble_eq_true rfl) rfl ?_
  refine rf_pfI (n := 13) hG rfl dX3_read_10 flX3_32 ki_3_5 nf_3_5 sS_15 kk_15 rfl (fun m1 => ?_)
  refine rf_aload_n (n := 14) 0 dX3_read_13 rfl rfl rfl ?_
  refine rf_iconst (n := 15) (0 : Int32) dX3_read_14 cciconst_0 rfl ?_
  refine rf_pfI (n := 18) hG rfl dX3_read_15 flX3_35 ki_3_6 nf_3_6 sS_15 kk_15 rfl (fun m2 => ?_)
  refine rf_aload_n (n := 19) 0 dX3_read_18 rfl rfl rfl ?_
  refine rf_iconst (n := 20) (0 : Int32) dX3_read_19 cciconst_0 rfl ?_
  refine rf_pfI (n := 23) hG rfl dX3_read_20 flX3_38 ki_3_1 nf_3_1 sS_15 kk_15 rfl (fun m3 => ?_)
  refine rf_aload_n (n := 24) 0 dX3_read_23 rfl rfl rfl ?_
  refine rf_iconst (n := 25) (0 : Int32) dX3_read_24 cciconst_0 rfl ?_
  refine rf_pfI (n := 28) hG rfl dX3_read_25 flX3_41 ki_3_2 nf_3_2 sS_15 kk_15 rfl (fun m4 => ?_)
  refine rf_aload_n (n := 29) 0 dX3_read_28 rfl rfl rfl ?_
  refine rf_iconst (n := 30) (-1 : Int32) dX3_read_29 cciconst_m1 rfl ?_
  refine rf_pfI (n := 33) hG rfl dX3_read_30 flX3_18 ki_3_3 nf_3_3 sS_15 kk_15 rfl (fun m5 => ?_)
  refine rf_aload_n (n := 34) 0 dX3_read_33 rfl rfl rfl ?_
  refine rf_iconst (n := 35) (0 : Int32) dX3_read_34 cciconst_0 rfl ?_
  refine rf_pfZ (n := 38) hG rfl (Or.inl rfl) dX3_read_35 flX3_44 ki_3_10 nf_3_10 sS_15 kk_15 rfl (fun m6 => ?_)
  refine rf_aload_n (n := 39) 0 dX3_read_38 rfl rfl rfl ?_
  refine rf_iconst (n := 40) (0 : Int32) dX3_read_39 cciconst_0 rfl ?_
  refine rf_pfZ (n := 43) hG rfl (Or.inl rfl) dX3_read_40 flX3_48 ki_3_11 nf_3_11 sS_15 kk_15 rfl (fun m7 => ?_)
  refine rf_aload_n (n := 44) 0 dX3_read_43 rfl rfl rfl ?_
  refine rf_iconst (n := 45) (0 : Int32) dX3_read_44 cciconst_0 rfl ?_
  refine rf_pfZ (n := 48) hG rfl (Or.inl rfl) dX3_read_45 flX3_51 ki_3_12 nf_3_12 sS_15 kk_15 rfl (fun m8 => ?_)
  refine rf_aload_n (n := 49) 0 dX3_read_48 rfl rfl rfl ?_
  refine rf_getR (n := 52) rr_15_0 kk_16 hG dX3_read_49 flX3_12 ki_3_0 sS_15 kk_15 rfl ?_
  refine rf_cV0V (n := 55) hG (okX1_clear _) lVX3_54 hhX1_clear kk_16 sS_16 ⟨_, rfl, rfl⟩ dX3_read_52 rfl (Nat.le_of_ble_eq_true rfl) (Nat.le_of_ble_eq_true rfl) (fun _ m10 => ?_)
  refine rf_iconst (n := 56) (0 : Int32) dX3_read_55 cciconst_0 rfl ?_
  refine rf_istore_n (lc2 := [some (.ref 15), some (.int p1), some (.int (0 : Int32))]) (n := 57) 2 dX3_read_56 rfl rfl (Nat.le_of_ble_eq_true rfl) rfl rfl ?_
  refine rf_mask (lc2 := [some (.ref 15), none, some (.int (0 : Int32))]) [true, false, true] rfl ?_
  exact pX3_read_L57 hG _ _ _
